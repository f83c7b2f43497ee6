/-! THE CLAIM OUT OF ONE WALK OF THE LAW'S BODY. Your part is whole_start (and what it stands on); all else here is the same for every law, but numbers. -/
def R_law : String := "BinderyDeskLaw"
def lw_P (b : Addr) (xs : List Int32) (args : Array Value) (s : State) : Prop := args = #[.ref b] ∧ s.IntsAt b xs ∧ xs.length ≤ 2048 ∧ (Jvm.Cond.and given_1 narrow_1).before args s = true
/-- what a walk over the start with the record d0 says of its end, said of the start itself -/
theorem lw_closed {s t : State} {o : Outcome} {d0 : Drawn} {L : List Loc} {k n : Nat} (hd0 : s.drawn.sameBut d0 lw_cs) (hv : ∃ v, o = .returned v) (hW : (s.setDrawn d0).WarmedH t.vm) (hs : (s.setDrawn d0).sameButNew ({ t with vm := s.vm } : State) L k n) : State.butDraws s t lw_cs (fun t1 => Framed s o t1 L k n) := by
  have h2 : t.drawn = d0 := congrArg State.drawn hs.1
  refine ⟨⟨hv, hW, State.sameButNew.setDrawn hs s.drawn⟩, ?_, by decide⟩
  rw [h2]
  exact hd0
def lw_Q (_ : Array Value) (s : State) (o : Outcome) (t : State) : Prop := o = .returned (some (.int 1)) ∧ State.butDraws s t lw_cs (fun t1 => Framed s o t1 [] 603072 7202922)
def lw_Z (below : List Frame) (a : Array Value) (s : State) : State → Prop := fun t => ∃ o, t.status = .running ∧ Ended t below o ∧ lw_Q a s o t
/-- the law's own end, with 1 on the stack, nothing written that was there before, its room as the claim has it; d0: the record of draws at this point (at the entry s.drawn: begin with 'refine W.base ?_' and 'have hd0 := Drawn.sameBut.refl s.drawn lw_cs') -/
theorem lw_ret {p : Program} {l : Launch} {e : Env} {s : State} {m : MethodId} {below : List Frame} {meth : Method} {c : Code} {b : Nat} {d0 : Drawn} (hd0 : s.drawn.sameBut d0 lw_cs) (hx : p.tables.exec = Jvm.exec) (hb : c.code = code) (hr : meth.sig.returnType = ret) (hlocks : meth.locks = false) {pc : Nat} {H : Heap} {ls : Array Slot} (hdg : decode code pc = .ok (.ireturn, 1)) : W p l e room_1 (s.setDrawn d0) m #[Value.ref b] below meth c H [] 603072 7202922 (lw_Z below #[Value.ref b] s) (F0 m pc ls [.int 1]) := by
  intro T hT X
  obtain ⟨fs, hret, hrun, hended, hW, hframe⟩ := X.leave (v := some (.int 1)) (hlocks := hlocks) (fun h => by rw [hr] at h; cases h)
  have hmeth' : T.vm.method? m = some meth := X.method'
  refine ⟨T.setFrames fs, ?_, .returned (some (.int 1)), hrun, hended, rfl, lw_closed hd0 ⟨_, rfl⟩ hW hframe⟩
  jvm_step X.here [X.here.top, hx, hb, hdg, hmeth', hr, ret, narrow_b1]
  (try refine ⟨rfl, ?_⟩); (try refine ⟨rfl, ?_⟩)
  first | (intro acts; rw [hret _ acts rfl rfl rfl]) | rw [hret _ _ rfl rfl rfl]
  exact Steps.refl _
/-- what holds at the law's entry: the machine, the code, the tables' words (any of lw_tbl by 'hts w (by decide +kernel)'), the script of L ints xs at the cell b, what the Statement gives of the start (any of its parts by flat_of_before) -/
def lw_At (p : Program) (s : State) (m : MethodId) (meth : Method) (c : Code) (b L : Nat) (xs : Nat → Int32) : Prop :=
  p.tables.exec = Jvm.exec ∧ c.code = code ∧ meth.sig.returnType = ret ∧ c.maxLocals = 9 ∧ s.vm.findClass R_law = some m.cls ∧ (∀ w ∈ lw_tbl, w.before #[Value.ref b] s = true) ∧ va_X b L xs s s.heap ∧ b < s.heap.size ∧ meth.locks = false ∧ (Jvm.Cond.and given_1 narrow_1).before #[Value.ref b] s = true
theorem law_c {a : Nat} (h : a ≤ 603072) : a ≤ room_1.cells := h
theorem law_s {a : Nat} (h : a ≤ 7202922) : a ≤ room_1.slots := h
theorem law_end {p : Program} {l : Launch} {e : Env} {s : State} {m : MethodId} {below : List Frame} {meth : Method} {c : Code} {G : GT} {b : Nat} {S : Mem} {H : Heap} {locs : List Loc} {ls : Array Slot} {kc ks pc : Nat} {v : Int32} (X : Cx p s m #[Value.ref b] meth c cL_law 9 RL G (fun q : Nat => s.heap.size ≤ q)) (h : Hx G (fun q : Nat => s.heap.size ≤ q) s.heap H locs S) (hr : meth.sig.returnType = ret) (hlk : meth.locks = false) (hv : v = 1) (hkc : kc ≤ 603072) (hks : ks ≤ 7202922) (d : decode cL_law pc = .ok (.ireturn, 1)) : W p l e room_1 s m #[Value.ref b] below meth c H locs kc ks (lw_Z below #[Value.ref b] s) (F0 m pc ls [.int v]) := by
  subst hv
  refine va_forget (fun q hq => h.2.2.2.2 q hq) ?_
  refine W.widen hkc hks ?_
  exact lw_ret (d0 := s.drawn) (Drawn.sameBut.refl s.drawn lw_cs) X.1 X.2.1 hr hlk d
def wlL_law_28 (o1 : Nat) (o5 : Nat) (o9 : Nat) (o11 : Nat) (L : Nat) (xs : Nat → Int32) (post : Int32 → Mem → Prop) : Nat → Int32 → Mem → Prop
  | 0 => fun _ _ => False
  | n + 1 => fun w5 S => (((nI L) - (nI 4)) < w5 → (post (nI 1) S)) ∧ (¬ ((nI L) - (nI 4)) < w5 → (vp_in w5 L ∧ ((¬ (0 ≤ ((xs w5.toNatClampNeg) &&& (nI 31)).toInt ∧ ((xs w5.toNatClampNeg) &&& (nI 31)).toInt < 27) → (∀ x16 : Int32, x16 = (w5 + (nI 4)) → (wlL_law_28 o1 o5 o9 o11 L xs post n x16 S))) ∧ (((xs w5.toNatClampNeg) &&& (nI 31)) = nI 0 → (wpL_addContent S o1 o9 (fun x18 S17 => isK S17 o5 7 ∧ (wpX7_addContent S17 o5 (fun x21 S19 => isK S19 o5 7 ∧ (wpX7_thrown S19 o5 (fun x24 S22 => (x24 = x18 → ((¬ x18 = 0 → (∀ x27 : Int32, x27 = (w5 + (nI 4)) → (wlL_law_28 o1 o5 o9 o11 L xs post n x27 S22))) ∧ (x18 = 0 → (isK S22 o9 12 ∧ (vp_in (nI 0) (mN S22 o9) ∧ (((lg_cmp (mJ S22 o9 (nI 0).toNatClampNeg) x21.toInt64) = 0 → (∀ x31 : Int32, x31 = (w5 + (nI 4)) → (wlL_law_28 o1 o5 o9 o11 L xs post n x31 S22))) ∧ (¬ (lg_cmp (mJ S22 o9 (nI 0).toNatClampNeg) x21.toInt64) = 0 → (post (nI 0) S22)))))))) ∧ (¬ x24 = x18 → (post (nI 0) S22))))))))) ∧ (((xs w5.toNatClampNeg) &&& (nI 31)) = nI 1 → (vp_in (w5 + (nI 1)) L ∧ (wpL_approve S o1 (xs (w5 + (nI 1)).toNatClampNeg) o9 (fun x34 S33 => vp_in (w5 + (nI 1)) L ∧ (isK S33 o5 7 ∧ (wpX7_approve S33 o5 (xs (w5 + (nI 1)).toNatClampNeg) (fun x38 S36 => isK S36 o5 7 ∧ (wpX7_thrown S36 o5 (fun x41 S39 => (x41 = x34 → ((¬ x34 = 0 → (∀ x44 : Int32, x44 = (w5 + (nI 4)) → (wlL_law_28 o1 o5 o9 o11 L xs post n x44 S39))) ∧ (x34 = 0 → (isK S39 o9 12 ∧ (vp_in (nI 0) (mN S39 o9) ∧ ((x38 = 0 → (((lg_cmp (mJ S39 o9 (nI 0).toNatClampNeg) (0 : Int64)) = 0 → (∀ x49 : Int32, x49 = (w5 + (nI 4)) → (wlL_law_28 o1 o5 o9 o11 L xs post n x49 S39))) ∧ (¬ (lg_cmp (mJ S39 o9 (nI 0).toNatClampNeg) (0 : Int64)) = 0 → (post (nI 0) S39)))) ∧ (¬ x38 = 0 → (((lg_cmp (mJ S39 o9 (nI 0).toNatClampNeg) (1 : Int64)) = 0 → (∀ x51 : Int32, x51 = (w5 + (nI 4)) → (wlL_law_28 o1 o5 o9 o11 L xs post n x51 S39))) ∧ (¬ (lg_cmp (mJ S39 o9 (nI 0).toNatClampNeg) (1 : Int64)) = 0 → (post (nI 0) S39)))))))))) ∧ (¬ x41 = x34 → (post (nI 0) S39))))))))))) ∧ (((xs w5.toNatClampNeg) &&& (nI 31)) = nI 2 → (vp_in (w5 + (nI 1)) L ∧ (wpL_correct S o1 (xs (w5 + (nI 1)).toNatClampNeg) o9 (fun x54 S53 => vp_in (w5 + (nI 1)) L ∧ (isK S53 o5 7 ∧ (wpX7_correct S53 o5 (xs (w5 + (nI 1)).toNatClampNeg) (fun x58 S56 => isK S56 o5 7 ∧ (wpX7_thrown S56 o5 (fun x61 S59 => (x61 = x54 → ((¬ x54 = 0 → (∀ x64 : Int32, x64 = (w5 + (nI 4)) → (wlL_law_28 o1 o5 o9 o11 L xs post n x64 S59))) ∧ (x54 = 0 → (isK S59 o9 12 ∧ (vp_in (nI 0) (mN S59 o9) ∧ (((lg_cmp (mJ S59 o9 (nI 0).toNatClampNeg) x58.toInt64) = 0 → (∀ x68 : Int32, x68 = (w5 + (nI 4)) → (wlL_law_28 o1 o5 o9 o11 L xs post n x68 S59))) ∧ (¬ (lg_cmp (mJ S59 o9 (nI 0).toNatClampNeg) x58.toInt64) = 0 → (post (nI 0) S59)))))))) ∧ (¬ x61 = x54 → (post (nI 0) S59))))))))))) ∧ (((xs w5.toNatClampNeg) &&& (nI 31)) = nI 3 → (vp_in (w5 + (nI 1)) L ∧ (wpL_state S o1 (xs (w5 + (nI 1)).toNatClampNeg) o9 (fun x71 S70 => vp_in (w5 + (nI 1)) L ∧ (isK S70 o5 7 ∧ (wpX7_state S70 o5 (xs (w5 + (nI 1)).toNatClampNeg) (fun x75 S73 => isK S73 o5 7 ∧ (wpX7_thrown S73 o5 (fun x78 S76 => (x78 = x71 → ((¬ x71 = 0 → (∀ x81 : Int32, x81 = (w5 + (nI 4)) → (wlL_law_28 o1 o5 o9 o11 L xs post n x81 S76))) ∧ (x71 = 0 → (isK S76 o9 12 ∧ (vp_in (nI 0) (mN S76 o9) ∧ (((lg_cmp (mJ S76 o9 (nI 0).toNatClampNeg) x75.toInt64) = 0 → (∀ x85 : Int32, x85 = (w5 + (nI 4)) → (wlL_law_28 o1 o5 o9 o11 L xs post n x85 S76))) ∧ (¬ (lg_cmp (mJ S76 o9 (nI 0).toNatClampNeg) x75.toInt64) = 0 → (post (nI 0) S76)))))))) ∧ (¬ x78 = x71 → (post (nI 0) S76))))))))))) ∧ (((xs w5.toNatClampNeg) &&& (nI 31)) = nI 4 → (vp_in (w5 + (nI 1)) L ∧ (wpL_addJob S o1 ((xs (w5 + (nI 1)).toNatClampNeg).toUInt32 % 65536).toInt32 o9 (fun x88 S87 => vp_in (w5 + (nI 1)) L ∧ (isK S87 o5 7 ∧ (wpX7_addJob S87 o5 ((xs (w5 + (nI 1)).toNatClampNeg).toUInt32 % 65536).toInt32 (fun x92 S90 => isK S90 o5 7 ∧ (wpX7_thrown S90 o5 (fun x95 S93 => (x95 = x88 → ((¬ x88 = 0 → (∀ x98 : Int32, x98 = (w5 + (nI 4)) → (wlL_law_28 o1 o5 o9 o11 L xs post n x98 S93))) ∧ (x88 = 0 → (isK S93 o9 12 ∧ (vp_in (nI 0) (mN S93 o9) ∧ (((lg_cmp (mJ S93 o9 (nI 0).toNatClampNeg) x92.toInt64) = 0 → (∀ x102 : Int32, x102 = (w5 + (nI 4)) → (wlL_law_28 o1 o5 o9 o11 L xs post n x102 S93))) ∧ (¬ (lg_cmp (mJ S93 o9 (nI 0).toNatClampNeg) x92.toInt64) = 0 → (post (nI 0) S93)))))))) ∧ (¬ x95 = x88 → (post (nI 0) S93))))))))))) ∧ (((xs w5.toNatClampNeg) &&& (nI 31)) = nI 5 → (vp_in (w5 + (nI 1)) L ∧ (vp_in (w5 + (nI 2)) L ∧ (wpL_addPage S o1 (xs (w5 + (nI 1)).toNatClampNeg) (xs (w5 + (nI 2)).toNatClampNeg) o9 (fun x106 S105 => vp_in (w5 + (nI 1)) L ∧ (vp_in (w5 + (nI 2)) L ∧ (isK S105 o5 7 ∧ (wpX7_addPage S105 o5 (xs (w5 + (nI 1)).toNatClampNeg) (xs (w5 + (nI 2)).toNatClampNeg) (fun x111 S109 => isK S109 o5 7 ∧ (wpX7_thrown S109 o5 (fun x114 S112 => (x114 = x106 → ((¬ x106 = 0 → (∀ x117 : Int32, x117 = (w5 + (nI 4)) → (wlL_law_28 o1 o5 o9 o11 L xs post n x117 S112))) ∧ (x106 = 0 → (isK S112 o9 12 ∧ (vp_in (nI 0) (mN S112 o9) ∧ (((lg_cmp (mJ S112 o9 (nI 0).toNatClampNeg) x111.toInt64) = 0 → (∀ x121 : Int32, x121 = (w5 + (nI 4)) → (wlL_law_28 o1 o5 o9 o11 L xs post n x121 S112))) ∧ (¬ (lg_cmp (mJ S112 o9 (nI 0).toNatClampNeg) x111.toInt64) = 0 → (post (nI 0) S112)))))))) ∧ (¬ x114 = x106 → (post (nI 0) S112))))))))))))) ∧ (((xs w5.toNatClampNeg) &&& (nI 31)) = nI 6 → (vp_in (w5 + (nI 1)) L ∧ (wpL_pages S o1 (xs (w5 + (nI 1)).toNatClampNeg) o9 (fun x124 S123 => vp_in (w5 + (nI 1)) L ∧ (isK S123 o5 7 ∧ (wpX7_pages S123 o5 (xs (w5 + (nI 1)).toNatClampNeg) (fun x128 S126 => isK S126 o5 7 ∧ (wpX7_thrown S126 o5 (fun x131 S129 => (x131 = x124 → ((¬ x124 = 0 → (∀ x134 : Int32, x134 = (w5 + (nI 4)) → (wlL_law_28 o1 o5 o9 o11 L xs post n x134 S129))) ∧ (x124 = 0 → (isK S129 o9 12 ∧ (vp_in (nI 0) (mN S129 o9) ∧ (((lg_cmp (mJ S129 o9 (nI 0).toNatClampNeg) x128.toInt64) = 0 → (∀ x138 : Int32, x138 = (w5 + (nI 4)) → (wlL_law_28 o1 o5 o9 o11 L xs post n x138 S129))) ∧ (¬ (lg_cmp (mJ S129 o9 (nI 0).toNatClampNeg) x128.toInt64) = 0 → (post (nI 0) S129)))))))) ∧ (¬ x131 = x124 → (post (nI 0) S129))))))))))) ∧ (((xs w5.toNatClampNeg) &&& (nI 31)) = nI 7 → (vp_in (w5 + (nI 1)) L ∧ (wpL_sheets S o1 (xs (w5 + (nI 1)).toNatClampNeg) o9 (fun x141 S140 => vp_in (w5 + (nI 1)) L ∧ (isK S140 o5 7 ∧ (wpX7_sheets S140 o5 (xs (w5 + (nI 1)).toNatClampNeg) (fun x145 S143 => isK S143 o5 7 ∧ (wpX7_thrown S143 o5 (fun x148 S146 => (x148 = x141 → ((¬ x141 = 0 → (∀ x151 : Int32, x151 = (w5 + (nI 4)) → (wlL_law_28 o1 o5 o9 o11 L xs post n x151 S146))) ∧ (x141 = 0 → (isK S146 o9 12 ∧ (vp_in (nI 0) (mN S146 o9) ∧ (((lg_cmp (mJ S146 o9 (nI 0).toNatClampNeg) x145.toInt64) = 0 → (∀ x155 : Int32, x155 = (w5 + (nI 4)) → (wlL_law_28 o1 o5 o9 o11 L xs post n x155 S146))) ∧ (¬ (lg_cmp (mJ S146 o9 (nI 0).toNatClampNeg) x145.toInt64) = 0 → (post (nI 0) S146)))))))) ∧ (¬ x148 = x141 → (post (nI 0) S146))))))))))) ∧ (((xs w5.toNatClampNeg) &&& (nI 31)) = nI 8 → (vp_in (w5 + (nI 1)) L ∧ (vp_in (w5 + (nI 2)) L ∧ (vp_in (w5 + (nI 3)) L ∧ (wpL_pageAt S o1 (xs (w5 + (nI 1)).toNatClampNeg) (xs (w5 + (nI 2)).toNatClampNeg) (xs (w5 + (nI 3)).toNatClampNeg) o9 (fun x160 S159 => vp_in (w5 + (nI 1)) L ∧ (vp_in (w5 + (nI 2)) L ∧ (vp_in (w5 + (nI 3)) L ∧ (isK S159 o5 7 ∧ (wpX7_pageAt S159 o5 (xs (w5 + (nI 1)).toNatClampNeg) (xs (w5 + (nI 2)).toNatClampNeg) (xs (w5 + (nI 3)).toNatClampNeg) (fun x166 S164 => isK S164 o5 7 ∧ (wpX7_thrown S164 o5 (fun x169 S167 => (x169 = x160 → ((¬ x160 = 0 → (∀ x172 : Int32, x172 = (w5 + (nI 4)) → (wlL_law_28 o1 o5 o9 o11 L xs post n x172 S167))) ∧ (x160 = 0 → (isK S167 o9 12 ∧ (vp_in (nI 0) (mN S167 o9) ∧ (((lg_cmp (mJ S167 o9 (nI 0).toNatClampNeg) x166.toInt64) = 0 → (∀ x176 : Int32, x176 = (w5 + (nI 4)) → (wlL_law_28 o1 o5 o9 o11 L xs post n x176 S167))) ∧ (¬ (lg_cmp (mJ S167 o9 (nI 0).toNatClampNeg) x166.toInt64) = 0 → (post (nI 0) S167)))))))) ∧ (¬ x169 = x160 → (post (nI 0) S167))))))))))))))) ∧ (((xs w5.toNatClampNeg) &&& (nI 31)) = nI 9 → (vp_in (w5 + (nI 1)) L ∧ (vp_in (w5 + (nI 2)) L ∧ (wpL_sheetOf S o1 (xs (w5 + (nI 1)).toNatClampNeg) (xs (w5 + (nI 2)).toNatClampNeg) o9 (fun x180 S179 => vp_in (w5 + (nI 1)) L ∧ (vp_in (w5 + (nI 2)) L ∧ (isK S179 o5 7 ∧ (wpX7_sheetOf S179 o5 (xs (w5 + (nI 1)).toNatClampNeg) (xs (w5 + (nI 2)).toNatClampNeg) (fun x185 S183 => isK S183 o5 7 ∧ (wpX7_thrown S183 o5 (fun x188 S186 => (x188 = x180 → ((¬ x180 = 0 → (∀ x191 : Int32, x191 = (w5 + (nI 4)) → (wlL_law_28 o1 o5 o9 o11 L xs post n x191 S186))) ∧ (x180 = 0 → (isK S186 o9 12 ∧ (vp_in (nI 0) (mN S186 o9) ∧ (((lg_cmp (mJ S186 o9 (nI 0).toNatClampNeg) x185.toInt64) = 0 → (∀ x195 : Int32, x195 = (w5 + (nI 4)) → (wlL_law_28 o1 o5 o9 o11 L xs post n x195 S186))) ∧ (¬ (lg_cmp (mJ S186 o9 (nI 0).toNatClampNeg) x185.toInt64) = 0 → (post (nI 0) S186)))))))) ∧ (¬ x188 = x180 → (post (nI 0) S186))))))))))))) ∧ (((xs w5.toNatClampNeg) &&& (nI 31)) = nI 10 → (vp_in (w5 + (nI 1)) L ∧ (vp_in (w5 + (nI 2)) L ∧ (vp_in (w5 + (nI 3)) L ∧ (wpL_print S o1 (xs (w5 + (nI 1)).toNatClampNeg) (xs (w5 + (nI 2)).toNatClampNeg) (xs (w5 + (nI 3)).toNatClampNeg) o9 (fun x200 S199 => vp_in (w5 + (nI 1)) L ∧ (vp_in (w5 + (nI 2)) L ∧ (vp_in (w5 + (nI 3)) L ∧ (isK S199 o5 7 ∧ (wpX7_print S199 o5 (xs (w5 + (nI 1)).toNatClampNeg) (xs (w5 + (nI 2)).toNatClampNeg) (xs (w5 + (nI 3)).toNatClampNeg) (fun x206 S204 => isK S204 o5 7 ∧ (wpX7_thrown S204 o5 (fun x209 S207 => (x209 = x200 → ((¬ x200 = 0 → (∀ x212 : Int32, x212 = (w5 + (nI 4)) → (wlL_law_28 o1 o5 o9 o11 L xs post n x212 S207))) ∧ (x200 = 0 → (isK S207 o9 12 ∧ (vp_in (nI 0) (mN S207 o9) ∧ (((lg_cmp (mJ S207 o9 (nI 0).toNatClampNeg) x206.toInt64) = 0 → (∀ x216 : Int32, x216 = (w5 + (nI 4)) → (wlL_law_28 o1 o5 o9 o11 L xs post n x216 S207))) ∧ (¬ (lg_cmp (mJ S207 o9 (nI 0).toNatClampNeg) x206.toInt64) = 0 → (post (nI 0) S207)))))))) ∧ (¬ x209 = x200 → (post (nI 0) S207))))))))))))))) ∧ (((xs w5.toNatClampNeg) &&& (nI 31)) = nI 11 → (vp_in (w5 + (nI 1)) L ∧ (vp_in (w5 + (nI 2)) L ∧ (wpL_makeready S o1 (xs (w5 + (nI 1)).toNatClampNeg) (xs (w5 + (nI 2)).toNatClampNeg) o9 (fun x220 S219 => vp_in (w5 + (nI 1)) L ∧ (vp_in (w5 + (nI 2)) L ∧ (isK S219 o5 7 ∧ (wpX7_makeready S219 o5 (xs (w5 + (nI 1)).toNatClampNeg) (xs (w5 + (nI 2)).toNatClampNeg) (fun x225 S223 => isK S223 o5 7 ∧ (wpX7_thrown S223 o5 (fun x228 S226 => (x228 = x220 → ((¬ x220 = 0 → (∀ x231 : Int32, x231 = (w5 + (nI 4)) → (wlL_law_28 o1 o5 o9 o11 L xs post n x231 S226))) ∧ (x220 = 0 → (isK S226 o9 12 ∧ (vp_in (nI 0) (mN S226 o9) ∧ (((lg_cmp (mJ S226 o9 (nI 0).toNatClampNeg) x225.toInt64) = 0 → (∀ x235 : Int32, x235 = (w5 + (nI 4)) → (wlL_law_28 o1 o5 o9 o11 L xs post n x235 S226))) ∧ (¬ (lg_cmp (mJ S226 o9 (nI 0).toNatClampNeg) x225.toInt64) = 0 → (post (nI 0) S226)))))))) ∧ (¬ x228 = x220 → (post (nI 0) S226))))))))))))) ∧ (((xs w5.toNatClampNeg) &&& (nI 31)) = nI 12 → (vp_in (w5 + (nI 1)) L ∧ (wpL_leastMakeready S o1 (xs (w5 + (nI 1)).toNatClampNeg) o9 (fun x238 S237 => vp_in (w5 + (nI 1)) L ∧ (isK S237 o5 7 ∧ (wpX7_leastMakeready S237 o5 (xs (w5 + (nI 1)).toNatClampNeg) (fun x242 S240 => isK S240 o5 7 ∧ (wpX7_thrown S240 o5 (fun x245 S243 => (x245 = x238 → ((¬ x238 = 0 → (∀ x248 : Int32, x248 = (w5 + (nI 4)) → (wlL_law_28 o1 o5 o9 o11 L xs post n x248 S243))) ∧ (x238 = 0 → (isK S243 o9 12 ∧ (vp_in (nI 0) (mN S243 o9) ∧ (((lg_cmp (mJ S243 o9 (nI 0).toNatClampNeg) x242.toInt64) = 0 → (∀ x252 : Int32, x252 = (w5 + (nI 4)) → (wlL_law_28 o1 o5 o9 o11 L xs post n x252 S243))) ∧ (¬ (lg_cmp (mJ S243 o9 (nI 0).toNatClampNeg) x242.toInt64) = 0 → (post (nI 0) S243)))))))) ∧ (¬ x245 = x238 → (post (nI 0) S243))))))))))) ∧ (((xs w5.toNatClampNeg) &&& (nI 31)) = nI 13 → (vp_in (w5 + (nI 1)) L ∧ (wpL_leastByTrying S o1 (xs (w5 + (nI 1)).toNatClampNeg) o9 (fun x255 S254 => vp_in (w5 + (nI 1)) L ∧ (isK S254 o5 7 ∧ (wpX7_leastByTrying S254 o5 (xs (w5 + (nI 1)).toNatClampNeg) (fun x259 S257 => isK S257 o5 7 ∧ (wpX7_thrown S257 o5 (fun x262 S260 => (x262 = x255 → ((¬ x255 = 0 → (∀ x265 : Int32, x265 = (w5 + (nI 4)) → (wlL_law_28 o1 o5 o9 o11 L xs post n x265 S260))) ∧ (x255 = 0 → (isK S260 o9 12 ∧ (vp_in (nI 0) (mN S260 o9) ∧ (((lg_cmp (mJ S260 o9 (nI 0).toNatClampNeg) x259.toInt64) = 0 → (∀ x269 : Int32, x269 = (w5 + (nI 4)) → (wlL_law_28 o1 o5 o9 o11 L xs post n x269 S260))) ∧ (¬ (lg_cmp (mJ S260 o9 (nI 0).toNatClampNeg) x259.toInt64) = 0 → (post (nI 0) S260)))))))) ∧ (¬ x262 = x255 → (post (nI 0) S260))))))))))) ∧ (((xs w5.toNatClampNeg) &&& (nI 31)) = nI 14 → (vp_in (w5 + (nI 1)) L ∧ (vp_in (w5 + (nI 2)) L ∧ (wpL_stock S o1 (xs (w5 + (nI 1)).toNatClampNeg) (xs (w5 + (nI 2)).toNatClampNeg) o9 (fun x273 S272 => vp_in (w5 + (nI 1)) L ∧ (vp_in (w5 + (nI 2)) L ∧ (isK S272 o5 7 ∧ (wpX7_stock S272 o5 (xs (w5 + (nI 1)).toNatClampNeg) (xs (w5 + (nI 2)).toNatClampNeg) (fun x278 S276 => isK S276 o5 7 ∧ (wpX7_thrown S276 o5 (fun x281 S279 => (x281 = x273 → ((¬ x273 = 0 → (∀ x284 : Int32, x284 = (w5 + (nI 4)) → (wlL_law_28 o1 o5 o9 o11 L xs post n x284 S279))) ∧ (x273 = 0 → (isK S279 o9 12 ∧ (vp_in (nI 0) (mN S279 o9) ∧ (((lg_cmp (mJ S279 o9 (nI 0).toNatClampNeg) x278.toInt64) = 0 → (∀ x288 : Int32, x288 = (w5 + (nI 4)) → (wlL_law_28 o1 o5 o9 o11 L xs post n x288 S279))) ∧ (¬ (lg_cmp (mJ S279 o9 (nI 0).toNatClampNeg) x278.toInt64) = 0 → (post (nI 0) S279)))))))) ∧ (¬ x281 = x273 → (post (nI 0) S279))))))))))))) ∧ (((xs w5.toNatClampNeg) &&& (nI 31)) = nI 15 → (isK S o1 6 ∧ (wpX6_plates S o1 (fun x291 S289 => isK S289 o5 7 ∧ (wpX7_plates S289 o5 (fun x294 S292 => (x291 = x294 → (∀ x296 : Int32, x296 = (w5 + (nI 4)) → (wlL_law_28 o1 o5 o9 o11 L xs post n x296 S292))) ∧ (¬ x291 = x294 → (post (nI 0) S292)))))))) ∧ (((xs w5.toNatClampNeg) &&& (nI 31)) = nI 16 → (vp_in (w5 + (nI 1)) L ∧ (wpL_platesNeeded S o1 (xs (w5 + (nI 1)).toNatClampNeg) o9 (fun x299 S298 => vp_in (w5 + (nI 1)) L ∧ (isK S298 o5 7 ∧ (wpX7_platesNeeded S298 o5 (xs (w5 + (nI 1)).toNatClampNeg) (fun x303 S301 => isK S301 o5 7 ∧ (wpX7_thrown S301 o5 (fun x306 S304 => (x306 = x299 → ((¬ x299 = 0 → (∀ x309 : Int32, x309 = (w5 + (nI 4)) → (wlL_law_28 o1 o5 o9 o11 L xs post n x309 S304))) ∧ (x299 = 0 → (isK S304 o9 12 ∧ (vp_in (nI 0) (mN S304 o9) ∧ (((lg_cmp (mJ S304 o9 (nI 0).toNatClampNeg) x303.toInt64) = 0 → (∀ x313 : Int32, x313 = (w5 + (nI 4)) → (wlL_law_28 o1 o5 o9 o11 L xs post n x313 S304))) ∧ (¬ (lg_cmp (mJ S304 o9 (nI 0).toNatClampNeg) x303.toInt64) = 0 → (post (nI 0) S304)))))))) ∧ (¬ x306 = x299 → (post (nI 0) S304))))))))))) ∧ (((xs w5.toNatClampNeg) &&& (nI 31)) = nI 17 → (vp_in (w5 + (nI 1)) L ∧ (vp_in (w5 + (nI 2)) L ∧ (wpL_bind S o1 (xs (w5 + (nI 1)).toNatClampNeg) (xs (w5 + (nI 2)).toNatClampNeg) o9 (fun x317 S316 => vp_in (w5 + (nI 1)) L ∧ (vp_in (w5 + (nI 2)) L ∧ (isK S316 o5 7 ∧ (wpX7_bind S316 o5 (xs (w5 + (nI 1)).toNatClampNeg) (xs (w5 + (nI 2)).toNatClampNeg) (fun x322 S320 => isK S320 o5 7 ∧ (wpX7_thrown S320 o5 (fun x325 S323 => (x325 = x317 → ((¬ x317 = 0 → (∀ x328 : Int32, x328 = (w5 + (nI 4)) → (wlL_law_28 o1 o5 o9 o11 L xs post n x328 S323))) ∧ (x317 = 0 → (isK S323 o9 12 ∧ (vp_in (nI 0) (mN S323 o9) ∧ (((lg_cmp (mJ S323 o9 (nI 0).toNatClampNeg) x322.toInt64) = 0 → (∀ x332 : Int32, x332 = (w5 + (nI 4)) → (wlL_law_28 o1 o5 o9 o11 L xs post n x332 S323))) ∧ (¬ (lg_cmp (mJ S323 o9 (nI 0).toNatClampNeg) x322.toInt64) = 0 → (post (nI 0) S323)))))))) ∧ (¬ x325 = x317 → (post (nI 0) S323))))))))))))) ∧ (((xs w5.toNatClampNeg) &&& (nI 31)) = nI 18 → (vp_in (w5 + (nI 1)) L ∧ (vp_in (w5 + (nI 2)) L ∧ (wpL_lacks S o1 (xs (w5 + (nI 1)).toNatClampNeg) (xs (w5 + (nI 2)).toNatClampNeg) o9 (fun x336 S335 => vp_in (w5 + (nI 1)) L ∧ (vp_in (w5 + (nI 2)) L ∧ (isK S335 o5 7 ∧ (wpX7_lacks S335 o5 (xs (w5 + (nI 1)).toNatClampNeg) (xs (w5 + (nI 2)).toNatClampNeg) (fun x341 S339 => isK S339 o5 7 ∧ (wpX7_thrown S339 o5 (fun x344 S342 => (x344 = x336 → ((¬ x336 = 0 → (∀ x347 : Int32, x347 = (w5 + (nI 4)) → (wlL_law_28 o1 o5 o9 o11 L xs post n x347 S342))) ∧ (x336 = 0 → (isK S342 o9 12 ∧ (vp_in (nI 0) (mN S342 o9) ∧ (((lg_cmp (mJ S342 o9 (nI 0).toNatClampNeg) x341.toInt64) = 0 → (∀ x351 : Int32, x351 = (w5 + (nI 4)) → (wlL_law_28 o1 o5 o9 o11 L xs post n x351 S342))) ∧ (¬ (lg_cmp (mJ S342 o9 (nI 0).toNatClampNeg) x341.toInt64) = 0 → (post (nI 0) S342)))))))) ∧ (¬ x344 = x336 → (post (nI 0) S342))))))))))))) ∧ (((xs w5.toNatClampNeg) &&& (nI 31)) = nI 19 → (isK S o1 6 ∧ (wpX6_lots S o1 (fun x354 S352 => isK S352 o5 7 ∧ (wpX7_lots S352 o5 (fun x357 S355 => (x354 = x357 → (∀ x359 : Int32, x359 = (w5 + (nI 4)) → (wlL_law_28 o1 o5 o9 o11 L xs post n x359 S355))) ∧ (¬ x354 = x357 → (post (nI 0) S355)))))))) ∧ (((xs w5.toNatClampNeg) &&& (nI 31)) = nI 20 → (vp_in (w5 + (nI 1)) L ∧ (wpL_copies S o1 (xs (w5 + (nI 1)).toNatClampNeg) o9 (fun x362 S361 => vp_in (w5 + (nI 1)) L ∧ (isK S361 o5 7 ∧ (wpX7_copies S361 o5 (xs (w5 + (nI 1)).toNatClampNeg) (fun x366 S364 => isK S364 o5 7 ∧ (wpX7_thrown S364 o5 (fun x369 S367 => (x369 = x362 → ((¬ x362 = 0 → (∀ x372 : Int32, x372 = (w5 + (nI 4)) → (wlL_law_28 o1 o5 o9 o11 L xs post n x372 S367))) ∧ (x362 = 0 → (isK S367 o9 12 ∧ (vp_in (nI 0) (mN S367 o9) ∧ (((lg_cmp (mJ S367 o9 (nI 0).toNatClampNeg) x366.toInt64) = 0 → (∀ x376 : Int32, x376 = (w5 + (nI 4)) → (wlL_law_28 o1 o5 o9 o11 L xs post n x376 S367))) ∧ (¬ (lg_cmp (mJ S367 o9 (nI 0).toNatClampNeg) x366.toInt64) = 0 → (post (nI 0) S367)))))))) ∧ (¬ x369 = x362 → (post (nI 0) S367))))))))))) ∧ (((xs w5.toNatClampNeg) &&& (nI 31)) = nI 21 → (vp_in (w5 + (nI 1)) L ∧ (vp_in (w5 + (nI 2)) L ∧ (wpL_stateIn S o1 (xs (w5 + (nI 1)).toNatClampNeg) (xs (w5 + (nI 2)).toNatClampNeg) o9 (fun x380 S379 => vp_in (w5 + (nI 1)) L ∧ (vp_in (w5 + (nI 2)) L ∧ (isK S379 o5 7 ∧ (wpX7_stateIn S379 o5 (xs (w5 + (nI 1)).toNatClampNeg) (xs (w5 + (nI 2)).toNatClampNeg) (fun x385 S383 => isK S383 o5 7 ∧ (wpX7_thrown S383 o5 (fun x388 S386 => (x388 = x380 → ((¬ x380 = 0 → (∀ x391 : Int32, x391 = (w5 + (nI 4)) → (wlL_law_28 o1 o5 o9 o11 L xs post n x391 S386))) ∧ (x380 = 0 → (isK S386 o9 12 ∧ (vp_in (nI 0) (mN S386 o9) ∧ (((lg_cmp (mJ S386 o9 (nI 0).toNatClampNeg) x385.toInt64) = 0 → (∀ x395 : Int32, x395 = (w5 + (nI 4)) → (wlL_law_28 o1 o5 o9 o11 L xs post n x395 S386))) ∧ (¬ (lg_cmp (mJ S386 o9 (nI 0).toNatClampNeg) x385.toInt64) = 0 → (post (nI 0) S386)))))))) ∧ (¬ x388 = x380 → (post (nI 0) S386))))))))))))) ∧ (((xs w5.toNatClampNeg) &&& (nI 31)) = nI 22 → (vp_in (w5 + (nI 1)) L ∧ (vp_in (w5 + (nI 2)) L ∧ (wpL_stateByReplay S o1 (xs (w5 + (nI 1)).toNatClampNeg) (xs (w5 + (nI 2)).toNatClampNeg) o9 (fun x399 S398 => vp_in (w5 + (nI 1)) L ∧ (vp_in (w5 + (nI 2)) L ∧ (isK S398 o5 7 ∧ (wpX7_stateByReplay S398 o5 (xs (w5 + (nI 1)).toNatClampNeg) (xs (w5 + (nI 2)).toNatClampNeg) (fun x404 S402 => isK S402 o5 7 ∧ (wpX7_thrown S402 o5 (fun x407 S405 => (x407 = x399 → ((¬ x399 = 0 → (∀ x410 : Int32, x410 = (w5 + (nI 4)) → (wlL_law_28 o1 o5 o9 o11 L xs post n x410 S405))) ∧ (x399 = 0 → (isK S405 o9 12 ∧ (vp_in (nI 0) (mN S405 o9) ∧ (((lg_cmp (mJ S405 o9 (nI 0).toNatClampNeg) x404.toInt64) = 0 → (∀ x414 : Int32, x414 = (w5 + (nI 4)) → (wlL_law_28 o1 o5 o9 o11 L xs post n x414 S405))) ∧ (¬ (lg_cmp (mJ S405 o9 (nI 0).toNatClampNeg) x404.toInt64) = 0 → (post (nI 0) S405)))))))) ∧ (¬ x407 = x399 → (post (nI 0) S405))))))))))))) ∧ (((xs w5.toNatClampNeg) &&& (nI 31)) = nI 23 → (vp_in (w5 + (nI 1)) L ∧ (wpL_outdated S o1 (xs (w5 + (nI 1)).toNatClampNeg) o9 (fun x417 S416 => vp_in (w5 + (nI 1)) L ∧ (isK S416 o5 7 ∧ (wpX7_outdated S416 o5 (xs (w5 + (nI 1)).toNatClampNeg) (fun x421 S419 => isK S419 o5 7 ∧ (wpX7_thrown S419 o5 (fun x424 S422 => (x424 = x417 → ((¬ x417 = 0 → (∀ x427 : Int32, x427 = (w5 + (nI 4)) → (wlL_law_28 o1 o5 o9 o11 L xs post n x427 S422))) ∧ (x417 = 0 → (isK S422 o9 12 ∧ (vp_in (nI 0) (mN S422 o9) ∧ (((lg_cmp (mJ S422 o9 (nI 0).toNatClampNeg) x421.toInt64) = 0 → (∀ x431 : Int32, x431 = (w5 + (nI 4)) → (wlL_law_28 o1 o5 o9 o11 L xs post n x431 S422))) ∧ (¬ (lg_cmp (mJ S422 o9 (nI 0).toNatClampNeg) x421.toInt64) = 0 → (post (nI 0) S422)))))))) ∧ (¬ x424 = x417 → (post (nI 0) S422))))))))))) ∧ (((xs w5.toNatClampNeg) &&& (nI 31)) = nI 24 → (isK S o1 6 ∧ (wpX6_waste S o1 (fun x434 S432 => isK S432 o5 7 ∧ (wpX7_waste S432 o5 (fun x437 S435 => ((lg_cmp x434 x437) = 0 → (∀ x439 : Int32, x439 = (w5 + (nI 4)) → (wlL_law_28 o1 o5 o9 o11 L xs post n x439 S435))) ∧ (¬ (lg_cmp x434 x437) = 0 → (post (nI 0) S435)))))))) ∧ (((xs w5.toNatClampNeg) &&& (nI 31)) = nI 25 → (wpL_wasteShare S o1 o11 (fun x441 S440 => isK S440 o5 7 ∧ (wpX7_wasteShare S440 o5 (fun x444 S442 => isK S442 o5 7 ∧ (wpX7_thrown S442 o5 (fun x447 S445 => (x447 = x441 → ((¬ x441 = 0 → (∀ x450 : Int32, x450 = (w5 + (nI 4)) → (wlL_law_28 o1 o5 o9 o11 L xs post n x450 S445))) ∧ (x441 = 0 → (isK S445 o11 13 ∧ (vp_in (nI 0) (mN S445 o11) ∧ (vf_n64 (FP.f2d x444) ∧ (((Op.cmpValue (FP.dcmp (mD S445 o11 (nI 0).toNatClampNeg) (FP.f2d x444)) CmpOp.l) = 0 → (∀ x455 : Int32, x455 = (w5 + (nI 4)) → (wlL_law_28 o1 o5 o9 o11 L xs post n x455 S445))) ∧ (¬ (Op.cmpValue (FP.dcmp (mD S445 o11 (nI 0).toNatClampNeg) (FP.f2d x444)) CmpOp.l) = 0 → (vp_in (nI 0) (mN S445 o11) ∧ (vp_in (nI 0) (mN S445 o11) ∧ (((Op.cmpValue (FP.dcmp (mD S445 o11 (nI 0).toNatClampNeg) (mD S445 o11 (nI 0).toNatClampNeg)) CmpOp.l) = 0 → (post (nI 0) S445)) ∧ (¬ (Op.cmpValue (FP.dcmp (mD S445 o11 (nI 0).toNatClampNeg) (mD S445 o11 (nI 0).toNatClampNeg)) CmpOp.l) = 0 → ((¬ (Op.cmpValue (FP.fcmp x444 x444) CmpOp.l) = 0 → (∀ x460 : Int32, x460 = (w5 + (nI 4)) → (wlL_law_28 o1 o5 o9 o11 L xs post n x460 S445))) ∧ ((Op.cmpValue (FP.fcmp x444 x444) CmpOp.l) = 0 → (post (nI 0) S445))))))))))))))) ∧ (¬ x447 = x441 → (post (nI 0) S445))))))))) ∧ (((xs w5.toNatClampNeg) &&& (nI 31)) = nI 26 → (wpL_meanMakeready S o1 o11 (fun x462 S461 => isK S461 o5 7 ∧ (wpX7_meanMakeready S461 o5 (fun x465 S463 => isK S463 o5 7 ∧ (wpX7_thrown S463 o5 (fun x468 S466 => (x468 = x462 → ((¬ x462 = 0 → (∀ x471 : Int32, x471 = (w5 + (nI 4)) → (wlL_law_28 o1 o5 o9 o11 L xs post n x471 S466))) ∧ (x462 = 0 → (isK S466 o11 13 ∧ (vp_in (nI 0) (mN S466 o11) ∧ (((Op.cmpValue (FP.dcmp (mD S466 o11 (nI 0).toNatClampNeg) x465) CmpOp.l) = 0 → (∀ x475 : Int32, x475 = (w5 + (nI 4)) → (wlL_law_28 o1 o5 o9 o11 L xs post n x475 S466))) ∧ (¬ (Op.cmpValue (FP.dcmp (mD S466 o11 (nI 0).toNatClampNeg) x465) CmpOp.l) = 0 → (vp_in (nI 0) (mN S466 o11) ∧ (vp_in (nI 0) (mN S466 o11) ∧ (((Op.cmpValue (FP.dcmp (mD S466 o11 (nI 0).toNatClampNeg) (mD S466 o11 (nI 0).toNatClampNeg)) CmpOp.l) = 0 → (post (nI 0) S466)) ∧ (¬ (Op.cmpValue (FP.dcmp (mD S466 o11 (nI 0).toNatClampNeg) (mD S466 o11 (nI 0).toNatClampNeg)) CmpOp.l) = 0 → ((¬ (Op.cmpValue (FP.dcmp x465 x465) CmpOp.l) = 0 → (∀ x480 : Int32, x480 = (w5 + (nI 4)) → (wlL_law_28 o1 o5 o9 o11 L xs post n x480 S466))) ∧ ((Op.cmpValue (FP.dcmp x465 x465) CmpOp.l) = 0 → (post (nI 0) S466)))))))))))))) ∧ (¬ x468 = x462 → (post (nI 0) S466))))))))))))
set_option maxHeartbeats 40000000 in
set_option maxRecDepth 100000 in
theorem llL_law_28 {p : Program} {l : Launch} {e : Env} {s : State} {m : MethodId} {below : List Frame} {meth : Method} {c : Code} {G : GT} {b L : Nat} {xs : Nat → Int32} (X : Cx p s m #[Value.ref b] meth c cL_law 9 RL G (fun q : Nat => s.heap.size ≤ q)) (hX : va_X b L xs s s.heap) (hbl : b < s.heap.size) (hbA : ¬ (fun q : Nat => s.heap.size ≤ q) b) (hr : meth.sig.returnType = ret) (hlk : meth.locks = false) (hl9 : l.stackTraces = false) (o1 : Nat) (o5 : Nat) (o9 : Nat) (o11 : Nat) (post : Int32 → Mem → Prop) (hpost : ∀ r S, post r S → r = 1) : ∀ (n : Nat) (w5 : Int32) (S : Mem) (hw : wlL_law_28 o1 o5 o9 o11 L xs post n w5 S) (H : Heap) (locs : List Loc) (ls : Array Slot) (kc ks : Nat), kc + n * 7 ≤ 603072 → ks + n * 56 ≤ 7202922 → Hx G (fun q : Nat => s.heap.size ≤ q) s.heap H locs S → lv_has ls 9 [(0, .ref b), (1, .ref o1), (2, .ref o5), (3, .ref o9), (4, .ref o11), (5, .int w5)] → W p l e room_1 s m #[Value.ref b] below meth c H locs kc ks (lw_Z below #[Value.ref b] s) (F0 m 28 ls []) := by
  have hx := X.1
  have hb := X.2.1
  have hown := X.2.2.2.1
  intro n
  induction n with
  | zero =>
    intro _ _ hw
    exact hw.elim
  | succ n ih =>
    intro w5 S hw H locs ls kc ks hkc hks h hl
    refine lv_iload hx hb dL_law_28 (lv_at hl 5 rfl) ?_
    refine lv_aload_n hx hb dL_law_30 rfl (lv_at hl 0 rfl) ?_
    refine va_slen hx hb hX hbl hbA h.2.2 dL_law_31 ?_
    refine lv_iconst (v := (nI 4)) hx hb dL_law_32 (by decide) ?_
    refine lv_isub hx hb dL_law_33 ?_
    refine lv_icmp_gt (tgt := 1718) hx hb dL_law_34 (by decide) (fun c13 => ?_) (fun c13 => ?_)
    · have hw := hw.1 c13
      refine lv_iconst (v := (nI 1)) hx hb dL_law_1718 (by decide) ?_
      exact law_end X h hr hlk (hpost _ _ hw) (by omega) (by omega) dL_law_1719
    · have hw := hw.2 c13
      refine lv_aload_n hx hb dL_law_37 rfl (lv_at hl 0 rfl) ?_
      refine lv_iload hx hb dL_law_38 (lv_at hl 5 rfl) ?_
      obtain ⟨v14, hw⟩ := hw
      refine va_sld hx hb hX hbl hbA h.2.2 v14 dL_law_40 ?_
      refine lv_bipush (v := (nI 31)) hx hb dL_law_41 (by decide) ?_
      refine lv_iand hx hb dL_law_43 ?_
      rcases tbl_cases ((xs w5.toNatClampNeg) &&& (nI 31)) 27 (by decide) with c15 | ⟨jc15, hjc15, c15⟩
      · have hw := hw.1 c15
        refine lv_tableOut (tgt := 1712) hx hb dL_law_44 (by omega) (by decide) ?_
        obtain ⟨x16, ex16⟩ : ∃ y : Int32, y = (w5 + (nI 4)) := ⟨_, rfl⟩
        have hw := hw x16 ex16
        refine lv_iinc (v := x16) (lv' := [(5, .int x16), (0, .ref b), (1, .ref o1), (2, .ref o5), (3, .ref o9), (4, .ref o11)]) hx hb dL_law_1712 hl (k := 5) rfl (by rw [ex16]; rfl) (by decide) rfl (fun ls hl => ?_)
        refine lv_goto (tgt := 28) hx hb dL_law_1715 (by decide) ?_
        refine W.widen (k := kc + 7) (n := ks + 56) (by omega) (by omega) ?_
        exact ih _ _ hw _ _ _ _ _ (by omega) (by omega) h (lv_sub hl [1, 2, 3, 4, 5, 0] rfl)
      · have hw := hw.2
        rcases jc15 with _ | jc15
        · have hw := hw.1 c15
          refine lv_tableIn (tgt := 168) (off := 124) hx hb dL_law_44 (by rw [c15]; decide) (by rw [c15]; decide) (by rw [c15]; rfl) (by decide) ?_
          refine lv_aload_n hx hb dL_law_168 rfl (lv_at hl 1 rfl) ?_
          refine lv_aload_n hx hb dL_law_169 rfl (lv_at hl 3 rfl) ?_
          refine rc_H (As := [.ref o1, .ref o9]) (rest := []) X h (meL_addContent l hl9 G _ _ _ _ hw) gS_L_105 rfl rfl hdS_L_addContent rfl ⟨Nat.le_of_ble_eq_true rfl, Nat.le_of_ble_eq_true rfl⟩ hl.1 rfl (Nat.le_of_ble_eq_true rfl) ⟨law_c (by omega), law_s (by omega)⟩ dL_law_170 (fun x18 S17 H locs hw h => ?_)
          refine lv_istore (lv' := [(6, .int x18), (0, .ref b), (1, .ref o1), (2, .ref o5), (3, .ref o9), (4, .ref o11), (5, .int w5)]) hx hb dL_law_173 hl (by decide) rfl (fun ls hl => ?_)
          refine lv_aload_n hx hb dL_law_175 rfl (lv_at hl 3 rfl) ?_
          obtain ⟨k20, hw⟩ := hw
          refine rc_V (As := []) (rest := []) X h k20 (by decide) rfl (meX7_addContent l G _ _ _ hw) gV_L_110 rfl rfl hdV_X7_addContent rfl ⟨Nat.le_of_ble_eq_true rfl, Nat.le_of_ble_eq_true rfl⟩ hl.1 rfl (Nat.le_of_ble_eq_true rfl) ⟨law_c (by omega), law_s (by omega)⟩ dL_law_176 (fun x21 S19 H locs hw h => ?_)
          refine lv_istore (lv' := [(7, .int x21), (6, .int x18), (0, .ref b), (1, .ref o1), (2, .ref o5), (3, .ref o9), (4, .ref o11), (5, .int w5)]) hx hb dL_law_179 hl (by decide) rfl (fun ls hl => ?_)
          refine lv_aload_n hx hb dL_law_181 rfl (lv_at hl 4 rfl) ?_
          obtain ⟨k23, hw⟩ := hw
          refine rc_V (As := []) (rest := []) X h k23 (by decide) rfl (meX7_thrown l G _ _ _ hw) gV_L_111 rfl rfl hdV_X7_thrown rfl ⟨Nat.le_of_ble_eq_true rfl, Nat.le_of_ble_eq_true rfl⟩ hl.1 rfl (Nat.le_of_ble_eq_true rfl) ⟨law_c (by omega), law_s (by omega)⟩ dL_law_182 (fun x24 S22 H locs hw h => ?_)
          refine lv_iload hx hb dL_law_185 (lv_at hl 1 rfl) ?_
          refine lv_icmp_eq (tgt := 192) hx hb dL_law_187 (by decide) (fun c25 => ?_) (fun c25 => ?_)
          · have hw := hw.1 c25
            refine lv_iload hx hb dL_law_192 (lv_at hl 1 rfl) ?_
            refine lv_if_ne (tgt := 209) hx hb dL_law_194 (by decide) (fun c26 => ?_) (fun c26 => ?_)
            · have hw := hw.1 c26
              refine lv_goto (tgt := 1712) hx hb dL_law_209 (by decide) ?_
              obtain ⟨x27, ex27⟩ : ∃ y : Int32, y = (w5 + (nI 4)) := ⟨_, rfl⟩
              have hw := hw x27 ex27
              refine lv_iinc (v := x27) (lv' := [(5, .int x27), (7, .int x21), (6, .int x18), (0, .ref b), (1, .ref o1), (2, .ref o5), (3, .ref o9), (4, .ref o11)]) hx hb dL_law_1712 hl (k := 7) rfl (by rw [ex27]; rfl) (by decide) rfl (fun ls hl => ?_)
              refine lv_goto (tgt := 28) hx hb dL_law_1715 (by decide) ?_
              refine W.widen (k := kc + 7) (n := ks + 56) (by omega) (by omega) ?_
              exact ih _ _ hw _ _ _ _ _ (by omega) (by omega) h (lv_sub hl [3, 4, 5, 6, 7, 0] rfl)
            · have hw := hw.2 c26
              refine lv_aload_n hx hb dL_law_197 rfl (lv_at hl 5 rfl) ?_
              refine lv_iconst (v := (nI 0)) hx hb dL_law_198 (by decide) ?_
              obtain ⟨k28, hw⟩ := hw
              obtain ⟨v29, hw⟩ := hw
              refine r_lald X h k28 v29 dL_law_199 ?_
              refine lv_iload hx hb dL_law_200 (lv_at hl 0 rfl) ?_
              refine lv_i2l (v := x21.toInt64) hx hb dL_law_202 rfl ?_
              refine W.lcmp hx hb dL_law_203 ?_
              refine lv_if_eq (tgt := 209) hx hb dL_law_204 (by decide) (fun c30 => ?_) (fun c30 => ?_)
              · have hw := hw.1 c30
                refine lv_goto (tgt := 1712) hx hb dL_law_209 (by decide) ?_
                obtain ⟨x31, ex31⟩ : ∃ y : Int32, y = (w5 + (nI 4)) := ⟨_, rfl⟩
                have hw := hw x31 ex31
                refine lv_iinc (v := x31) (lv' := [(5, .int x31), (7, .int x21), (6, .int x18), (0, .ref b), (1, .ref o1), (2, .ref o5), (3, .ref o9), (4, .ref o11)]) hx hb dL_law_1712 hl (k := 7) rfl (by rw [ex31]; rfl) (by decide) rfl (fun ls hl => ?_)
                refine lv_goto (tgt := 28) hx hb dL_law_1715 (by decide) ?_
                refine W.widen (k := kc + 7) (n := ks + 56) (by omega) (by omega) ?_
                exact ih _ _ hw _ _ _ _ _ (by omega) (by omega) h (lv_sub hl [3, 4, 5, 6, 7, 0] rfl)
              · have hw := hw.2 c30
                refine lv_iconst (v := (nI 0)) hx hb dL_law_207 (by decide) ?_
                exact law_end X h hr hlk (hpost _ _ hw) (by omega) (by omega) dL_law_208
          · have hw := hw.2 c25
            refine lv_iconst (v := (nI 0)) hx hb dL_law_190 (by decide) ?_
            exact law_end X h hr hlk (hpost _ _ hw) (by omega) (by omega) dL_law_191
        have hw := hw.2
        rcases jc15 with _ | jc15
        · have hw := hw.1 c15
          refine lv_tableIn (tgt := 212) (off := 168) hx hb dL_law_44 (by rw [c15]; decide) (by rw [c15]; decide) (by rw [c15]; rfl) (by decide) ?_
          refine lv_aload_n hx hb dL_law_212 rfl (lv_at hl 1 rfl) ?_
          refine lv_aload_n hx hb dL_law_213 rfl (lv_at hl 0 rfl) ?_
          refine lv_iload hx hb dL_law_214 (lv_at hl 5 rfl) ?_
          refine lv_iconst (v := (nI 1)) hx hb dL_law_216 (by decide) ?_
          refine lv_iadd hx hb dL_law_217 ?_
          obtain ⟨v32, hw⟩ := hw
          refine va_sld hx hb hX hbl hbA h.2.2 v32 dL_law_218 ?_
          refine lv_aload_n hx hb dL_law_219 rfl (lv_at hl 3 rfl) ?_
          refine rc_H (As := [.ref o1, .int (xs (w5 + (nI 1)).toNatClampNeg), .ref o9]) (rest := []) X h (meL_approve l hl9 G _ _ _ _ _ hw) gS_L_114 rfl rfl hdS_L_approve rfl ⟨Nat.le_of_ble_eq_true rfl, Nat.le_of_ble_eq_true rfl⟩ hl.1 rfl (Nat.le_of_ble_eq_true rfl) ⟨law_c (by omega), law_s (by omega)⟩ dL_law_220 (fun x34 S33 H locs hw h => ?_)
          refine lv_istore (lv' := [(6, .int x34), (0, .ref b), (1, .ref o1), (2, .ref o5), (3, .ref o9), (4, .ref o11), (5, .int w5)]) hx hb dL_law_223 hl (by decide) rfl (fun ls hl => ?_)
          refine lv_aload_n hx hb dL_law_225 rfl (lv_at hl 3 rfl) ?_
          refine lv_aload_n hx hb dL_law_226 rfl (lv_at hl 1 rfl) ?_
          refine lv_iload hx hb dL_law_227 (lv_at hl 6 rfl) ?_
          refine lv_iconst (v := (nI 1)) hx hb dL_law_229 (by decide) ?_
          refine lv_iadd hx hb dL_law_230 ?_
          obtain ⟨v35, hw⟩ := hw
          refine va_sld hx hb hX hbl hbA h.2.2 v35 dL_law_231 ?_
          obtain ⟨k37, hw⟩ := hw
          refine rc_V (As := [.int (xs (w5 + (nI 1)).toNatClampNeg)]) (rest := []) X h k37 (by decide) rfl (meX7_approve l G _ _ _ _ hw) gV_L_117 rfl rfl hdV_X7_approve rfl ⟨Nat.le_of_ble_eq_true rfl, Nat.le_of_ble_eq_true rfl⟩ hl.1 rfl (Nat.le_of_ble_eq_true rfl) ⟨law_c (by omega), law_s (by omega)⟩ dL_law_232 (fun x38 S36 H locs hw h => ?_)
          refine lv_istore (lv' := [(7, .int x38), (6, .int x34), (0, .ref b), (1, .ref o1), (2, .ref o5), (3, .ref o9), (4, .ref o11), (5, .int w5)]) hx hb dL_law_235 hl (by decide) rfl (fun ls hl => ?_)
          refine lv_aload_n hx hb dL_law_237 rfl (lv_at hl 4 rfl) ?_
          obtain ⟨k40, hw⟩ := hw
          refine rc_V (As := []) (rest := []) X h k40 (by decide) rfl (meX7_thrown l G _ _ _ hw) gV_L_111 rfl rfl hdV_X7_thrown rfl ⟨Nat.le_of_ble_eq_true rfl, Nat.le_of_ble_eq_true rfl⟩ hl.1 rfl (Nat.le_of_ble_eq_true rfl) ⟨law_c (by omega), law_s (by omega)⟩ dL_law_238 (fun x41 S39 H locs hw h => ?_)
          refine lv_iload hx hb dL_law_241 (lv_at hl 1 rfl) ?_
          refine lv_icmp_eq (tgt := 248) hx hb dL_law_243 (by decide) (fun c42 => ?_) (fun c42 => ?_)
          · have hw := hw.1 c42
            refine lv_iload hx hb dL_law_248 (lv_at hl 1 rfl) ?_
            refine lv_if_ne (tgt := 272) hx hb dL_law_250 (by decide) (fun c43 => ?_) (fun c43 => ?_)
            · have hw := hw.1 c43
              refine lv_goto (tgt := 1712) hx hb dL_law_272 (by decide) ?_
              obtain ⟨x44, ex44⟩ : ∃ y : Int32, y = (w5 + (nI 4)) := ⟨_, rfl⟩
              have hw := hw x44 ex44
              refine lv_iinc (v := x44) (lv' := [(5, .int x44), (7, .int x38), (6, .int x34), (0, .ref b), (1, .ref o1), (2, .ref o5), (3, .ref o9), (4, .ref o11)]) hx hb dL_law_1712 hl (k := 7) rfl (by rw [ex44]; rfl) (by decide) rfl (fun ls hl => ?_)
              refine lv_goto (tgt := 28) hx hb dL_law_1715 (by decide) ?_
              refine W.widen (k := kc + 7) (n := ks + 56) (by omega) (by omega) ?_
              exact ih _ _ hw _ _ _ _ _ (by omega) (by omega) h (lv_sub hl [3, 4, 5, 6, 7, 0] rfl)
            · have hw := hw.2 c43
              refine lv_aload_n hx hb dL_law_253 rfl (lv_at hl 5 rfl) ?_
              refine lv_iconst (v := (nI 0)) hx hb dL_law_254 (by decide) ?_
              obtain ⟨k45, hw⟩ := hw
              obtain ⟨v46, hw⟩ := hw
              refine r_lald X h k45 v46 dL_law_255 ?_
              refine lv_iload hx hb dL_law_256 (lv_at hl 0 rfl) ?_
              refine lv_if_eq (tgt := 265) hx hb dL_law_258 (by decide) (fun c47 => ?_) (fun c47 => ?_)
              · have hw := hw.1 c47
                refine lv_lconst (v := 0) hx hb dL_law_265 (by decide) ?_
                refine W.lcmp hx hb dL_law_266 ?_
                refine lv_if_eq (tgt := 272) hx hb dL_law_267 (by decide) (fun c48 => ?_) (fun c48 => ?_)
                · have hw := hw.1 c48
                  refine lv_goto (tgt := 1712) hx hb dL_law_272 (by decide) ?_
                  obtain ⟨x49, ex49⟩ : ∃ y : Int32, y = (w5 + (nI 4)) := ⟨_, rfl⟩
                  have hw := hw x49 ex49
                  refine lv_iinc (v := x49) (lv' := [(5, .int x49), (7, .int x38), (6, .int x34), (0, .ref b), (1, .ref o1), (2, .ref o5), (3, .ref o9), (4, .ref o11)]) hx hb dL_law_1712 hl (k := 7) rfl (by rw [ex49]; rfl) (by decide) rfl (fun ls hl => ?_)
                  refine lv_goto (tgt := 28) hx hb dL_law_1715 (by decide) ?_
                  refine W.widen (k := kc + 7) (n := ks + 56) (by omega) (by omega) ?_
                  exact ih _ _ hw _ _ _ _ _ (by omega) (by omega) h (lv_sub hl [3, 4, 5, 6, 7, 0] rfl)
                · have hw := hw.2 c48
                  refine lv_iconst (v := (nI 0)) hx hb dL_law_270 (by decide) ?_
                  exact law_end X h hr hlk (hpost _ _ hw) (by omega) (by omega) dL_law_271
              · have hw := hw.2 c47
                refine lv_lconst (v := 1) hx hb dL_law_261 (by decide) ?_
                refine lv_goto (tgt := 266) hx hb dL_law_262 (by decide) ?_
                refine W.lcmp hx hb dL_law_266 ?_
                refine lv_if_eq (tgt := 272) hx hb dL_law_267 (by decide) (fun c50 => ?_) (fun c50 => ?_)
                · have hw := hw.1 c50
                  refine lv_goto (tgt := 1712) hx hb dL_law_272 (by decide) ?_
                  obtain ⟨x51, ex51⟩ : ∃ y : Int32, y = (w5 + (nI 4)) := ⟨_, rfl⟩
                  have hw := hw x51 ex51
                  refine lv_iinc (v := x51) (lv' := [(5, .int x51), (7, .int x38), (6, .int x34), (0, .ref b), (1, .ref o1), (2, .ref o5), (3, .ref o9), (4, .ref o11)]) hx hb dL_law_1712 hl (k := 7) rfl (by rw [ex51]; rfl) (by decide) rfl (fun ls hl => ?_)
                  refine lv_goto (tgt := 28) hx hb dL_law_1715 (by decide) ?_
                  refine W.widen (k := kc + 7) (n := ks + 56) (by omega) (by omega) ?_
                  exact ih _ _ hw _ _ _ _ _ (by omega) (by omega) h (lv_sub hl [3, 4, 5, 6, 7, 0] rfl)
                · have hw := hw.2 c50
                  refine lv_iconst (v := (nI 0)) hx hb dL_law_270 (by decide) ?_
                  exact law_end X h hr hlk (hpost _ _ hw) (by omega) (by omega) dL_law_271
          · have hw := hw.2 c42
            refine lv_iconst (v := (nI 0)) hx hb dL_law_246 (by decide) ?_
            exact law_end X h hr hlk (hpost _ _ hw) (by omega) (by omega) dL_law_247
        have hw := hw.2
        rcases jc15 with _ | jc15
        · have hw := hw.1 c15
          refine lv_tableIn (tgt := 275) (off := 231) hx hb dL_law_44 (by rw [c15]; decide) (by rw [c15]; decide) (by rw [c15]; rfl) (by decide) ?_
          refine lv_aload_n hx hb dL_law_275 rfl (lv_at hl 1 rfl) ?_
          refine lv_aload_n hx hb dL_law_276 rfl (lv_at hl 0 rfl) ?_
          refine lv_iload hx hb dL_law_277 (lv_at hl 5 rfl) ?_
          refine lv_iconst (v := (nI 1)) hx hb dL_law_279 (by decide) ?_
          refine lv_iadd hx hb dL_law_280 ?_
          obtain ⟨v52, hw⟩ := hw
          refine va_sld hx hb hX hbl hbA h.2.2 v52 dL_law_281 ?_
          refine lv_aload_n hx hb dL_law_282 rfl (lv_at hl 3 rfl) ?_
          refine rc_H (As := [.ref o1, .int (xs (w5 + (nI 1)).toNatClampNeg), .ref o9]) (rest := []) X h (meL_correct l hl9 G _ _ _ _ _ hw) gS_L_118 rfl rfl hdS_L_correct rfl ⟨Nat.le_of_ble_eq_true rfl, Nat.le_of_ble_eq_true rfl⟩ hl.1 rfl (Nat.le_of_ble_eq_true rfl) ⟨law_c (by omega), law_s (by omega)⟩ dL_law_283 (fun x54 S53 H locs hw h => ?_)
          refine lv_istore (lv' := [(6, .int x54), (0, .ref b), (1, .ref o1), (2, .ref o5), (3, .ref o9), (4, .ref o11), (5, .int w5)]) hx hb dL_law_286 hl (by decide) rfl (fun ls hl => ?_)
          refine lv_aload_n hx hb dL_law_288 rfl (lv_at hl 3 rfl) ?_
          refine lv_aload_n hx hb dL_law_289 rfl (lv_at hl 1 rfl) ?_
          refine lv_iload hx hb dL_law_290 (lv_at hl 6 rfl) ?_
          refine lv_iconst (v := (nI 1)) hx hb dL_law_292 (by decide) ?_
          refine lv_iadd hx hb dL_law_293 ?_
          obtain ⟨v55, hw⟩ := hw
          refine va_sld hx hb hX hbl hbA h.2.2 v55 dL_law_294 ?_
          obtain ⟨k57, hw⟩ := hw
          refine rc_V (As := [.int (xs (w5 + (nI 1)).toNatClampNeg)]) (rest := []) X h k57 (by decide) rfl (meX7_correct l G _ _ _ _ hw) gV_L_120 rfl rfl hdV_X7_correct rfl ⟨Nat.le_of_ble_eq_true rfl, Nat.le_of_ble_eq_true rfl⟩ hl.1 rfl (Nat.le_of_ble_eq_true rfl) ⟨law_c (by omega), law_s (by omega)⟩ dL_law_295 (fun x58 S56 H locs hw h => ?_)
          refine lv_istore (lv' := [(7, .int x58), (6, .int x54), (0, .ref b), (1, .ref o1), (2, .ref o5), (3, .ref o9), (4, .ref o11), (5, .int w5)]) hx hb dL_law_298 hl (by decide) rfl (fun ls hl => ?_)
          refine lv_aload_n hx hb dL_law_300 rfl (lv_at hl 4 rfl) ?_
          obtain ⟨k60, hw⟩ := hw
          refine rc_V (As := []) (rest := []) X h k60 (by decide) rfl (meX7_thrown l G _ _ _ hw) gV_L_111 rfl rfl hdV_X7_thrown rfl ⟨Nat.le_of_ble_eq_true rfl, Nat.le_of_ble_eq_true rfl⟩ hl.1 rfl (Nat.le_of_ble_eq_true rfl) ⟨law_c (by omega), law_s (by omega)⟩ dL_law_301 (fun x61 S59 H locs hw h => ?_)
          refine lv_iload hx hb dL_law_304 (lv_at hl 1 rfl) ?_
          refine lv_icmp_eq (tgt := 311) hx hb dL_law_306 (by decide) (fun c62 => ?_) (fun c62 => ?_)
          · have hw := hw.1 c62
            refine lv_iload hx hb dL_law_311 (lv_at hl 1 rfl) ?_
            refine lv_if_ne (tgt := 328) hx hb dL_law_313 (by decide) (fun c63 => ?_) (fun c63 => ?_)
            · have hw := hw.1 c63
              refine lv_goto (tgt := 1712) hx hb dL_law_328 (by decide) ?_
              obtain ⟨x64, ex64⟩ : ∃ y : Int32, y = (w5 + (nI 4)) := ⟨_, rfl⟩
              have hw := hw x64 ex64
              refine lv_iinc (v := x64) (lv' := [(5, .int x64), (7, .int x58), (6, .int x54), (0, .ref b), (1, .ref o1), (2, .ref o5), (3, .ref o9), (4, .ref o11)]) hx hb dL_law_1712 hl (k := 7) rfl (by rw [ex64]; rfl) (by decide) rfl (fun ls hl => ?_)
              refine lv_goto (tgt := 28) hx hb dL_law_1715 (by decide) ?_
              refine W.widen (k := kc + 7) (n := ks + 56) (by omega) (by omega) ?_
              exact ih _ _ hw _ _ _ _ _ (by omega) (by omega) h (lv_sub hl [3, 4, 5, 6, 7, 0] rfl)
            · have hw := hw.2 c63
              refine lv_aload_n hx hb dL_law_316 rfl (lv_at hl 5 rfl) ?_
              refine lv_iconst (v := (nI 0)) hx hb dL_law_317 (by decide) ?_
              obtain ⟨k65, hw⟩ := hw
              obtain ⟨v66, hw⟩ := hw
              refine r_lald X h k65 v66 dL_law_318 ?_
              refine lv_iload hx hb dL_law_319 (lv_at hl 0 rfl) ?_
              refine lv_i2l (v := x58.toInt64) hx hb dL_law_321 rfl ?_
              refine W.lcmp hx hb dL_law_322 ?_
              refine lv_if_eq (tgt := 328) hx hb dL_law_323 (by decide) (fun c67 => ?_) (fun c67 => ?_)
              · have hw := hw.1 c67
                refine lv_goto (tgt := 1712) hx hb dL_law_328 (by decide) ?_
                obtain ⟨x68, ex68⟩ : ∃ y : Int32, y = (w5 + (nI 4)) := ⟨_, rfl⟩
                have hw := hw x68 ex68
                refine lv_iinc (v := x68) (lv' := [(5, .int x68), (7, .int x58), (6, .int x54), (0, .ref b), (1, .ref o1), (2, .ref o5), (3, .ref o9), (4, .ref o11)]) hx hb dL_law_1712 hl (k := 7) rfl (by rw [ex68]; rfl) (by decide) rfl (fun ls hl => ?_)
                refine lv_goto (tgt := 28) hx hb dL_law_1715 (by decide) ?_
                refine W.widen (k := kc + 7) (n := ks + 56) (by omega) (by omega) ?_
                exact ih _ _ hw _ _ _ _ _ (by omega) (by omega) h (lv_sub hl [3, 4, 5, 6, 7, 0] rfl)
              · have hw := hw.2 c67
                refine lv_iconst (v := (nI 0)) hx hb dL_law_326 (by decide) ?_
                exact law_end X h hr hlk (hpost _ _ hw) (by omega) (by omega) dL_law_327
          · have hw := hw.2 c62
            refine lv_iconst (v := (nI 0)) hx hb dL_law_309 (by decide) ?_
            exact law_end X h hr hlk (hpost _ _ hw) (by omega) (by omega) dL_law_310
        have hw := hw.2
        rcases jc15 with _ | jc15
        · have hw := hw.1 c15
          refine lv_tableIn (tgt := 331) (off := 287) hx hb dL_law_44 (by rw [c15]; decide) (by rw [c15]; decide) (by rw [c15]; rfl) (by decide) ?_
          refine lv_aload_n hx hb dL_law_331 rfl (lv_at hl 1 rfl) ?_
          refine lv_aload_n hx hb dL_law_332 rfl (lv_at hl 0 rfl) ?_
          refine lv_iload hx hb dL_law_333 (lv_at hl 5 rfl) ?_
          refine lv_iconst (v := (nI 1)) hx hb dL_law_335 (by decide) ?_
          refine lv_iadd hx hb dL_law_336 ?_
          obtain ⟨v69, hw⟩ := hw
          refine va_sld hx hb hX hbl hbA h.2.2 v69 dL_law_337 ?_
          refine lv_aload_n hx hb dL_law_338 rfl (lv_at hl 3 rfl) ?_
          refine rc_H (As := [.ref o1, .int (xs (w5 + (nI 1)).toNatClampNeg), .ref o9]) (rest := []) X h (meL_state l hl9 G _ _ _ _ _ hw) gS_L_121 rfl rfl hdS_L_state rfl ⟨Nat.le_of_ble_eq_true rfl, Nat.le_of_ble_eq_true rfl⟩ hl.1 rfl (Nat.le_of_ble_eq_true rfl) ⟨law_c (by omega), law_s (by omega)⟩ dL_law_339 (fun x71 S70 H locs hw h => ?_)
          refine lv_istore (lv' := [(6, .int x71), (0, .ref b), (1, .ref o1), (2, .ref o5), (3, .ref o9), (4, .ref o11), (5, .int w5)]) hx hb dL_law_342 hl (by decide) rfl (fun ls hl => ?_)
          refine lv_aload_n hx hb dL_law_344 rfl (lv_at hl 3 rfl) ?_
          refine lv_aload_n hx hb dL_law_345 rfl (lv_at hl 1 rfl) ?_
          refine lv_iload hx hb dL_law_346 (lv_at hl 6 rfl) ?_
          refine lv_iconst (v := (nI 1)) hx hb dL_law_348 (by decide) ?_
          refine lv_iadd hx hb dL_law_349 ?_
          obtain ⟨v72, hw⟩ := hw
          refine va_sld hx hb hX hbl hbA h.2.2 v72 dL_law_350 ?_
          obtain ⟨k74, hw⟩ := hw
          refine rc_V (As := [.int (xs (w5 + (nI 1)).toNatClampNeg)]) (rest := []) X h k74 (by decide) rfl (meX7_state l G _ _ _ _ hw) gV_L_123 rfl rfl hdV_X7_state rfl ⟨Nat.le_of_ble_eq_true rfl, Nat.le_of_ble_eq_true rfl⟩ hl.1 rfl (Nat.le_of_ble_eq_true rfl) ⟨law_c (by omega), law_s (by omega)⟩ dL_law_351 (fun x75 S73 H locs hw h => ?_)
          refine lv_istore (lv' := [(7, .int x75), (6, .int x71), (0, .ref b), (1, .ref o1), (2, .ref o5), (3, .ref o9), (4, .ref o11), (5, .int w5)]) hx hb dL_law_354 hl (by decide) rfl (fun ls hl => ?_)
          refine lv_aload_n hx hb dL_law_356 rfl (lv_at hl 4 rfl) ?_
          obtain ⟨k77, hw⟩ := hw
          refine rc_V (As := []) (rest := []) X h k77 (by decide) rfl (meX7_thrown l G _ _ _ hw) gV_L_111 rfl rfl hdV_X7_thrown rfl ⟨Nat.le_of_ble_eq_true rfl, Nat.le_of_ble_eq_true rfl⟩ hl.1 rfl (Nat.le_of_ble_eq_true rfl) ⟨law_c (by omega), law_s (by omega)⟩ dL_law_357 (fun x78 S76 H locs hw h => ?_)
          refine lv_iload hx hb dL_law_360 (lv_at hl 1 rfl) ?_
          refine lv_icmp_eq (tgt := 367) hx hb dL_law_362 (by decide) (fun c79 => ?_) (fun c79 => ?_)
          · have hw := hw.1 c79
            refine lv_iload hx hb dL_law_367 (lv_at hl 1 rfl) ?_
            refine lv_if_ne (tgt := 384) hx hb dL_law_369 (by decide) (fun c80 => ?_) (fun c80 => ?_)
            · have hw := hw.1 c80
              refine lv_goto (tgt := 1712) hx hb dL_law_384 (by decide) ?_
              obtain ⟨x81, ex81⟩ : ∃ y : Int32, y = (w5 + (nI 4)) := ⟨_, rfl⟩
              have hw := hw x81 ex81
              refine lv_iinc (v := x81) (lv' := [(5, .int x81), (7, .int x75), (6, .int x71), (0, .ref b), (1, .ref o1), (2, .ref o5), (3, .ref o9), (4, .ref o11)]) hx hb dL_law_1712 hl (k := 7) rfl (by rw [ex81]; rfl) (by decide) rfl (fun ls hl => ?_)
              refine lv_goto (tgt := 28) hx hb dL_law_1715 (by decide) ?_
              refine W.widen (k := kc + 7) (n := ks + 56) (by omega) (by omega) ?_
              exact ih _ _ hw _ _ _ _ _ (by omega) (by omega) h (lv_sub hl [3, 4, 5, 6, 7, 0] rfl)
            · have hw := hw.2 c80
              refine lv_aload_n hx hb dL_law_372 rfl (lv_at hl 5 rfl) ?_
              refine lv_iconst (v := (nI 0)) hx hb dL_law_373 (by decide) ?_
              obtain ⟨k82, hw⟩ := hw
              obtain ⟨v83, hw⟩ := hw
              refine r_lald X h k82 v83 dL_law_374 ?_
              refine lv_iload hx hb dL_law_375 (lv_at hl 0 rfl) ?_
              refine lv_i2l (v := x75.toInt64) hx hb dL_law_377 rfl ?_
              refine W.lcmp hx hb dL_law_378 ?_
              refine lv_if_eq (tgt := 384) hx hb dL_law_379 (by decide) (fun c84 => ?_) (fun c84 => ?_)
              · have hw := hw.1 c84
                refine lv_goto (tgt := 1712) hx hb dL_law_384 (by decide) ?_
                obtain ⟨x85, ex85⟩ : ∃ y : Int32, y = (w5 + (nI 4)) := ⟨_, rfl⟩
                have hw := hw x85 ex85
                refine lv_iinc (v := x85) (lv' := [(5, .int x85), (7, .int x75), (6, .int x71), (0, .ref b), (1, .ref o1), (2, .ref o5), (3, .ref o9), (4, .ref o11)]) hx hb dL_law_1712 hl (k := 7) rfl (by rw [ex85]; rfl) (by decide) rfl (fun ls hl => ?_)
                refine lv_goto (tgt := 28) hx hb dL_law_1715 (by decide) ?_
                refine W.widen (k := kc + 7) (n := ks + 56) (by omega) (by omega) ?_
                exact ih _ _ hw _ _ _ _ _ (by omega) (by omega) h (lv_sub hl [3, 4, 5, 6, 7, 0] rfl)
              · have hw := hw.2 c84
                refine lv_iconst (v := (nI 0)) hx hb dL_law_382 (by decide) ?_
                exact law_end X h hr hlk (hpost _ _ hw) (by omega) (by omega) dL_law_383
          · have hw := hw.2 c79
            refine lv_iconst (v := (nI 0)) hx hb dL_law_365 (by decide) ?_
            exact law_end X h hr hlk (hpost _ _ hw) (by omega) (by omega) dL_law_366
        have hw := hw.2
        rcases jc15 with _ | jc15
        · have hw := hw.1 c15
          refine lv_tableIn (tgt := 387) (off := 343) hx hb dL_law_44 (by rw [c15]; decide) (by rw [c15]; decide) (by rw [c15]; rfl) (by decide) ?_
          refine lv_aload_n hx hb dL_law_387 rfl (lv_at hl 1 rfl) ?_
          refine lv_aload_n hx hb dL_law_388 rfl (lv_at hl 0 rfl) ?_
          refine lv_iload hx hb dL_law_389 (lv_at hl 5 rfl) ?_
          refine lv_iconst (v := (nI 1)) hx hb dL_law_391 (by decide) ?_
          refine lv_iadd hx hb dL_law_392 ?_
          obtain ⟨v86, hw⟩ := hw
          refine va_sld hx hb hX hbl hbA h.2.2 v86 dL_law_393 ?_
          refine lv_i2c (v := ((xs (w5 + (nI 1)).toNatClampNeg).toUInt32 % 65536).toInt32) hx hb dL_law_394 rfl ?_
          refine lv_aload_n hx hb dL_law_395 rfl (lv_at hl 3 rfl) ?_
          refine rc_H (As := [.ref o1, .int ((xs (w5 + (nI 1)).toNatClampNeg).toUInt32 % 65536).toInt32, .ref o9]) (rest := []) X h (meL_addJob l hl9 G _ _ _ _ _ hw) gS_L_124 rfl rfl hdS_L_addJob rfl ⟨Nat.le_of_ble_eq_true rfl, Nat.le_of_ble_eq_true rfl⟩ hl.1 rfl (Nat.le_of_ble_eq_true rfl) ⟨law_c (by omega), law_s (by omega)⟩ dL_law_396 (fun x88 S87 H locs hw h => ?_)
          refine lv_istore (lv' := [(6, .int x88), (0, .ref b), (1, .ref o1), (2, .ref o5), (3, .ref o9), (4, .ref o11), (5, .int w5)]) hx hb dL_law_399 hl (by decide) rfl (fun ls hl => ?_)
          refine lv_aload_n hx hb dL_law_401 rfl (lv_at hl 3 rfl) ?_
          refine lv_aload_n hx hb dL_law_402 rfl (lv_at hl 1 rfl) ?_
          refine lv_iload hx hb dL_law_403 (lv_at hl 6 rfl) ?_
          refine lv_iconst (v := (nI 1)) hx hb dL_law_405 (by decide) ?_
          refine lv_iadd hx hb dL_law_406 ?_
          obtain ⟨v89, hw⟩ := hw
          refine va_sld hx hb hX hbl hbA h.2.2 v89 dL_law_407 ?_
          refine lv_i2c (v := ((xs (w5 + (nI 1)).toNatClampNeg).toUInt32 % 65536).toInt32) hx hb dL_law_408 rfl ?_
          obtain ⟨k91, hw⟩ := hw
          refine rc_V (As := [.int ((xs (w5 + (nI 1)).toNatClampNeg).toUInt32 % 65536).toInt32]) (rest := []) X h k91 (by decide) rfl (meX7_addJob l G _ _ _ _ hw) gV_L_127 rfl rfl hdV_X7_addJob rfl ⟨Nat.le_of_ble_eq_true rfl, Nat.le_of_ble_eq_true rfl⟩ hl.1 rfl (Nat.le_of_ble_eq_true rfl) ⟨law_c (by omega), law_s (by omega)⟩ dL_law_409 (fun x92 S90 H locs hw h => ?_)
          refine lv_istore (lv' := [(7, .int x92), (6, .int x88), (0, .ref b), (1, .ref o1), (2, .ref o5), (3, .ref o9), (4, .ref o11), (5, .int w5)]) hx hb dL_law_412 hl (by decide) rfl (fun ls hl => ?_)
          refine lv_aload_n hx hb dL_law_414 rfl (lv_at hl 4 rfl) ?_
          obtain ⟨k94, hw⟩ := hw
          refine rc_V (As := []) (rest := []) X h k94 (by decide) rfl (meX7_thrown l G _ _ _ hw) gV_L_111 rfl rfl hdV_X7_thrown rfl ⟨Nat.le_of_ble_eq_true rfl, Nat.le_of_ble_eq_true rfl⟩ hl.1 rfl (Nat.le_of_ble_eq_true rfl) ⟨law_c (by omega), law_s (by omega)⟩ dL_law_415 (fun x95 S93 H locs hw h => ?_)
          refine lv_iload hx hb dL_law_418 (lv_at hl 1 rfl) ?_
          refine lv_icmp_eq (tgt := 425) hx hb dL_law_420 (by decide) (fun c96 => ?_) (fun c96 => ?_)
          · have hw := hw.1 c96
            refine lv_iload hx hb dL_law_425 (lv_at hl 1 rfl) ?_
            refine lv_if_ne (tgt := 442) hx hb dL_law_427 (by decide) (fun c97 => ?_) (fun c97 => ?_)
            · have hw := hw.1 c97
              refine lv_goto (tgt := 1712) hx hb dL_law_442 (by decide) ?_
              obtain ⟨x98, ex98⟩ : ∃ y : Int32, y = (w5 + (nI 4)) := ⟨_, rfl⟩
              have hw := hw x98 ex98
              refine lv_iinc (v := x98) (lv' := [(5, .int x98), (7, .int x92), (6, .int x88), (0, .ref b), (1, .ref o1), (2, .ref o5), (3, .ref o9), (4, .ref o11)]) hx hb dL_law_1712 hl (k := 7) rfl (by rw [ex98]; rfl) (by decide) rfl (fun ls hl => ?_)
              refine lv_goto (tgt := 28) hx hb dL_law_1715 (by decide) ?_
              refine W.widen (k := kc + 7) (n := ks + 56) (by omega) (by omega) ?_
              exact ih _ _ hw _ _ _ _ _ (by omega) (by omega) h (lv_sub hl [3, 4, 5, 6, 7, 0] rfl)
            · have hw := hw.2 c97
              refine lv_aload_n hx hb dL_law_430 rfl (lv_at hl 5 rfl) ?_
              refine lv_iconst (v := (nI 0)) hx hb dL_law_431 (by decide) ?_
              obtain ⟨k99, hw⟩ := hw
              obtain ⟨v100, hw⟩ := hw
              refine r_lald X h k99 v100 dL_law_432 ?_
              refine lv_iload hx hb dL_law_433 (lv_at hl 0 rfl) ?_
              refine lv_i2l (v := x92.toInt64) hx hb dL_law_435 rfl ?_
              refine W.lcmp hx hb dL_law_436 ?_
              refine lv_if_eq (tgt := 442) hx hb dL_law_437 (by decide) (fun c101 => ?_) (fun c101 => ?_)
              · have hw := hw.1 c101
                refine lv_goto (tgt := 1712) hx hb dL_law_442 (by decide) ?_
                obtain ⟨x102, ex102⟩ : ∃ y : Int32, y = (w5 + (nI 4)) := ⟨_, rfl⟩
                have hw := hw x102 ex102
                refine lv_iinc (v := x102) (lv' := [(5, .int x102), (7, .int x92), (6, .int x88), (0, .ref b), (1, .ref o1), (2, .ref o5), (3, .ref o9), (4, .ref o11)]) hx hb dL_law_1712 hl (k := 7) rfl (by rw [ex102]; rfl) (by decide) rfl (fun ls hl => ?_)
                refine lv_goto (tgt := 28) hx hb dL_law_1715 (by decide) ?_
                refine W.widen (k := kc + 7) (n := ks + 56) (by omega) (by omega) ?_
                exact ih _ _ hw _ _ _ _ _ (by omega) (by omega) h (lv_sub hl [3, 4, 5, 6, 7, 0] rfl)
              · have hw := hw.2 c101
                refine lv_iconst (v := (nI 0)) hx hb dL_law_440 (by decide) ?_
                exact law_end X h hr hlk (hpost _ _ hw) (by omega) (by omega) dL_law_441
          · have hw := hw.2 c96
            refine lv_iconst (v := (nI 0)) hx hb dL_law_423 (by decide) ?_
            exact law_end X h hr hlk (hpost _ _ hw) (by omega) (by omega) dL_law_424
        have hw := hw.2
        rcases jc15 with _ | jc15
        · have hw := hw.1 c15
          refine lv_tableIn (tgt := 445) (off := 401) hx hb dL_law_44 (by rw [c15]; decide) (by rw [c15]; decide) (by rw [c15]; rfl) (by decide) ?_
          refine lv_aload_n hx hb dL_law_445 rfl (lv_at hl 1 rfl) ?_
          refine lv_aload_n hx hb dL_law_446 rfl (lv_at hl 0 rfl) ?_
          refine lv_iload hx hb dL_law_447 (lv_at hl 5 rfl) ?_
          refine lv_iconst (v := (nI 1)) hx hb dL_law_449 (by decide) ?_
          refine lv_iadd hx hb dL_law_450 ?_
          obtain ⟨v103, hw⟩ := hw
          refine va_sld hx hb hX hbl hbA h.2.2 v103 dL_law_451 ?_
          refine lv_aload_n hx hb dL_law_452 rfl (lv_at hl 0 rfl) ?_
          refine lv_iload hx hb dL_law_453 (lv_at hl 5 rfl) ?_
          refine lv_iconst (v := (nI 2)) hx hb dL_law_455 (by decide) ?_
          refine lv_iadd hx hb dL_law_456 ?_
          obtain ⟨v104, hw⟩ := hw
          refine va_sld hx hb hX hbl hbA h.2.2 v104 dL_law_457 ?_
          refine lv_aload_n hx hb dL_law_458 rfl (lv_at hl 3 rfl) ?_
          refine rc_H (As := [.ref o1, .int (xs (w5 + (nI 1)).toNatClampNeg), .int (xs (w5 + (nI 2)).toNatClampNeg), .ref o9]) (rest := []) X h (meL_addPage l hl9 G _ _ _ _ _ _ hw) gS_L_128 rfl rfl hdS_L_addPage rfl ⟨Nat.le_of_ble_eq_true rfl, Nat.le_of_ble_eq_true rfl⟩ hl.1 rfl (Nat.le_of_ble_eq_true rfl) ⟨law_c (by omega), law_s (by omega)⟩ dL_law_459 (fun x106 S105 H locs hw h => ?_)
          refine lv_istore (lv' := [(6, .int x106), (0, .ref b), (1, .ref o1), (2, .ref o5), (3, .ref o9), (4, .ref o11), (5, .int w5)]) hx hb dL_law_462 hl (by decide) rfl (fun ls hl => ?_)
          refine lv_aload_n hx hb dL_law_464 rfl (lv_at hl 3 rfl) ?_
          refine lv_aload_n hx hb dL_law_465 rfl (lv_at hl 1 rfl) ?_
          refine lv_iload hx hb dL_law_466 (lv_at hl 6 rfl) ?_
          refine lv_iconst (v := (nI 1)) hx hb dL_law_468 (by decide) ?_
          refine lv_iadd hx hb dL_law_469 ?_
          obtain ⟨v107, hw⟩ := hw
          refine va_sld hx hb hX hbl hbA h.2.2 v107 dL_law_470 ?_
          refine lv_aload_n hx hb dL_law_471 rfl (lv_at hl 1 rfl) ?_
          refine lv_iload hx hb dL_law_472 (lv_at hl 6 rfl) ?_
          refine lv_iconst (v := (nI 2)) hx hb dL_law_474 (by decide) ?_
          refine lv_iadd hx hb dL_law_475 ?_
          obtain ⟨v108, hw⟩ := hw
          refine va_sld hx hb hX hbl hbA h.2.2 v108 dL_law_476 ?_
          obtain ⟨k110, hw⟩ := hw
          refine rc_V (As := [.int (xs (w5 + (nI 1)).toNatClampNeg), .int (xs (w5 + (nI 2)).toNatClampNeg)]) (rest := []) X h k110 (by decide) rfl (meX7_addPage l G _ _ _ _ _ hw) gV_L_131 rfl rfl hdV_X7_addPage rfl ⟨Nat.le_of_ble_eq_true rfl, Nat.le_of_ble_eq_true rfl⟩ hl.1 rfl (Nat.le_of_ble_eq_true rfl) ⟨law_c (by omega), law_s (by omega)⟩ dL_law_477 (fun x111 S109 H locs hw h => ?_)
          refine lv_istore (lv' := [(7, .int x111), (6, .int x106), (0, .ref b), (1, .ref o1), (2, .ref o5), (3, .ref o9), (4, .ref o11), (5, .int w5)]) hx hb dL_law_480 hl (by decide) rfl (fun ls hl => ?_)
          refine lv_aload_n hx hb dL_law_482 rfl (lv_at hl 4 rfl) ?_
          obtain ⟨k113, hw⟩ := hw
          refine rc_V (As := []) (rest := []) X h k113 (by decide) rfl (meX7_thrown l G _ _ _ hw) gV_L_111 rfl rfl hdV_X7_thrown rfl ⟨Nat.le_of_ble_eq_true rfl, Nat.le_of_ble_eq_true rfl⟩ hl.1 rfl (Nat.le_of_ble_eq_true rfl) ⟨law_c (by omega), law_s (by omega)⟩ dL_law_483 (fun x114 S112 H locs hw h => ?_)
          refine lv_iload hx hb dL_law_486 (lv_at hl 1 rfl) ?_
          refine lv_icmp_eq (tgt := 493) hx hb dL_law_488 (by decide) (fun c115 => ?_) (fun c115 => ?_)
          · have hw := hw.1 c115
            refine lv_iload hx hb dL_law_493 (lv_at hl 1 rfl) ?_
            refine lv_if_ne (tgt := 510) hx hb dL_law_495 (by decide) (fun c116 => ?_) (fun c116 => ?_)
            · have hw := hw.1 c116
              refine lv_goto (tgt := 1712) hx hb dL_law_510 (by decide) ?_
              obtain ⟨x117, ex117⟩ : ∃ y : Int32, y = (w5 + (nI 4)) := ⟨_, rfl⟩
              have hw := hw x117 ex117
              refine lv_iinc (v := x117) (lv' := [(5, .int x117), (7, .int x111), (6, .int x106), (0, .ref b), (1, .ref o1), (2, .ref o5), (3, .ref o9), (4, .ref o11)]) hx hb dL_law_1712 hl (k := 7) rfl (by rw [ex117]; rfl) (by decide) rfl (fun ls hl => ?_)
              refine lv_goto (tgt := 28) hx hb dL_law_1715 (by decide) ?_
              refine W.widen (k := kc + 7) (n := ks + 56) (by omega) (by omega) ?_
              exact ih _ _ hw _ _ _ _ _ (by omega) (by omega) h (lv_sub hl [3, 4, 5, 6, 7, 0] rfl)
            · have hw := hw.2 c116
              refine lv_aload_n hx hb dL_law_498 rfl (lv_at hl 5 rfl) ?_
              refine lv_iconst (v := (nI 0)) hx hb dL_law_499 (by decide) ?_
              obtain ⟨k118, hw⟩ := hw
              obtain ⟨v119, hw⟩ := hw
              refine r_lald X h k118 v119 dL_law_500 ?_
              refine lv_iload hx hb dL_law_501 (lv_at hl 0 rfl) ?_
              refine lv_i2l (v := x111.toInt64) hx hb dL_law_503 rfl ?_
              refine W.lcmp hx hb dL_law_504 ?_
              refine lv_if_eq (tgt := 510) hx hb dL_law_505 (by decide) (fun c120 => ?_) (fun c120 => ?_)
              · have hw := hw.1 c120
                refine lv_goto (tgt := 1712) hx hb dL_law_510 (by decide) ?_
                obtain ⟨x121, ex121⟩ : ∃ y : Int32, y = (w5 + (nI 4)) := ⟨_, rfl⟩
                have hw := hw x121 ex121
                refine lv_iinc (v := x121) (lv' := [(5, .int x121), (7, .int x111), (6, .int x106), (0, .ref b), (1, .ref o1), (2, .ref o5), (3, .ref o9), (4, .ref o11)]) hx hb dL_law_1712 hl (k := 7) rfl (by rw [ex121]; rfl) (by decide) rfl (fun ls hl => ?_)
                refine lv_goto (tgt := 28) hx hb dL_law_1715 (by decide) ?_
                refine W.widen (k := kc + 7) (n := ks + 56) (by omega) (by omega) ?_
                exact ih _ _ hw _ _ _ _ _ (by omega) (by omega) h (lv_sub hl [3, 4, 5, 6, 7, 0] rfl)
              · have hw := hw.2 c120
                refine lv_iconst (v := (nI 0)) hx hb dL_law_508 (by decide) ?_
                exact law_end X h hr hlk (hpost _ _ hw) (by omega) (by omega) dL_law_509
          · have hw := hw.2 c115
            refine lv_iconst (v := (nI 0)) hx hb dL_law_491 (by decide) ?_
            exact law_end X h hr hlk (hpost _ _ hw) (by omega) (by omega) dL_law_492
        have hw := hw.2
        rcases jc15 with _ | jc15
        · have hw := hw.1 c15
          refine lv_tableIn (tgt := 513) (off := 469) hx hb dL_law_44 (by rw [c15]; decide) (by rw [c15]; decide) (by rw [c15]; rfl) (by decide) ?_
          refine lv_aload_n hx hb dL_law_513 rfl (lv_at hl 1 rfl) ?_
          refine lv_aload_n hx hb dL_law_514 rfl (lv_at hl 0 rfl) ?_
          refine lv_iload hx hb dL_law_515 (lv_at hl 5 rfl) ?_
          refine lv_iconst (v := (nI 1)) hx hb dL_law_517 (by decide) ?_
          refine lv_iadd hx hb dL_law_518 ?_
          obtain ⟨v122, hw⟩ := hw
          refine va_sld hx hb hX hbl hbA h.2.2 v122 dL_law_519 ?_
          refine lv_aload_n hx hb dL_law_520 rfl (lv_at hl 3 rfl) ?_
          refine rc_H (As := [.ref o1, .int (xs (w5 + (nI 1)).toNatClampNeg), .ref o9]) (rest := []) X h (meL_pages l hl9 G _ _ _ _ _ hw) gS_L_132 rfl rfl hdS_L_pages rfl ⟨Nat.le_of_ble_eq_true rfl, Nat.le_of_ble_eq_true rfl⟩ hl.1 rfl (Nat.le_of_ble_eq_true rfl) ⟨law_c (by omega), law_s (by omega)⟩ dL_law_521 (fun x124 S123 H locs hw h => ?_)
          refine lv_istore (lv' := [(6, .int x124), (0, .ref b), (1, .ref o1), (2, .ref o5), (3, .ref o9), (4, .ref o11), (5, .int w5)]) hx hb dL_law_524 hl (by decide) rfl (fun ls hl => ?_)
          refine lv_aload_n hx hb dL_law_526 rfl (lv_at hl 3 rfl) ?_
          refine lv_aload_n hx hb dL_law_527 rfl (lv_at hl 1 rfl) ?_
          refine lv_iload hx hb dL_law_528 (lv_at hl 6 rfl) ?_
          refine lv_iconst (v := (nI 1)) hx hb dL_law_530 (by decide) ?_
          refine lv_iadd hx hb dL_law_531 ?_
          obtain ⟨v125, hw⟩ := hw
          refine va_sld hx hb hX hbl hbA h.2.2 v125 dL_law_532 ?_
          obtain ⟨k127, hw⟩ := hw
          refine rc_V (As := [.int (xs (w5 + (nI 1)).toNatClampNeg)]) (rest := []) X h k127 (by decide) rfl (meX7_pages l G _ _ _ _ hw) gV_L_134 rfl rfl hdV_X7_pages rfl ⟨Nat.le_of_ble_eq_true rfl, Nat.le_of_ble_eq_true rfl⟩ hl.1 rfl (Nat.le_of_ble_eq_true rfl) ⟨law_c (by omega), law_s (by omega)⟩ dL_law_533 (fun x128 S126 H locs hw h => ?_)
          refine lv_istore (lv' := [(7, .int x128), (6, .int x124), (0, .ref b), (1, .ref o1), (2, .ref o5), (3, .ref o9), (4, .ref o11), (5, .int w5)]) hx hb dL_law_536 hl (by decide) rfl (fun ls hl => ?_)
          refine lv_aload_n hx hb dL_law_538 rfl (lv_at hl 4 rfl) ?_
          obtain ⟨k130, hw⟩ := hw
          refine rc_V (As := []) (rest := []) X h k130 (by decide) rfl (meX7_thrown l G _ _ _ hw) gV_L_111 rfl rfl hdV_X7_thrown rfl ⟨Nat.le_of_ble_eq_true rfl, Nat.le_of_ble_eq_true rfl⟩ hl.1 rfl (Nat.le_of_ble_eq_true rfl) ⟨law_c (by omega), law_s (by omega)⟩ dL_law_539 (fun x131 S129 H locs hw h => ?_)
          refine lv_iload hx hb dL_law_542 (lv_at hl 1 rfl) ?_
          refine lv_icmp_eq (tgt := 549) hx hb dL_law_544 (by decide) (fun c132 => ?_) (fun c132 => ?_)
          · have hw := hw.1 c132
            refine lv_iload hx hb dL_law_549 (lv_at hl 1 rfl) ?_
            refine lv_if_ne (tgt := 566) hx hb dL_law_551 (by decide) (fun c133 => ?_) (fun c133 => ?_)
            · have hw := hw.1 c133
              refine lv_goto (tgt := 1712) hx hb dL_law_566 (by decide) ?_
              obtain ⟨x134, ex134⟩ : ∃ y : Int32, y = (w5 + (nI 4)) := ⟨_, rfl⟩
              have hw := hw x134 ex134
              refine lv_iinc (v := x134) (lv' := [(5, .int x134), (7, .int x128), (6, .int x124), (0, .ref b), (1, .ref o1), (2, .ref o5), (3, .ref o9), (4, .ref o11)]) hx hb dL_law_1712 hl (k := 7) rfl (by rw [ex134]; rfl) (by decide) rfl (fun ls hl => ?_)
              refine lv_goto (tgt := 28) hx hb dL_law_1715 (by decide) ?_
              refine W.widen (k := kc + 7) (n := ks + 56) (by omega) (by omega) ?_
              exact ih _ _ hw _ _ _ _ _ (by omega) (by omega) h (lv_sub hl [3, 4, 5, 6, 7, 0] rfl)
            · have hw := hw.2 c133
              refine lv_aload_n hx hb dL_law_554 rfl (lv_at hl 5 rfl) ?_
              refine lv_iconst (v := (nI 0)) hx hb dL_law_555 (by decide) ?_
              obtain ⟨k135, hw⟩ := hw
              obtain ⟨v136, hw⟩ := hw
              refine r_lald X h k135 v136 dL_law_556 ?_
              refine lv_iload hx hb dL_law_557 (lv_at hl 0 rfl) ?_
              refine lv_i2l (v := x128.toInt64) hx hb dL_law_559 rfl ?_
              refine W.lcmp hx hb dL_law_560 ?_
              refine lv_if_eq (tgt := 566) hx hb dL_law_561 (by decide) (fun c137 => ?_) (fun c137 => ?_)
              · have hw := hw.1 c137
                refine lv_goto (tgt := 1712) hx hb dL_law_566 (by decide) ?_
                obtain ⟨x138, ex138⟩ : ∃ y : Int32, y = (w5 + (nI 4)) := ⟨_, rfl⟩
                have hw := hw x138 ex138
                refine lv_iinc (v := x138) (lv' := [(5, .int x138), (7, .int x128), (6, .int x124), (0, .ref b), (1, .ref o1), (2, .ref o5), (3, .ref o9), (4, .ref o11)]) hx hb dL_law_1712 hl (k := 7) rfl (by rw [ex138]; rfl) (by decide) rfl (fun ls hl => ?_)
                refine lv_goto (tgt := 28) hx hb dL_law_1715 (by decide) ?_
                refine W.widen (k := kc + 7) (n := ks + 56) (by omega) (by omega) ?_
                exact ih _ _ hw _ _ _ _ _ (by omega) (by omega) h (lv_sub hl [3, 4, 5, 6, 7, 0] rfl)
              · have hw := hw.2 c137
                refine lv_iconst (v := (nI 0)) hx hb dL_law_564 (by decide) ?_
                exact law_end X h hr hlk (hpost _ _ hw) (by omega) (by omega) dL_law_565
          · have hw := hw.2 c132
            refine lv_iconst (v := (nI 0)) hx hb dL_law_547 (by decide) ?_
            exact law_end X h hr hlk (hpost _ _ hw) (by omega) (by omega) dL_law_548
        have hw := hw.2
        rcases jc15 with _ | jc15
        · have hw := hw.1 c15
          refine lv_tableIn (tgt := 569) (off := 525) hx hb dL_law_44 (by rw [c15]; decide) (by rw [c15]; decide) (by rw [c15]; rfl) (by decide) ?_
          refine lv_aload_n hx hb dL_law_569 rfl (lv_at hl 1 rfl) ?_
          refine lv_aload_n hx hb dL_law_570 rfl (lv_at hl 0 rfl) ?_
          refine lv_iload hx hb dL_law_571 (lv_at hl 5 rfl) ?_
          refine lv_iconst (v := (nI 1)) hx hb dL_law_573 (by decide) ?_
          refine lv_iadd hx hb dL_law_574 ?_
          obtain ⟨v139, hw⟩ := hw
          refine va_sld hx hb hX hbl hbA h.2.2 v139 dL_law_575 ?_
          refine lv_aload_n hx hb dL_law_576 rfl (lv_at hl 3 rfl) ?_
          refine rc_H (As := [.ref o1, .int (xs (w5 + (nI 1)).toNatClampNeg), .ref o9]) (rest := []) X h (meL_sheets l hl9 G _ _ _ _ _ hw) gS_L_135 rfl rfl hdS_L_sheets rfl ⟨Nat.le_of_ble_eq_true rfl, Nat.le_of_ble_eq_true rfl⟩ hl.1 rfl (Nat.le_of_ble_eq_true rfl) ⟨law_c (by omega), law_s (by omega)⟩ dL_law_577 (fun x141 S140 H locs hw h => ?_)
          refine lv_istore (lv' := [(6, .int x141), (0, .ref b), (1, .ref o1), (2, .ref o5), (3, .ref o9), (4, .ref o11), (5, .int w5)]) hx hb dL_law_580 hl (by decide) rfl (fun ls hl => ?_)
          refine lv_aload_n hx hb dL_law_582 rfl (lv_at hl 3 rfl) ?_
          refine lv_aload_n hx hb dL_law_583 rfl (lv_at hl 1 rfl) ?_
          refine lv_iload hx hb dL_law_584 (lv_at hl 6 rfl) ?_
          refine lv_iconst (v := (nI 1)) hx hb dL_law_586 (by decide) ?_
          refine lv_iadd hx hb dL_law_587 ?_
          obtain ⟨v142, hw⟩ := hw
          refine va_sld hx hb hX hbl hbA h.2.2 v142 dL_law_588 ?_
          obtain ⟨k144, hw⟩ := hw
          refine rc_V (As := [.int (xs (w5 + (nI 1)).toNatClampNeg)]) (rest := []) X h k144 (by decide) rfl (meX7_sheets l G _ _ _ _ hw) gV_L_137 rfl rfl hdV_X7_sheets rfl ⟨Nat.le_of_ble_eq_true rfl, Nat.le_of_ble_eq_true rfl⟩ hl.1 rfl (Nat.le_of_ble_eq_true rfl) ⟨law_c (by omega), law_s (by omega)⟩ dL_law_589 (fun x145 S143 H locs hw h => ?_)
          refine lv_istore (lv' := [(7, .int x145), (6, .int x141), (0, .ref b), (1, .ref o1), (2, .ref o5), (3, .ref o9), (4, .ref o11), (5, .int w5)]) hx hb dL_law_592 hl (by decide) rfl (fun ls hl => ?_)
          refine lv_aload_n hx hb dL_law_594 rfl (lv_at hl 4 rfl) ?_
          obtain ⟨k147, hw⟩ := hw
          refine rc_V (As := []) (rest := []) X h k147 (by decide) rfl (meX7_thrown l G _ _ _ hw) gV_L_111 rfl rfl hdV_X7_thrown rfl ⟨Nat.le_of_ble_eq_true rfl, Nat.le_of_ble_eq_true rfl⟩ hl.1 rfl (Nat.le_of_ble_eq_true rfl) ⟨law_c (by omega), law_s (by omega)⟩ dL_law_595 (fun x148 S146 H locs hw h => ?_)
          refine lv_iload hx hb dL_law_598 (lv_at hl 1 rfl) ?_
          refine lv_icmp_eq (tgt := 605) hx hb dL_law_600 (by decide) (fun c149 => ?_) (fun c149 => ?_)
          · have hw := hw.1 c149
            refine lv_iload hx hb dL_law_605 (lv_at hl 1 rfl) ?_
            refine lv_if_ne (tgt := 622) hx hb dL_law_607 (by decide) (fun c150 => ?_) (fun c150 => ?_)
            · have hw := hw.1 c150
              refine lv_goto (tgt := 1712) hx hb dL_law_622 (by decide) ?_
              obtain ⟨x151, ex151⟩ : ∃ y : Int32, y = (w5 + (nI 4)) := ⟨_, rfl⟩
              have hw := hw x151 ex151
              refine lv_iinc (v := x151) (lv' := [(5, .int x151), (7, .int x145), (6, .int x141), (0, .ref b), (1, .ref o1), (2, .ref o5), (3, .ref o9), (4, .ref o11)]) hx hb dL_law_1712 hl (k := 7) rfl (by rw [ex151]; rfl) (by decide) rfl (fun ls hl => ?_)
              refine lv_goto (tgt := 28) hx hb dL_law_1715 (by decide) ?_
              refine W.widen (k := kc + 7) (n := ks + 56) (by omega) (by omega) ?_
              exact ih _ _ hw _ _ _ _ _ (by omega) (by omega) h (lv_sub hl [3, 4, 5, 6, 7, 0] rfl)
            · have hw := hw.2 c150
              refine lv_aload_n hx hb dL_law_610 rfl (lv_at hl 5 rfl) ?_
              refine lv_iconst (v := (nI 0)) hx hb dL_law_611 (by decide) ?_
              obtain ⟨k152, hw⟩ := hw
              obtain ⟨v153, hw⟩ := hw
              refine r_lald X h k152 v153 dL_law_612 ?_
              refine lv_iload hx hb dL_law_613 (lv_at hl 0 rfl) ?_
              refine lv_i2l (v := x145.toInt64) hx hb dL_law_615 rfl ?_
              refine W.lcmp hx hb dL_law_616 ?_
              refine lv_if_eq (tgt := 622) hx hb dL_law_617 (by decide) (fun c154 => ?_) (fun c154 => ?_)
              · have hw := hw.1 c154
                refine lv_goto (tgt := 1712) hx hb dL_law_622 (by decide) ?_
                obtain ⟨x155, ex155⟩ : ∃ y : Int32, y = (w5 + (nI 4)) := ⟨_, rfl⟩
                have hw := hw x155 ex155
                refine lv_iinc (v := x155) (lv' := [(5, .int x155), (7, .int x145), (6, .int x141), (0, .ref b), (1, .ref o1), (2, .ref o5), (3, .ref o9), (4, .ref o11)]) hx hb dL_law_1712 hl (k := 7) rfl (by rw [ex155]; rfl) (by decide) rfl (fun ls hl => ?_)
                refine lv_goto (tgt := 28) hx hb dL_law_1715 (by decide) ?_
                refine W.widen (k := kc + 7) (n := ks + 56) (by omega) (by omega) ?_
                exact ih _ _ hw _ _ _ _ _ (by omega) (by omega) h (lv_sub hl [3, 4, 5, 6, 7, 0] rfl)
              · have hw := hw.2 c154
                refine lv_iconst (v := (nI 0)) hx hb dL_law_620 (by decide) ?_
                exact law_end X h hr hlk (hpost _ _ hw) (by omega) (by omega) dL_law_621
          · have hw := hw.2 c149
            refine lv_iconst (v := (nI 0)) hx hb dL_law_603 (by decide) ?_
            exact law_end X h hr hlk (hpost _ _ hw) (by omega) (by omega) dL_law_604
        have hw := hw.2
        rcases jc15 with _ | jc15
        · have hw := hw.1 c15
          refine lv_tableIn (tgt := 625) (off := 581) hx hb dL_law_44 (by rw [c15]; decide) (by rw [c15]; decide) (by rw [c15]; rfl) (by decide) ?_
          refine lv_aload_n hx hb dL_law_625 rfl (lv_at hl 1 rfl) ?_
          refine lv_aload_n hx hb dL_law_626 rfl (lv_at hl 0 rfl) ?_
          refine lv_iload hx hb dL_law_627 (lv_at hl 5 rfl) ?_
          refine lv_iconst (v := (nI 1)) hx hb dL_law_629 (by decide) ?_
          refine lv_iadd hx hb dL_law_630 ?_
          obtain ⟨v156, hw⟩ := hw
          refine va_sld hx hb hX hbl hbA h.2.2 v156 dL_law_631 ?_
          refine lv_aload_n hx hb dL_law_632 rfl (lv_at hl 0 rfl) ?_
          refine lv_iload hx hb dL_law_633 (lv_at hl 5 rfl) ?_
          refine lv_iconst (v := (nI 2)) hx hb dL_law_635 (by decide) ?_
          refine lv_iadd hx hb dL_law_636 ?_
          obtain ⟨v157, hw⟩ := hw
          refine va_sld hx hb hX hbl hbA h.2.2 v157 dL_law_637 ?_
          refine lv_aload_n hx hb dL_law_638 rfl (lv_at hl 0 rfl) ?_
          refine lv_iload hx hb dL_law_639 (lv_at hl 5 rfl) ?_
          refine lv_iconst (v := (nI 3)) hx hb dL_law_641 (by decide) ?_
          refine lv_iadd hx hb dL_law_642 ?_
          obtain ⟨v158, hw⟩ := hw
          refine va_sld hx hb hX hbl hbA h.2.2 v158 dL_law_643 ?_
          refine lv_aload_n hx hb dL_law_644 rfl (lv_at hl 3 rfl) ?_
          refine rc_H (As := [.ref o1, .int (xs (w5 + (nI 1)).toNatClampNeg), .int (xs (w5 + (nI 2)).toNatClampNeg), .int (xs (w5 + (nI 3)).toNatClampNeg), .ref o9]) (rest := []) X h (meL_pageAt l hl9 G _ _ _ _ _ _ _ hw) gS_L_138 rfl rfl hdS_L_pageAt rfl ⟨Nat.le_of_ble_eq_true rfl, Nat.le_of_ble_eq_true rfl⟩ hl.1 rfl (Nat.le_of_ble_eq_true rfl) ⟨law_c (by omega), law_s (by omega)⟩ dL_law_645 (fun x160 S159 H locs hw h => ?_)
          refine lv_istore (lv' := [(6, .int x160), (0, .ref b), (1, .ref o1), (2, .ref o5), (3, .ref o9), (4, .ref o11), (5, .int w5)]) hx hb dL_law_648 hl (by decide) rfl (fun ls hl => ?_)
          refine lv_aload_n hx hb dL_law_650 rfl (lv_at hl 3 rfl) ?_
          refine lv_aload_n hx hb dL_law_651 rfl (lv_at hl 1 rfl) ?_
          refine lv_iload hx hb dL_law_652 (lv_at hl 6 rfl) ?_
          refine lv_iconst (v := (nI 1)) hx hb dL_law_654 (by decide) ?_
          refine lv_iadd hx hb dL_law_655 ?_
          obtain ⟨v161, hw⟩ := hw
          refine va_sld hx hb hX hbl hbA h.2.2 v161 dL_law_656 ?_
          refine lv_aload_n hx hb dL_law_657 rfl (lv_at hl 1 rfl) ?_
          refine lv_iload hx hb dL_law_658 (lv_at hl 6 rfl) ?_
          refine lv_iconst (v := (nI 2)) hx hb dL_law_660 (by decide) ?_
          refine lv_iadd hx hb dL_law_661 ?_
          obtain ⟨v162, hw⟩ := hw
          refine va_sld hx hb hX hbl hbA h.2.2 v162 dL_law_662 ?_
          refine lv_aload_n hx hb dL_law_663 rfl (lv_at hl 1 rfl) ?_
          refine lv_iload hx hb dL_law_664 (lv_at hl 6 rfl) ?_
          refine lv_iconst (v := (nI 3)) hx hb dL_law_666 (by decide) ?_
          refine lv_iadd hx hb dL_law_667 ?_
          obtain ⟨v163, hw⟩ := hw
          refine va_sld hx hb hX hbl hbA h.2.2 v163 dL_law_668 ?_
          obtain ⟨k165, hw⟩ := hw
          refine rc_V (As := [.int (xs (w5 + (nI 1)).toNatClampNeg), .int (xs (w5 + (nI 2)).toNatClampNeg), .int (xs (w5 + (nI 3)).toNatClampNeg)]) (rest := []) X h k165 (by decide) rfl (meX7_pageAt l G _ _ _ _ _ _ hw) gV_L_141 rfl rfl hdV_X7_pageAt rfl ⟨Nat.le_of_ble_eq_true rfl, Nat.le_of_ble_eq_true rfl⟩ hl.1 rfl (Nat.le_of_ble_eq_true rfl) ⟨law_c (by omega), law_s (by omega)⟩ dL_law_669 (fun x166 S164 H locs hw h => ?_)
          refine lv_istore (lv' := [(7, .int x166), (6, .int x160), (0, .ref b), (1, .ref o1), (2, .ref o5), (3, .ref o9), (4, .ref o11), (5, .int w5)]) hx hb dL_law_672 hl (by decide) rfl (fun ls hl => ?_)
          refine lv_aload_n hx hb dL_law_674 rfl (lv_at hl 4 rfl) ?_
          obtain ⟨k168, hw⟩ := hw
          refine rc_V (As := []) (rest := []) X h k168 (by decide) rfl (meX7_thrown l G _ _ _ hw) gV_L_111 rfl rfl hdV_X7_thrown rfl ⟨Nat.le_of_ble_eq_true rfl, Nat.le_of_ble_eq_true rfl⟩ hl.1 rfl (Nat.le_of_ble_eq_true rfl) ⟨law_c (by omega), law_s (by omega)⟩ dL_law_675 (fun x169 S167 H locs hw h => ?_)
          refine lv_iload hx hb dL_law_678 (lv_at hl 1 rfl) ?_
          refine lv_icmp_eq (tgt := 685) hx hb dL_law_680 (by decide) (fun c170 => ?_) (fun c170 => ?_)
          · have hw := hw.1 c170
            refine lv_iload hx hb dL_law_685 (lv_at hl 1 rfl) ?_
            refine lv_if_ne (tgt := 702) hx hb dL_law_687 (by decide) (fun c171 => ?_) (fun c171 => ?_)
            · have hw := hw.1 c171
              refine lv_goto (tgt := 1712) hx hb dL_law_702 (by decide) ?_
              obtain ⟨x172, ex172⟩ : ∃ y : Int32, y = (w5 + (nI 4)) := ⟨_, rfl⟩
              have hw := hw x172 ex172
              refine lv_iinc (v := x172) (lv' := [(5, .int x172), (7, .int x166), (6, .int x160), (0, .ref b), (1, .ref o1), (2, .ref o5), (3, .ref o9), (4, .ref o11)]) hx hb dL_law_1712 hl (k := 7) rfl (by rw [ex172]; rfl) (by decide) rfl (fun ls hl => ?_)
              refine lv_goto (tgt := 28) hx hb dL_law_1715 (by decide) ?_
              refine W.widen (k := kc + 7) (n := ks + 56) (by omega) (by omega) ?_
              exact ih _ _ hw _ _ _ _ _ (by omega) (by omega) h (lv_sub hl [3, 4, 5, 6, 7, 0] rfl)
            · have hw := hw.2 c171
              refine lv_aload_n hx hb dL_law_690 rfl (lv_at hl 5 rfl) ?_
              refine lv_iconst (v := (nI 0)) hx hb dL_law_691 (by decide) ?_
              obtain ⟨k173, hw⟩ := hw
              obtain ⟨v174, hw⟩ := hw
              refine r_lald X h k173 v174 dL_law_692 ?_
              refine lv_iload hx hb dL_law_693 (lv_at hl 0 rfl) ?_
              refine lv_i2l (v := x166.toInt64) hx hb dL_law_695 rfl ?_
              refine W.lcmp hx hb dL_law_696 ?_
              refine lv_if_eq (tgt := 702) hx hb dL_law_697 (by decide) (fun c175 => ?_) (fun c175 => ?_)
              · have hw := hw.1 c175
                refine lv_goto (tgt := 1712) hx hb dL_law_702 (by decide) ?_
                obtain ⟨x176, ex176⟩ : ∃ y : Int32, y = (w5 + (nI 4)) := ⟨_, rfl⟩
                have hw := hw x176 ex176
                refine lv_iinc (v := x176) (lv' := [(5, .int x176), (7, .int x166), (6, .int x160), (0, .ref b), (1, .ref o1), (2, .ref o5), (3, .ref o9), (4, .ref o11)]) hx hb dL_law_1712 hl (k := 7) rfl (by rw [ex176]; rfl) (by decide) rfl (fun ls hl => ?_)
                refine lv_goto (tgt := 28) hx hb dL_law_1715 (by decide) ?_
                refine W.widen (k := kc + 7) (n := ks + 56) (by omega) (by omega) ?_
                exact ih _ _ hw _ _ _ _ _ (by omega) (by omega) h (lv_sub hl [3, 4, 5, 6, 7, 0] rfl)
              · have hw := hw.2 c175
                refine lv_iconst (v := (nI 0)) hx hb dL_law_700 (by decide) ?_
                exact law_end X h hr hlk (hpost _ _ hw) (by omega) (by omega) dL_law_701
          · have hw := hw.2 c170
            refine lv_iconst (v := (nI 0)) hx hb dL_law_683 (by decide) ?_
            exact law_end X h hr hlk (hpost _ _ hw) (by omega) (by omega) dL_law_684
        have hw := hw.2
        rcases jc15 with _ | jc15
        · have hw := hw.1 c15
          refine lv_tableIn (tgt := 705) (off := 661) hx hb dL_law_44 (by rw [c15]; decide) (by rw [c15]; decide) (by rw [c15]; rfl) (by decide) ?_
          refine lv_aload_n hx hb dL_law_705 rfl (lv_at hl 1 rfl) ?_
          refine lv_aload_n hx hb dL_law_706 rfl (lv_at hl 0 rfl) ?_
          refine lv_iload hx hb dL_law_707 (lv_at hl 5 rfl) ?_
          refine lv_iconst (v := (nI 1)) hx hb dL_law_709 (by decide) ?_
          refine lv_iadd hx hb dL_law_710 ?_
          obtain ⟨v177, hw⟩ := hw
          refine va_sld hx hb hX hbl hbA h.2.2 v177 dL_law_711 ?_
          refine lv_aload_n hx hb dL_law_712 rfl (lv_at hl 0 rfl) ?_
          refine lv_iload hx hb dL_law_713 (lv_at hl 5 rfl) ?_
          refine lv_iconst (v := (nI 2)) hx hb dL_law_715 (by decide) ?_
          refine lv_iadd hx hb dL_law_716 ?_
          obtain ⟨v178, hw⟩ := hw
          refine va_sld hx hb hX hbl hbA h.2.2 v178 dL_law_717 ?_
          refine lv_aload_n hx hb dL_law_718 rfl (lv_at hl 3 rfl) ?_
          refine rc_H (As := [.ref o1, .int (xs (w5 + (nI 1)).toNatClampNeg), .int (xs (w5 + (nI 2)).toNatClampNeg), .ref o9]) (rest := []) X h (meL_sheetOf l hl9 G _ _ _ _ _ _ hw) gS_L_142 rfl rfl hdS_L_sheetOf rfl ⟨Nat.le_of_ble_eq_true rfl, Nat.le_of_ble_eq_true rfl⟩ hl.1 rfl (Nat.le_of_ble_eq_true rfl) ⟨law_c (by omega), law_s (by omega)⟩ dL_law_719 (fun x180 S179 H locs hw h => ?_)
          refine lv_istore (lv' := [(6, .int x180), (0, .ref b), (1, .ref o1), (2, .ref o5), (3, .ref o9), (4, .ref o11), (5, .int w5)]) hx hb dL_law_722 hl (by decide) rfl (fun ls hl => ?_)
          refine lv_aload_n hx hb dL_law_724 rfl (lv_at hl 3 rfl) ?_
          refine lv_aload_n hx hb dL_law_725 rfl (lv_at hl 1 rfl) ?_
          refine lv_iload hx hb dL_law_726 (lv_at hl 6 rfl) ?_
          refine lv_iconst (v := (nI 1)) hx hb dL_law_728 (by decide) ?_
          refine lv_iadd hx hb dL_law_729 ?_
          obtain ⟨v181, hw⟩ := hw
          refine va_sld hx hb hX hbl hbA h.2.2 v181 dL_law_730 ?_
          refine lv_aload_n hx hb dL_law_731 rfl (lv_at hl 1 rfl) ?_
          refine lv_iload hx hb dL_law_732 (lv_at hl 6 rfl) ?_
          refine lv_iconst (v := (nI 2)) hx hb dL_law_734 (by decide) ?_
          refine lv_iadd hx hb dL_law_735 ?_
          obtain ⟨v182, hw⟩ := hw
          refine va_sld hx hb hX hbl hbA h.2.2 v182 dL_law_736 ?_
          obtain ⟨k184, hw⟩ := hw
          refine rc_V (As := [.int (xs (w5 + (nI 1)).toNatClampNeg), .int (xs (w5 + (nI 2)).toNatClampNeg)]) (rest := []) X h k184 (by decide) rfl (meX7_sheetOf l G _ _ _ _ _ hw) gV_L_144 rfl rfl hdV_X7_sheetOf rfl ⟨Nat.le_of_ble_eq_true rfl, Nat.le_of_ble_eq_true rfl⟩ hl.1 rfl (Nat.le_of_ble_eq_true rfl) ⟨law_c (by omega), law_s (by omega)⟩ dL_law_737 (fun x185 S183 H locs hw h => ?_)
          refine lv_istore (lv' := [(7, .int x185), (6, .int x180), (0, .ref b), (1, .ref o1), (2, .ref o5), (3, .ref o9), (4, .ref o11), (5, .int w5)]) hx hb dL_law_740 hl (by decide) rfl (fun ls hl => ?_)
          refine lv_aload_n hx hb dL_law_742 rfl (lv_at hl 4 rfl) ?_
          obtain ⟨k187, hw⟩ := hw
          refine rc_V (As := []) (rest := []) X h k187 (by decide) rfl (meX7_thrown l G _ _ _ hw) gV_L_111 rfl rfl hdV_X7_thrown rfl ⟨Nat.le_of_ble_eq_true rfl, Nat.le_of_ble_eq_true rfl⟩ hl.1 rfl (Nat.le_of_ble_eq_true rfl) ⟨law_c (by omega), law_s (by omega)⟩ dL_law_743 (fun x188 S186 H locs hw h => ?_)
          refine lv_iload hx hb dL_law_746 (lv_at hl 1 rfl) ?_
          refine lv_icmp_eq (tgt := 753) hx hb dL_law_748 (by decide) (fun c189 => ?_) (fun c189 => ?_)
          · have hw := hw.1 c189
            refine lv_iload hx hb dL_law_753 (lv_at hl 1 rfl) ?_
            refine lv_if_ne (tgt := 770) hx hb dL_law_755 (by decide) (fun c190 => ?_) (fun c190 => ?_)
            · have hw := hw.1 c190
              refine lv_goto (tgt := 1712) hx hb dL_law_770 (by decide) ?_
              obtain ⟨x191, ex191⟩ : ∃ y : Int32, y = (w5 + (nI 4)) := ⟨_, rfl⟩
              have hw := hw x191 ex191
              refine lv_iinc (v := x191) (lv' := [(5, .int x191), (7, .int x185), (6, .int x180), (0, .ref b), (1, .ref o1), (2, .ref o5), (3, .ref o9), (4, .ref o11)]) hx hb dL_law_1712 hl (k := 7) rfl (by rw [ex191]; rfl) (by decide) rfl (fun ls hl => ?_)
              refine lv_goto (tgt := 28) hx hb dL_law_1715 (by decide) ?_
              refine W.widen (k := kc + 7) (n := ks + 56) (by omega) (by omega) ?_
              exact ih _ _ hw _ _ _ _ _ (by omega) (by omega) h (lv_sub hl [3, 4, 5, 6, 7, 0] rfl)
            · have hw := hw.2 c190
              refine lv_aload_n hx hb dL_law_758 rfl (lv_at hl 5 rfl) ?_
              refine lv_iconst (v := (nI 0)) hx hb dL_law_759 (by decide) ?_
              obtain ⟨k192, hw⟩ := hw
              obtain ⟨v193, hw⟩ := hw
              refine r_lald X h k192 v193 dL_law_760 ?_
              refine lv_iload hx hb dL_law_761 (lv_at hl 0 rfl) ?_
              refine lv_i2l (v := x185.toInt64) hx hb dL_law_763 rfl ?_
              refine W.lcmp hx hb dL_law_764 ?_
              refine lv_if_eq (tgt := 770) hx hb dL_law_765 (by decide) (fun c194 => ?_) (fun c194 => ?_)
              · have hw := hw.1 c194
                refine lv_goto (tgt := 1712) hx hb dL_law_770 (by decide) ?_
                obtain ⟨x195, ex195⟩ : ∃ y : Int32, y = (w5 + (nI 4)) := ⟨_, rfl⟩
                have hw := hw x195 ex195
                refine lv_iinc (v := x195) (lv' := [(5, .int x195), (7, .int x185), (6, .int x180), (0, .ref b), (1, .ref o1), (2, .ref o5), (3, .ref o9), (4, .ref o11)]) hx hb dL_law_1712 hl (k := 7) rfl (by rw [ex195]; rfl) (by decide) rfl (fun ls hl => ?_)
                refine lv_goto (tgt := 28) hx hb dL_law_1715 (by decide) ?_
                refine W.widen (k := kc + 7) (n := ks + 56) (by omega) (by omega) ?_
                exact ih _ _ hw _ _ _ _ _ (by omega) (by omega) h (lv_sub hl [3, 4, 5, 6, 7, 0] rfl)
              · have hw := hw.2 c194
                refine lv_iconst (v := (nI 0)) hx hb dL_law_768 (by decide) ?_
                exact law_end X h hr hlk (hpost _ _ hw) (by omega) (by omega) dL_law_769
          · have hw := hw.2 c189
            refine lv_iconst (v := (nI 0)) hx hb dL_law_751 (by decide) ?_
            exact law_end X h hr hlk (hpost _ _ hw) (by omega) (by omega) dL_law_752
        have hw := hw.2
        rcases jc15 with _ | jc15
        · have hw := hw.1 c15
          refine lv_tableIn (tgt := 773) (off := 729) hx hb dL_law_44 (by rw [c15]; decide) (by rw [c15]; decide) (by rw [c15]; rfl) (by decide) ?_
          refine lv_aload_n hx hb dL_law_773 rfl (lv_at hl 1 rfl) ?_
          refine lv_aload_n hx hb dL_law_774 rfl (lv_at hl 0 rfl) ?_
          refine lv_iload hx hb dL_law_775 (lv_at hl 5 rfl) ?_
          refine lv_iconst (v := (nI 1)) hx hb dL_law_777 (by decide) ?_
          refine lv_iadd hx hb dL_law_778 ?_
          obtain ⟨v196, hw⟩ := hw
          refine va_sld hx hb hX hbl hbA h.2.2 v196 dL_law_779 ?_
          refine lv_aload_n hx hb dL_law_780 rfl (lv_at hl 0 rfl) ?_
          refine lv_iload hx hb dL_law_781 (lv_at hl 5 rfl) ?_
          refine lv_iconst (v := (nI 2)) hx hb dL_law_783 (by decide) ?_
          refine lv_iadd hx hb dL_law_784 ?_
          obtain ⟨v197, hw⟩ := hw
          refine va_sld hx hb hX hbl hbA h.2.2 v197 dL_law_785 ?_
          refine lv_aload_n hx hb dL_law_786 rfl (lv_at hl 0 rfl) ?_
          refine lv_iload hx hb dL_law_787 (lv_at hl 5 rfl) ?_
          refine lv_iconst (v := (nI 3)) hx hb dL_law_789 (by decide) ?_
          refine lv_iadd hx hb dL_law_790 ?_
          obtain ⟨v198, hw⟩ := hw
          refine va_sld hx hb hX hbl hbA h.2.2 v198 dL_law_791 ?_
          refine lv_aload_n hx hb dL_law_792 rfl (lv_at hl 3 rfl) ?_
          refine rc_H (As := [.ref o1, .int (xs (w5 + (nI 1)).toNatClampNeg), .int (xs (w5 + (nI 2)).toNatClampNeg), .int (xs (w5 + (nI 3)).toNatClampNeg), .ref o9]) (rest := []) X h (meL_print l hl9 G _ _ _ _ _ _ _ hw) gS_L_145 rfl rfl hdS_L_print rfl ⟨Nat.le_of_ble_eq_true rfl, Nat.le_of_ble_eq_true rfl⟩ hl.1 rfl (Nat.le_of_ble_eq_true rfl) ⟨law_c (by omega), law_s (by omega)⟩ dL_law_793 (fun x200 S199 H locs hw h => ?_)
          refine lv_istore (lv' := [(6, .int x200), (0, .ref b), (1, .ref o1), (2, .ref o5), (3, .ref o9), (4, .ref o11), (5, .int w5)]) hx hb dL_law_796 hl (by decide) rfl (fun ls hl => ?_)
          refine lv_aload_n hx hb dL_law_798 rfl (lv_at hl 3 rfl) ?_
          refine lv_aload_n hx hb dL_law_799 rfl (lv_at hl 1 rfl) ?_
          refine lv_iload hx hb dL_law_800 (lv_at hl 6 rfl) ?_
          refine lv_iconst (v := (nI 1)) hx hb dL_law_802 (by decide) ?_
          refine lv_iadd hx hb dL_law_803 ?_
          obtain ⟨v201, hw⟩ := hw
          refine va_sld hx hb hX hbl hbA h.2.2 v201 dL_law_804 ?_
          refine lv_aload_n hx hb dL_law_805 rfl (lv_at hl 1 rfl) ?_
          refine lv_iload hx hb dL_law_806 (lv_at hl 6 rfl) ?_
          refine lv_iconst (v := (nI 2)) hx hb dL_law_808 (by decide) ?_
          refine lv_iadd hx hb dL_law_809 ?_
          obtain ⟨v202, hw⟩ := hw
          refine va_sld hx hb hX hbl hbA h.2.2 v202 dL_law_810 ?_
          refine lv_aload_n hx hb dL_law_811 rfl (lv_at hl 1 rfl) ?_
          refine lv_iload hx hb dL_law_812 (lv_at hl 6 rfl) ?_
          refine lv_iconst (v := (nI 3)) hx hb dL_law_814 (by decide) ?_
          refine lv_iadd hx hb dL_law_815 ?_
          obtain ⟨v203, hw⟩ := hw
          refine va_sld hx hb hX hbl hbA h.2.2 v203 dL_law_816 ?_
          obtain ⟨k205, hw⟩ := hw
          refine rc_V (As := [.int (xs (w5 + (nI 1)).toNatClampNeg), .int (xs (w5 + (nI 2)).toNatClampNeg), .int (xs (w5 + (nI 3)).toNatClampNeg)]) (rest := []) X h k205 (by decide) rfl (meX7_print l G _ _ _ _ _ _ hw) gV_L_147 rfl rfl hdV_X7_print rfl ⟨Nat.le_of_ble_eq_true rfl, Nat.le_of_ble_eq_true rfl⟩ hl.1 rfl (Nat.le_of_ble_eq_true rfl) ⟨law_c (by omega), law_s (by omega)⟩ dL_law_817 (fun x206 S204 H locs hw h => ?_)
          refine lv_istore (lv' := [(7, .int x206), (6, .int x200), (0, .ref b), (1, .ref o1), (2, .ref o5), (3, .ref o9), (4, .ref o11), (5, .int w5)]) hx hb dL_law_820 hl (by decide) rfl (fun ls hl => ?_)
          refine lv_aload_n hx hb dL_law_822 rfl (lv_at hl 4 rfl) ?_
          obtain ⟨k208, hw⟩ := hw
          refine rc_V (As := []) (rest := []) X h k208 (by decide) rfl (meX7_thrown l G _ _ _ hw) gV_L_111 rfl rfl hdV_X7_thrown rfl ⟨Nat.le_of_ble_eq_true rfl, Nat.le_of_ble_eq_true rfl⟩ hl.1 rfl (Nat.le_of_ble_eq_true rfl) ⟨law_c (by omega), law_s (by omega)⟩ dL_law_823 (fun x209 S207 H locs hw h => ?_)
          refine lv_iload hx hb dL_law_826 (lv_at hl 1 rfl) ?_
          refine lv_icmp_eq (tgt := 833) hx hb dL_law_828 (by decide) (fun c210 => ?_) (fun c210 => ?_)
          · have hw := hw.1 c210
            refine lv_iload hx hb dL_law_833 (lv_at hl 1 rfl) ?_
            refine lv_if_ne (tgt := 850) hx hb dL_law_835 (by decide) (fun c211 => ?_) (fun c211 => ?_)
            · have hw := hw.1 c211
              refine lv_goto (tgt := 1712) hx hb dL_law_850 (by decide) ?_
              obtain ⟨x212, ex212⟩ : ∃ y : Int32, y = (w5 + (nI 4)) := ⟨_, rfl⟩
              have hw := hw x212 ex212
              refine lv_iinc (v := x212) (lv' := [(5, .int x212), (7, .int x206), (6, .int x200), (0, .ref b), (1, .ref o1), (2, .ref o5), (3, .ref o9), (4, .ref o11)]) hx hb dL_law_1712 hl (k := 7) rfl (by rw [ex212]; rfl) (by decide) rfl (fun ls hl => ?_)
              refine lv_goto (tgt := 28) hx hb dL_law_1715 (by decide) ?_
              refine W.widen (k := kc + 7) (n := ks + 56) (by omega) (by omega) ?_
              exact ih _ _ hw _ _ _ _ _ (by omega) (by omega) h (lv_sub hl [3, 4, 5, 6, 7, 0] rfl)
            · have hw := hw.2 c211
              refine lv_aload_n hx hb dL_law_838 rfl (lv_at hl 5 rfl) ?_
              refine lv_iconst (v := (nI 0)) hx hb dL_law_839 (by decide) ?_
              obtain ⟨k213, hw⟩ := hw
              obtain ⟨v214, hw⟩ := hw
              refine r_lald X h k213 v214 dL_law_840 ?_
              refine lv_iload hx hb dL_law_841 (lv_at hl 0 rfl) ?_
              refine lv_i2l (v := x206.toInt64) hx hb dL_law_843 rfl ?_
              refine W.lcmp hx hb dL_law_844 ?_
              refine lv_if_eq (tgt := 850) hx hb dL_law_845 (by decide) (fun c215 => ?_) (fun c215 => ?_)
              · have hw := hw.1 c215
                refine lv_goto (tgt := 1712) hx hb dL_law_850 (by decide) ?_
                obtain ⟨x216, ex216⟩ : ∃ y : Int32, y = (w5 + (nI 4)) := ⟨_, rfl⟩
                have hw := hw x216 ex216
                refine lv_iinc (v := x216) (lv' := [(5, .int x216), (7, .int x206), (6, .int x200), (0, .ref b), (1, .ref o1), (2, .ref o5), (3, .ref o9), (4, .ref o11)]) hx hb dL_law_1712 hl (k := 7) rfl (by rw [ex216]; rfl) (by decide) rfl (fun ls hl => ?_)
                refine lv_goto (tgt := 28) hx hb dL_law_1715 (by decide) ?_
                refine W.widen (k := kc + 7) (n := ks + 56) (by omega) (by omega) ?_
                exact ih _ _ hw _ _ _ _ _ (by omega) (by omega) h (lv_sub hl [3, 4, 5, 6, 7, 0] rfl)
              · have hw := hw.2 c215
                refine lv_iconst (v := (nI 0)) hx hb dL_law_848 (by decide) ?_
                exact law_end X h hr hlk (hpost _ _ hw) (by omega) (by omega) dL_law_849
          · have hw := hw.2 c210
            refine lv_iconst (v := (nI 0)) hx hb dL_law_831 (by decide) ?_
            exact law_end X h hr hlk (hpost _ _ hw) (by omega) (by omega) dL_law_832
        have hw := hw.2
        rcases jc15 with _ | jc15
        · have hw := hw.1 c15
          refine lv_tableIn (tgt := 853) (off := 809) hx hb dL_law_44 (by rw [c15]; decide) (by rw [c15]; decide) (by rw [c15]; rfl) (by decide) ?_
          refine lv_aload_n hx hb dL_law_853 rfl (lv_at hl 1 rfl) ?_
          refine lv_aload_n hx hb dL_law_854 rfl (lv_at hl 0 rfl) ?_
          refine lv_iload hx hb dL_law_855 (lv_at hl 5 rfl) ?_
          refine lv_iconst (v := (nI 1)) hx hb dL_law_857 (by decide) ?_
          refine lv_iadd hx hb dL_law_858 ?_
          obtain ⟨v217, hw⟩ := hw
          refine va_sld hx hb hX hbl hbA h.2.2 v217 dL_law_859 ?_
          refine lv_aload_n hx hb dL_law_860 rfl (lv_at hl 0 rfl) ?_
          refine lv_iload hx hb dL_law_861 (lv_at hl 5 rfl) ?_
          refine lv_iconst (v := (nI 2)) hx hb dL_law_863 (by decide) ?_
          refine lv_iadd hx hb dL_law_864 ?_
          obtain ⟨v218, hw⟩ := hw
          refine va_sld hx hb hX hbl hbA h.2.2 v218 dL_law_865 ?_
          refine lv_aload_n hx hb dL_law_866 rfl (lv_at hl 3 rfl) ?_
          refine rc_H (As := [.ref o1, .int (xs (w5 + (nI 1)).toNatClampNeg), .int (xs (w5 + (nI 2)).toNatClampNeg), .ref o9]) (rest := []) X h (meL_makeready l hl9 G _ _ _ _ _ _ hw) gS_L_148 rfl rfl hdS_L_makeready rfl ⟨Nat.le_of_ble_eq_true rfl, Nat.le_of_ble_eq_true rfl⟩ hl.1 rfl (Nat.le_of_ble_eq_true rfl) ⟨law_c (by omega), law_s (by omega)⟩ dL_law_867 (fun x220 S219 H locs hw h => ?_)
          refine lv_istore (lv' := [(6, .int x220), (0, .ref b), (1, .ref o1), (2, .ref o5), (3, .ref o9), (4, .ref o11), (5, .int w5)]) hx hb dL_law_870 hl (by decide) rfl (fun ls hl => ?_)
          refine lv_aload_n hx hb dL_law_872 rfl (lv_at hl 3 rfl) ?_
          refine lv_aload_n hx hb dL_law_873 rfl (lv_at hl 1 rfl) ?_
          refine lv_iload hx hb dL_law_874 (lv_at hl 6 rfl) ?_
          refine lv_iconst (v := (nI 1)) hx hb dL_law_876 (by decide) ?_
          refine lv_iadd hx hb dL_law_877 ?_
          obtain ⟨v221, hw⟩ := hw
          refine va_sld hx hb hX hbl hbA h.2.2 v221 dL_law_878 ?_
          refine lv_aload_n hx hb dL_law_879 rfl (lv_at hl 1 rfl) ?_
          refine lv_iload hx hb dL_law_880 (lv_at hl 6 rfl) ?_
          refine lv_iconst (v := (nI 2)) hx hb dL_law_882 (by decide) ?_
          refine lv_iadd hx hb dL_law_883 ?_
          obtain ⟨v222, hw⟩ := hw
          refine va_sld hx hb hX hbl hbA h.2.2 v222 dL_law_884 ?_
          obtain ⟨k224, hw⟩ := hw
          refine rc_V (As := [.int (xs (w5 + (nI 1)).toNatClampNeg), .int (xs (w5 + (nI 2)).toNatClampNeg)]) (rest := []) X h k224 (by decide) rfl (meX7_makeready l G _ _ _ _ _ hw) gV_L_150 rfl rfl hdV_X7_makeready rfl ⟨Nat.le_of_ble_eq_true rfl, Nat.le_of_ble_eq_true rfl⟩ hl.1 rfl (Nat.le_of_ble_eq_true rfl) ⟨law_c (by omega), law_s (by omega)⟩ dL_law_885 (fun x225 S223 H locs hw h => ?_)
          refine lv_istore (lv' := [(7, .int x225), (6, .int x220), (0, .ref b), (1, .ref o1), (2, .ref o5), (3, .ref o9), (4, .ref o11), (5, .int w5)]) hx hb dL_law_888 hl (by decide) rfl (fun ls hl => ?_)
          refine lv_aload_n hx hb dL_law_890 rfl (lv_at hl 4 rfl) ?_
          obtain ⟨k227, hw⟩ := hw
          refine rc_V (As := []) (rest := []) X h k227 (by decide) rfl (meX7_thrown l G _ _ _ hw) gV_L_111 rfl rfl hdV_X7_thrown rfl ⟨Nat.le_of_ble_eq_true rfl, Nat.le_of_ble_eq_true rfl⟩ hl.1 rfl (Nat.le_of_ble_eq_true rfl) ⟨law_c (by omega), law_s (by omega)⟩ dL_law_891 (fun x228 S226 H locs hw h => ?_)
          refine lv_iload hx hb dL_law_894 (lv_at hl 1 rfl) ?_
          refine lv_icmp_eq (tgt := 901) hx hb dL_law_896 (by decide) (fun c229 => ?_) (fun c229 => ?_)
          · have hw := hw.1 c229
            refine lv_iload hx hb dL_law_901 (lv_at hl 1 rfl) ?_
            refine lv_if_ne (tgt := 918) hx hb dL_law_903 (by decide) (fun c230 => ?_) (fun c230 => ?_)
            · have hw := hw.1 c230
              refine lv_goto (tgt := 1712) hx hb dL_law_918 (by decide) ?_
              obtain ⟨x231, ex231⟩ : ∃ y : Int32, y = (w5 + (nI 4)) := ⟨_, rfl⟩
              have hw := hw x231 ex231
              refine lv_iinc (v := x231) (lv' := [(5, .int x231), (7, .int x225), (6, .int x220), (0, .ref b), (1, .ref o1), (2, .ref o5), (3, .ref o9), (4, .ref o11)]) hx hb dL_law_1712 hl (k := 7) rfl (by rw [ex231]; rfl) (by decide) rfl (fun ls hl => ?_)
              refine lv_goto (tgt := 28) hx hb dL_law_1715 (by decide) ?_
              refine W.widen (k := kc + 7) (n := ks + 56) (by omega) (by omega) ?_
              exact ih _ _ hw _ _ _ _ _ (by omega) (by omega) h (lv_sub hl [3, 4, 5, 6, 7, 0] rfl)
            · have hw := hw.2 c230
              refine lv_aload_n hx hb dL_law_906 rfl (lv_at hl 5 rfl) ?_
              refine lv_iconst (v := (nI 0)) hx hb dL_law_907 (by decide) ?_
              obtain ⟨k232, hw⟩ := hw
              obtain ⟨v233, hw⟩ := hw
              refine r_lald X h k232 v233 dL_law_908 ?_
              refine lv_iload hx hb dL_law_909 (lv_at hl 0 rfl) ?_
              refine lv_i2l (v := x225.toInt64) hx hb dL_law_911 rfl ?_
              refine W.lcmp hx hb dL_law_912 ?_
              refine lv_if_eq (tgt := 918) hx hb dL_law_913 (by decide) (fun c234 => ?_) (fun c234 => ?_)
              · have hw := hw.1 c234
                refine lv_goto (tgt := 1712) hx hb dL_law_918 (by decide) ?_
                obtain ⟨x235, ex235⟩ : ∃ y : Int32, y = (w5 + (nI 4)) := ⟨_, rfl⟩
                have hw := hw x235 ex235
                refine lv_iinc (v := x235) (lv' := [(5, .int x235), (7, .int x225), (6, .int x220), (0, .ref b), (1, .ref o1), (2, .ref o5), (3, .ref o9), (4, .ref o11)]) hx hb dL_law_1712 hl (k := 7) rfl (by rw [ex235]; rfl) (by decide) rfl (fun ls hl => ?_)
                refine lv_goto (tgt := 28) hx hb dL_law_1715 (by decide) ?_
                refine W.widen (k := kc + 7) (n := ks + 56) (by omega) (by omega) ?_
                exact ih _ _ hw _ _ _ _ _ (by omega) (by omega) h (lv_sub hl [3, 4, 5, 6, 7, 0] rfl)
              · have hw := hw.2 c234
                refine lv_iconst (v := (nI 0)) hx hb dL_law_916 (by decide) ?_
                exact law_end X h hr hlk (hpost _ _ hw) (by omega) (by omega) dL_law_917
          · have hw := hw.2 c229
            refine lv_iconst (v := (nI 0)) hx hb dL_law_899 (by decide) ?_
            exact law_end X h hr hlk (hpost _ _ hw) (by omega) (by omega) dL_law_900
        have hw := hw.2
        rcases jc15 with _ | jc15
        · have hw := hw.1 c15
          refine lv_tableIn (tgt := 921) (off := 877) hx hb dL_law_44 (by rw [c15]; decide) (by rw [c15]; decide) (by rw [c15]; rfl) (by decide) ?_
          refine lv_aload_n hx hb dL_law_921 rfl (lv_at hl 1 rfl) ?_
          refine lv_aload_n hx hb dL_law_922 rfl (lv_at hl 0 rfl) ?_
          refine lv_iload hx hb dL_law_923 (lv_at hl 5 rfl) ?_
          refine lv_iconst (v := (nI 1)) hx hb dL_law_925 (by decide) ?_
          refine lv_iadd hx hb dL_law_926 ?_
          obtain ⟨v236, hw⟩ := hw
          refine va_sld hx hb hX hbl hbA h.2.2 v236 dL_law_927 ?_
          refine lv_aload_n hx hb dL_law_928 rfl (lv_at hl 3 rfl) ?_
          refine rc_H (As := [.ref o1, .int (xs (w5 + (nI 1)).toNatClampNeg), .ref o9]) (rest := []) X h (meL_leastMakeready l hl9 G _ _ _ _ _ hw) gS_L_151 rfl rfl hdS_L_leastMakeready rfl ⟨Nat.le_of_ble_eq_true rfl, Nat.le_of_ble_eq_true rfl⟩ hl.1 rfl (Nat.le_of_ble_eq_true rfl) ⟨law_c (by omega), law_s (by omega)⟩ dL_law_929 (fun x238 S237 H locs hw h => ?_)
          refine lv_istore (lv' := [(6, .int x238), (0, .ref b), (1, .ref o1), (2, .ref o5), (3, .ref o9), (4, .ref o11), (5, .int w5)]) hx hb dL_law_932 hl (by decide) rfl (fun ls hl => ?_)
          refine lv_aload_n hx hb dL_law_934 rfl (lv_at hl 3 rfl) ?_
          refine lv_aload_n hx hb dL_law_935 rfl (lv_at hl 1 rfl) ?_
          refine lv_iload hx hb dL_law_936 (lv_at hl 6 rfl) ?_
          refine lv_iconst (v := (nI 1)) hx hb dL_law_938 (by decide) ?_
          refine lv_iadd hx hb dL_law_939 ?_
          obtain ⟨v239, hw⟩ := hw
          refine va_sld hx hb hX hbl hbA h.2.2 v239 dL_law_940 ?_
          obtain ⟨k241, hw⟩ := hw
          refine rc_V (As := [.int (xs (w5 + (nI 1)).toNatClampNeg)]) (rest := []) X h k241 (by decide) rfl (meX7_leastMakeready l G _ _ _ _ hw) gV_L_153 rfl rfl hdV_X7_leastMakeready rfl ⟨Nat.le_of_ble_eq_true rfl, Nat.le_of_ble_eq_true rfl⟩ hl.1 rfl (Nat.le_of_ble_eq_true rfl) ⟨law_c (by omega), law_s (by omega)⟩ dL_law_941 (fun x242 S240 H locs hw h => ?_)
          refine lv_istore (lv' := [(7, .int x242), (6, .int x238), (0, .ref b), (1, .ref o1), (2, .ref o5), (3, .ref o9), (4, .ref o11), (5, .int w5)]) hx hb dL_law_944 hl (by decide) rfl (fun ls hl => ?_)
          refine lv_aload_n hx hb dL_law_946 rfl (lv_at hl 4 rfl) ?_
          obtain ⟨k244, hw⟩ := hw
          refine rc_V (As := []) (rest := []) X h k244 (by decide) rfl (meX7_thrown l G _ _ _ hw) gV_L_111 rfl rfl hdV_X7_thrown rfl ⟨Nat.le_of_ble_eq_true rfl, Nat.le_of_ble_eq_true rfl⟩ hl.1 rfl (Nat.le_of_ble_eq_true rfl) ⟨law_c (by omega), law_s (by omega)⟩ dL_law_947 (fun x245 S243 H locs hw h => ?_)
          refine lv_iload hx hb dL_law_950 (lv_at hl 1 rfl) ?_
          refine lv_icmp_eq (tgt := 957) hx hb dL_law_952 (by decide) (fun c246 => ?_) (fun c246 => ?_)
          · have hw := hw.1 c246
            refine lv_iload hx hb dL_law_957 (lv_at hl 1 rfl) ?_
            refine lv_if_ne (tgt := 974) hx hb dL_law_959 (by decide) (fun c247 => ?_) (fun c247 => ?_)
            · have hw := hw.1 c247
              refine lv_goto (tgt := 1712) hx hb dL_law_974 (by decide) ?_
              obtain ⟨x248, ex248⟩ : ∃ y : Int32, y = (w5 + (nI 4)) := ⟨_, rfl⟩
              have hw := hw x248 ex248
              refine lv_iinc (v := x248) (lv' := [(5, .int x248), (7, .int x242), (6, .int x238), (0, .ref b), (1, .ref o1), (2, .ref o5), (3, .ref o9), (4, .ref o11)]) hx hb dL_law_1712 hl (k := 7) rfl (by rw [ex248]; rfl) (by decide) rfl (fun ls hl => ?_)
              refine lv_goto (tgt := 28) hx hb dL_law_1715 (by decide) ?_
              refine W.widen (k := kc + 7) (n := ks + 56) (by omega) (by omega) ?_
              exact ih _ _ hw _ _ _ _ _ (by omega) (by omega) h (lv_sub hl [3, 4, 5, 6, 7, 0] rfl)
            · have hw := hw.2 c247
              refine lv_aload_n hx hb dL_law_962 rfl (lv_at hl 5 rfl) ?_
              refine lv_iconst (v := (nI 0)) hx hb dL_law_963 (by decide) ?_
              obtain ⟨k249, hw⟩ := hw
              obtain ⟨v250, hw⟩ := hw
              refine r_lald X h k249 v250 dL_law_964 ?_
              refine lv_iload hx hb dL_law_965 (lv_at hl 0 rfl) ?_
              refine lv_i2l (v := x242.toInt64) hx hb dL_law_967 rfl ?_
              refine W.lcmp hx hb dL_law_968 ?_
              refine lv_if_eq (tgt := 974) hx hb dL_law_969 (by decide) (fun c251 => ?_) (fun c251 => ?_)
              · have hw := hw.1 c251
                refine lv_goto (tgt := 1712) hx hb dL_law_974 (by decide) ?_
                obtain ⟨x252, ex252⟩ : ∃ y : Int32, y = (w5 + (nI 4)) := ⟨_, rfl⟩
                have hw := hw x252 ex252
                refine lv_iinc (v := x252) (lv' := [(5, .int x252), (7, .int x242), (6, .int x238), (0, .ref b), (1, .ref o1), (2, .ref o5), (3, .ref o9), (4, .ref o11)]) hx hb dL_law_1712 hl (k := 7) rfl (by rw [ex252]; rfl) (by decide) rfl (fun ls hl => ?_)
                refine lv_goto (tgt := 28) hx hb dL_law_1715 (by decide) ?_
                refine W.widen (k := kc + 7) (n := ks + 56) (by omega) (by omega) ?_
                exact ih _ _ hw _ _ _ _ _ (by omega) (by omega) h (lv_sub hl [3, 4, 5, 6, 7, 0] rfl)
              · have hw := hw.2 c251
                refine lv_iconst (v := (nI 0)) hx hb dL_law_972 (by decide) ?_
                exact law_end X h hr hlk (hpost _ _ hw) (by omega) (by omega) dL_law_973
          · have hw := hw.2 c246
            refine lv_iconst (v := (nI 0)) hx hb dL_law_955 (by decide) ?_
            exact law_end X h hr hlk (hpost _ _ hw) (by omega) (by omega) dL_law_956
        have hw := hw.2
        rcases jc15 with _ | jc15
        · have hw := hw.1 c15
          refine lv_tableIn (tgt := 977) (off := 933) hx hb dL_law_44 (by rw [c15]; decide) (by rw [c15]; decide) (by rw [c15]; rfl) (by decide) ?_
          refine lv_aload_n hx hb dL_law_977 rfl (lv_at hl 1 rfl) ?_
          refine lv_aload_n hx hb dL_law_978 rfl (lv_at hl 0 rfl) ?_
          refine lv_iload hx hb dL_law_979 (lv_at hl 5 rfl) ?_
          refine lv_iconst (v := (nI 1)) hx hb dL_law_981 (by decide) ?_
          refine lv_iadd hx hb dL_law_982 ?_
          obtain ⟨v253, hw⟩ := hw
          refine va_sld hx hb hX hbl hbA h.2.2 v253 dL_law_983 ?_
          refine lv_aload_n hx hb dL_law_984 rfl (lv_at hl 3 rfl) ?_
          refine rc_H (As := [.ref o1, .int (xs (w5 + (nI 1)).toNatClampNeg), .ref o9]) (rest := []) X h (meL_leastByTrying l hl9 G _ _ _ _ _ hw) gS_L_154 rfl rfl hdS_L_leastByTrying rfl ⟨Nat.le_of_ble_eq_true rfl, Nat.le_of_ble_eq_true rfl⟩ hl.1 rfl (Nat.le_of_ble_eq_true rfl) ⟨law_c (by omega), law_s (by omega)⟩ dL_law_985 (fun x255 S254 H locs hw h => ?_)
          refine lv_istore (lv' := [(6, .int x255), (0, .ref b), (1, .ref o1), (2, .ref o5), (3, .ref o9), (4, .ref o11), (5, .int w5)]) hx hb dL_law_988 hl (by decide) rfl (fun ls hl => ?_)
          refine lv_aload_n hx hb dL_law_990 rfl (lv_at hl 3 rfl) ?_
          refine lv_aload_n hx hb dL_law_991 rfl (lv_at hl 1 rfl) ?_
          refine lv_iload hx hb dL_law_992 (lv_at hl 6 rfl) ?_
          refine lv_iconst (v := (nI 1)) hx hb dL_law_994 (by decide) ?_
          refine lv_iadd hx hb dL_law_995 ?_
          obtain ⟨v256, hw⟩ := hw
          refine va_sld hx hb hX hbl hbA h.2.2 v256 dL_law_996 ?_
          obtain ⟨k258, hw⟩ := hw
          refine rc_V (As := [.int (xs (w5 + (nI 1)).toNatClampNeg)]) (rest := []) X h k258 (by decide) rfl (meX7_leastByTrying l G _ _ _ _ hw) gV_L_156 rfl rfl hdV_X7_leastByTrying rfl ⟨Nat.le_of_ble_eq_true rfl, Nat.le_of_ble_eq_true rfl⟩ hl.1 rfl (Nat.le_of_ble_eq_true rfl) ⟨law_c (by omega), law_s (by omega)⟩ dL_law_997 (fun x259 S257 H locs hw h => ?_)
          refine lv_istore (lv' := [(7, .int x259), (6, .int x255), (0, .ref b), (1, .ref o1), (2, .ref o5), (3, .ref o9), (4, .ref o11), (5, .int w5)]) hx hb dL_law_1000 hl (by decide) rfl (fun ls hl => ?_)
          refine lv_aload_n hx hb dL_law_1002 rfl (lv_at hl 4 rfl) ?_
          obtain ⟨k261, hw⟩ := hw
          refine rc_V (As := []) (rest := []) X h k261 (by decide) rfl (meX7_thrown l G _ _ _ hw) gV_L_111 rfl rfl hdV_X7_thrown rfl ⟨Nat.le_of_ble_eq_true rfl, Nat.le_of_ble_eq_true rfl⟩ hl.1 rfl (Nat.le_of_ble_eq_true rfl) ⟨law_c (by omega), law_s (by omega)⟩ dL_law_1003 (fun x262 S260 H locs hw h => ?_)
          refine lv_iload hx hb dL_law_1006 (lv_at hl 1 rfl) ?_
          refine lv_icmp_eq (tgt := 1013) hx hb dL_law_1008 (by decide) (fun c263 => ?_) (fun c263 => ?_)
          · have hw := hw.1 c263
            refine lv_iload hx hb dL_law_1013 (lv_at hl 1 rfl) ?_
            refine lv_if_ne (tgt := 1030) hx hb dL_law_1015 (by decide) (fun c264 => ?_) (fun c264 => ?_)
            · have hw := hw.1 c264
              refine lv_goto (tgt := 1712) hx hb dL_law_1030 (by decide) ?_
              obtain ⟨x265, ex265⟩ : ∃ y : Int32, y = (w5 + (nI 4)) := ⟨_, rfl⟩
              have hw := hw x265 ex265
              refine lv_iinc (v := x265) (lv' := [(5, .int x265), (7, .int x259), (6, .int x255), (0, .ref b), (1, .ref o1), (2, .ref o5), (3, .ref o9), (4, .ref o11)]) hx hb dL_law_1712 hl (k := 7) rfl (by rw [ex265]; rfl) (by decide) rfl (fun ls hl => ?_)
              refine lv_goto (tgt := 28) hx hb dL_law_1715 (by decide) ?_
              refine W.widen (k := kc + 7) (n := ks + 56) (by omega) (by omega) ?_
              exact ih _ _ hw _ _ _ _ _ (by omega) (by omega) h (lv_sub hl [3, 4, 5, 6, 7, 0] rfl)
            · have hw := hw.2 c264
              refine lv_aload_n hx hb dL_law_1018 rfl (lv_at hl 5 rfl) ?_
              refine lv_iconst (v := (nI 0)) hx hb dL_law_1019 (by decide) ?_
              obtain ⟨k266, hw⟩ := hw
              obtain ⟨v267, hw⟩ := hw
              refine r_lald X h k266 v267 dL_law_1020 ?_
              refine lv_iload hx hb dL_law_1021 (lv_at hl 0 rfl) ?_
              refine lv_i2l (v := x259.toInt64) hx hb dL_law_1023 rfl ?_
              refine W.lcmp hx hb dL_law_1024 ?_
              refine lv_if_eq (tgt := 1030) hx hb dL_law_1025 (by decide) (fun c268 => ?_) (fun c268 => ?_)
              · have hw := hw.1 c268
                refine lv_goto (tgt := 1712) hx hb dL_law_1030 (by decide) ?_
                obtain ⟨x269, ex269⟩ : ∃ y : Int32, y = (w5 + (nI 4)) := ⟨_, rfl⟩
                have hw := hw x269 ex269
                refine lv_iinc (v := x269) (lv' := [(5, .int x269), (7, .int x259), (6, .int x255), (0, .ref b), (1, .ref o1), (2, .ref o5), (3, .ref o9), (4, .ref o11)]) hx hb dL_law_1712 hl (k := 7) rfl (by rw [ex269]; rfl) (by decide) rfl (fun ls hl => ?_)
                refine lv_goto (tgt := 28) hx hb dL_law_1715 (by decide) ?_
                refine W.widen (k := kc + 7) (n := ks + 56) (by omega) (by omega) ?_
                exact ih _ _ hw _ _ _ _ _ (by omega) (by omega) h (lv_sub hl [3, 4, 5, 6, 7, 0] rfl)
              · have hw := hw.2 c268
                refine lv_iconst (v := (nI 0)) hx hb dL_law_1028 (by decide) ?_
                exact law_end X h hr hlk (hpost _ _ hw) (by omega) (by omega) dL_law_1029
          · have hw := hw.2 c263
            refine lv_iconst (v := (nI 0)) hx hb dL_law_1011 (by decide) ?_
            exact law_end X h hr hlk (hpost _ _ hw) (by omega) (by omega) dL_law_1012
        have hw := hw.2
        rcases jc15 with _ | jc15
        · have hw := hw.1 c15
          refine lv_tableIn (tgt := 1033) (off := 989) hx hb dL_law_44 (by rw [c15]; decide) (by rw [c15]; decide) (by rw [c15]; rfl) (by decide) ?_
          refine lv_aload_n hx hb dL_law_1033 rfl (lv_at hl 1 rfl) ?_
          refine lv_aload_n hx hb dL_law_1034 rfl (lv_at hl 0 rfl) ?_
          refine lv_iload hx hb dL_law_1035 (lv_at hl 5 rfl) ?_
          refine lv_iconst (v := (nI 1)) hx hb dL_law_1037 (by decide) ?_
          refine lv_iadd hx hb dL_law_1038 ?_
          obtain ⟨v270, hw⟩ := hw
          refine va_sld hx hb hX hbl hbA h.2.2 v270 dL_law_1039 ?_
          refine lv_aload_n hx hb dL_law_1040 rfl (lv_at hl 0 rfl) ?_
          refine lv_iload hx hb dL_law_1041 (lv_at hl 5 rfl) ?_
          refine lv_iconst (v := (nI 2)) hx hb dL_law_1043 (by decide) ?_
          refine lv_iadd hx hb dL_law_1044 ?_
          obtain ⟨v271, hw⟩ := hw
          refine va_sld hx hb hX hbl hbA h.2.2 v271 dL_law_1045 ?_
          refine lv_aload_n hx hb dL_law_1046 rfl (lv_at hl 3 rfl) ?_
          refine rc_H (As := [.ref o1, .int (xs (w5 + (nI 1)).toNatClampNeg), .int (xs (w5 + (nI 2)).toNatClampNeg), .ref o9]) (rest := []) X h (meL_stock l hl9 G _ _ _ _ _ _ hw) gS_L_157 rfl rfl hdS_L_stock rfl ⟨Nat.le_of_ble_eq_true rfl, Nat.le_of_ble_eq_true rfl⟩ hl.1 rfl (Nat.le_of_ble_eq_true rfl) ⟨law_c (by omega), law_s (by omega)⟩ dL_law_1047 (fun x273 S272 H locs hw h => ?_)
          refine lv_istore (lv' := [(6, .int x273), (0, .ref b), (1, .ref o1), (2, .ref o5), (3, .ref o9), (4, .ref o11), (5, .int w5)]) hx hb dL_law_1050 hl (by decide) rfl (fun ls hl => ?_)
          refine lv_aload_n hx hb dL_law_1052 rfl (lv_at hl 3 rfl) ?_
          refine lv_aload_n hx hb dL_law_1053 rfl (lv_at hl 1 rfl) ?_
          refine lv_iload hx hb dL_law_1054 (lv_at hl 6 rfl) ?_
          refine lv_iconst (v := (nI 1)) hx hb dL_law_1056 (by decide) ?_
          refine lv_iadd hx hb dL_law_1057 ?_
          obtain ⟨v274, hw⟩ := hw
          refine va_sld hx hb hX hbl hbA h.2.2 v274 dL_law_1058 ?_
          refine lv_aload_n hx hb dL_law_1059 rfl (lv_at hl 1 rfl) ?_
          refine lv_iload hx hb dL_law_1060 (lv_at hl 6 rfl) ?_
          refine lv_iconst (v := (nI 2)) hx hb dL_law_1062 (by decide) ?_
          refine lv_iadd hx hb dL_law_1063 ?_
          obtain ⟨v275, hw⟩ := hw
          refine va_sld hx hb hX hbl hbA h.2.2 v275 dL_law_1064 ?_
          obtain ⟨k277, hw⟩ := hw
          refine rc_V (As := [.int (xs (w5 + (nI 1)).toNatClampNeg), .int (xs (w5 + (nI 2)).toNatClampNeg)]) (rest := []) X h k277 (by decide) rfl (meX7_stock l G _ _ _ _ _ hw) gV_L_159 rfl rfl hdV_X7_stock rfl ⟨Nat.le_of_ble_eq_true rfl, Nat.le_of_ble_eq_true rfl⟩ hl.1 rfl (Nat.le_of_ble_eq_true rfl) ⟨law_c (by omega), law_s (by omega)⟩ dL_law_1065 (fun x278 S276 H locs hw h => ?_)
          refine lv_istore (lv' := [(7, .int x278), (6, .int x273), (0, .ref b), (1, .ref o1), (2, .ref o5), (3, .ref o9), (4, .ref o11), (5, .int w5)]) hx hb dL_law_1068 hl (by decide) rfl (fun ls hl => ?_)
          refine lv_aload_n hx hb dL_law_1070 rfl (lv_at hl 4 rfl) ?_
          obtain ⟨k280, hw⟩ := hw
          refine rc_V (As := []) (rest := []) X h k280 (by decide) rfl (meX7_thrown l G _ _ _ hw) gV_L_111 rfl rfl hdV_X7_thrown rfl ⟨Nat.le_of_ble_eq_true rfl, Nat.le_of_ble_eq_true rfl⟩ hl.1 rfl (Nat.le_of_ble_eq_true rfl) ⟨law_c (by omega), law_s (by omega)⟩ dL_law_1071 (fun x281 S279 H locs hw h => ?_)
          refine lv_iload hx hb dL_law_1074 (lv_at hl 1 rfl) ?_
          refine lv_icmp_eq (tgt := 1081) hx hb dL_law_1076 (by decide) (fun c282 => ?_) (fun c282 => ?_)
          · have hw := hw.1 c282
            refine lv_iload hx hb dL_law_1081 (lv_at hl 1 rfl) ?_
            refine lv_if_ne (tgt := 1098) hx hb dL_law_1083 (by decide) (fun c283 => ?_) (fun c283 => ?_)
            · have hw := hw.1 c283
              refine lv_goto (tgt := 1712) hx hb dL_law_1098 (by decide) ?_
              obtain ⟨x284, ex284⟩ : ∃ y : Int32, y = (w5 + (nI 4)) := ⟨_, rfl⟩
              have hw := hw x284 ex284
              refine lv_iinc (v := x284) (lv' := [(5, .int x284), (7, .int x278), (6, .int x273), (0, .ref b), (1, .ref o1), (2, .ref o5), (3, .ref o9), (4, .ref o11)]) hx hb dL_law_1712 hl (k := 7) rfl (by rw [ex284]; rfl) (by decide) rfl (fun ls hl => ?_)
              refine lv_goto (tgt := 28) hx hb dL_law_1715 (by decide) ?_
              refine W.widen (k := kc + 7) (n := ks + 56) (by omega) (by omega) ?_
              exact ih _ _ hw _ _ _ _ _ (by omega) (by omega) h (lv_sub hl [3, 4, 5, 6, 7, 0] rfl)
            · have hw := hw.2 c283
              refine lv_aload_n hx hb dL_law_1086 rfl (lv_at hl 5 rfl) ?_
              refine lv_iconst (v := (nI 0)) hx hb dL_law_1087 (by decide) ?_
              obtain ⟨k285, hw⟩ := hw
              obtain ⟨v286, hw⟩ := hw
              refine r_lald X h k285 v286 dL_law_1088 ?_
              refine lv_iload hx hb dL_law_1089 (lv_at hl 0 rfl) ?_
              refine lv_i2l (v := x278.toInt64) hx hb dL_law_1091 rfl ?_
              refine W.lcmp hx hb dL_law_1092 ?_
              refine lv_if_eq (tgt := 1098) hx hb dL_law_1093 (by decide) (fun c287 => ?_) (fun c287 => ?_)
              · have hw := hw.1 c287
                refine lv_goto (tgt := 1712) hx hb dL_law_1098 (by decide) ?_
                obtain ⟨x288, ex288⟩ : ∃ y : Int32, y = (w5 + (nI 4)) := ⟨_, rfl⟩
                have hw := hw x288 ex288
                refine lv_iinc (v := x288) (lv' := [(5, .int x288), (7, .int x278), (6, .int x273), (0, .ref b), (1, .ref o1), (2, .ref o5), (3, .ref o9), (4, .ref o11)]) hx hb dL_law_1712 hl (k := 7) rfl (by rw [ex288]; rfl) (by decide) rfl (fun ls hl => ?_)
                refine lv_goto (tgt := 28) hx hb dL_law_1715 (by decide) ?_
                refine W.widen (k := kc + 7) (n := ks + 56) (by omega) (by omega) ?_
                exact ih _ _ hw _ _ _ _ _ (by omega) (by omega) h (lv_sub hl [3, 4, 5, 6, 7, 0] rfl)
              · have hw := hw.2 c287
                refine lv_iconst (v := (nI 0)) hx hb dL_law_1096 (by decide) ?_
                exact law_end X h hr hlk (hpost _ _ hw) (by omega) (by omega) dL_law_1097
          · have hw := hw.2 c282
            refine lv_iconst (v := (nI 0)) hx hb dL_law_1079 (by decide) ?_
            exact law_end X h hr hlk (hpost _ _ hw) (by omega) (by omega) dL_law_1080
        have hw := hw.2
        rcases jc15 with _ | jc15
        · have hw := hw.1 c15
          refine lv_tableIn (tgt := 1101) (off := 1057) hx hb dL_law_44 (by rw [c15]; decide) (by rw [c15]; decide) (by rw [c15]; rfl) (by decide) ?_
          refine lv_aload_n hx hb dL_law_1101 rfl (lv_at hl 1 rfl) ?_
          obtain ⟨k290, hw⟩ := hw
          refine rc_V (As := []) (rest := []) X h k290 (by decide) rfl (meX6_plates l G _ _ _ hw) gV_L_160 rfl rfl hdV_X6_plates rfl ⟨Nat.le_of_ble_eq_true rfl, Nat.le_of_ble_eq_true rfl⟩ hl.1 rfl (Nat.le_of_ble_eq_true rfl) ⟨law_c (by omega), law_s (by omega)⟩ dL_law_1102 (fun x291 S289 H locs hw h => ?_)
          refine lv_aload_n hx hb dL_law_1105 rfl (lv_at hl 2 rfl) ?_
          obtain ⟨k293, hw⟩ := hw
          refine rc_V (As := []) (rest := [.int x291]) X h k293 (by decide) rfl (meX7_plates l G _ _ _ hw) gV_L_163 rfl rfl hdV_X7_plates rfl ⟨Nat.le_of_ble_eq_true rfl, Nat.le_of_ble_eq_true rfl⟩ hl.1 rfl (Nat.le_of_ble_eq_true rfl) ⟨law_c (by omega), law_s (by omega)⟩ dL_law_1106 (fun x294 S292 H locs hw h => ?_)
          refine lv_icmp_eq (tgt := 1712) hx hb dL_law_1109 (by decide) (fun c295 => ?_) (fun c295 => ?_)
          · have hw := hw.1 c295
            obtain ⟨x296, ex296⟩ : ∃ y : Int32, y = (w5 + (nI 4)) := ⟨_, rfl⟩
            have hw := hw x296 ex296
            refine lv_iinc (v := x296) (lv' := [(5, .int x296), (0, .ref b), (1, .ref o1), (2, .ref o5), (3, .ref o9), (4, .ref o11)]) hx hb dL_law_1712 hl (k := 5) rfl (by rw [ex296]; rfl) (by decide) rfl (fun ls hl => ?_)
            refine lv_goto (tgt := 28) hx hb dL_law_1715 (by decide) ?_
            refine W.widen (k := kc + 7) (n := ks + 56) (by omega) (by omega) ?_
            exact ih _ _ hw _ _ _ _ _ (by omega) (by omega) h (lv_sub hl [1, 2, 3, 4, 5, 0] rfl)
          · have hw := hw.2 c295
            refine lv_iconst (v := (nI 0)) hx hb dL_law_1112 (by decide) ?_
            exact law_end X h hr hlk (hpost _ _ hw) (by omega) (by omega) dL_law_1113
        have hw := hw.2
        rcases jc15 with _ | jc15
        · have hw := hw.1 c15
          refine lv_tableIn (tgt := 1114) (off := 1070) hx hb dL_law_44 (by rw [c15]; decide) (by rw [c15]; decide) (by rw [c15]; rfl) (by decide) ?_
          refine lv_aload_n hx hb dL_law_1114 rfl (lv_at hl 1 rfl) ?_
          refine lv_aload_n hx hb dL_law_1115 rfl (lv_at hl 0 rfl) ?_
          refine lv_iload hx hb dL_law_1116 (lv_at hl 5 rfl) ?_
          refine lv_iconst (v := (nI 1)) hx hb dL_law_1118 (by decide) ?_
          refine lv_iadd hx hb dL_law_1119 ?_
          obtain ⟨v297, hw⟩ := hw
          refine va_sld hx hb hX hbl hbA h.2.2 v297 dL_law_1120 ?_
          refine lv_aload_n hx hb dL_law_1121 rfl (lv_at hl 3 rfl) ?_
          refine rc_H (As := [.ref o1, .int (xs (w5 + (nI 1)).toNatClampNeg), .ref o9]) (rest := []) X h (meL_platesNeeded l hl9 G _ _ _ _ _ hw) gS_L_164 rfl rfl hdS_L_platesNeeded rfl ⟨Nat.le_of_ble_eq_true rfl, Nat.le_of_ble_eq_true rfl⟩ hl.1 rfl (Nat.le_of_ble_eq_true rfl) ⟨law_c (by omega), law_s (by omega)⟩ dL_law_1122 (fun x299 S298 H locs hw h => ?_)
          refine lv_istore (lv' := [(6, .int x299), (0, .ref b), (1, .ref o1), (2, .ref o5), (3, .ref o9), (4, .ref o11), (5, .int w5)]) hx hb dL_law_1125 hl (by decide) rfl (fun ls hl => ?_)
          refine lv_aload_n hx hb dL_law_1127 rfl (lv_at hl 3 rfl) ?_
          refine lv_aload_n hx hb dL_law_1128 rfl (lv_at hl 1 rfl) ?_
          refine lv_iload hx hb dL_law_1129 (lv_at hl 6 rfl) ?_
          refine lv_iconst (v := (nI 1)) hx hb dL_law_1131 (by decide) ?_
          refine lv_iadd hx hb dL_law_1132 ?_
          obtain ⟨v300, hw⟩ := hw
          refine va_sld hx hb hX hbl hbA h.2.2 v300 dL_law_1133 ?_
          obtain ⟨k302, hw⟩ := hw
          refine rc_V (As := [.int (xs (w5 + (nI 1)).toNatClampNeg)]) (rest := []) X h k302 (by decide) rfl (meX7_platesNeeded l G _ _ _ _ hw) gV_L_166 rfl rfl hdV_X7_platesNeeded rfl ⟨Nat.le_of_ble_eq_true rfl, Nat.le_of_ble_eq_true rfl⟩ hl.1 rfl (Nat.le_of_ble_eq_true rfl) ⟨law_c (by omega), law_s (by omega)⟩ dL_law_1134 (fun x303 S301 H locs hw h => ?_)
          refine lv_istore (lv' := [(7, .int x303), (6, .int x299), (0, .ref b), (1, .ref o1), (2, .ref o5), (3, .ref o9), (4, .ref o11), (5, .int w5)]) hx hb dL_law_1137 hl (by decide) rfl (fun ls hl => ?_)
          refine lv_aload_n hx hb dL_law_1139 rfl (lv_at hl 4 rfl) ?_
          obtain ⟨k305, hw⟩ := hw
          refine rc_V (As := []) (rest := []) X h k305 (by decide) rfl (meX7_thrown l G _ _ _ hw) gV_L_111 rfl rfl hdV_X7_thrown rfl ⟨Nat.le_of_ble_eq_true rfl, Nat.le_of_ble_eq_true rfl⟩ hl.1 rfl (Nat.le_of_ble_eq_true rfl) ⟨law_c (by omega), law_s (by omega)⟩ dL_law_1140 (fun x306 S304 H locs hw h => ?_)
          refine lv_iload hx hb dL_law_1143 (lv_at hl 1 rfl) ?_
          refine lv_icmp_eq (tgt := 1150) hx hb dL_law_1145 (by decide) (fun c307 => ?_) (fun c307 => ?_)
          · have hw := hw.1 c307
            refine lv_iload hx hb dL_law_1150 (lv_at hl 1 rfl) ?_
            refine lv_if_ne (tgt := 1167) hx hb dL_law_1152 (by decide) (fun c308 => ?_) (fun c308 => ?_)
            · have hw := hw.1 c308
              refine lv_goto (tgt := 1712) hx hb dL_law_1167 (by decide) ?_
              obtain ⟨x309, ex309⟩ : ∃ y : Int32, y = (w5 + (nI 4)) := ⟨_, rfl⟩
              have hw := hw x309 ex309
              refine lv_iinc (v := x309) (lv' := [(5, .int x309), (7, .int x303), (6, .int x299), (0, .ref b), (1, .ref o1), (2, .ref o5), (3, .ref o9), (4, .ref o11)]) hx hb dL_law_1712 hl (k := 7) rfl (by rw [ex309]; rfl) (by decide) rfl (fun ls hl => ?_)
              refine lv_goto (tgt := 28) hx hb dL_law_1715 (by decide) ?_
              refine W.widen (k := kc + 7) (n := ks + 56) (by omega) (by omega) ?_
              exact ih _ _ hw _ _ _ _ _ (by omega) (by omega) h (lv_sub hl [3, 4, 5, 6, 7, 0] rfl)
            · have hw := hw.2 c308
              refine lv_aload_n hx hb dL_law_1155 rfl (lv_at hl 5 rfl) ?_
              refine lv_iconst (v := (nI 0)) hx hb dL_law_1156 (by decide) ?_
              obtain ⟨k310, hw⟩ := hw
              obtain ⟨v311, hw⟩ := hw
              refine r_lald X h k310 v311 dL_law_1157 ?_
              refine lv_iload hx hb dL_law_1158 (lv_at hl 0 rfl) ?_
              refine lv_i2l (v := x303.toInt64) hx hb dL_law_1160 rfl ?_
              refine W.lcmp hx hb dL_law_1161 ?_
              refine lv_if_eq (tgt := 1167) hx hb dL_law_1162 (by decide) (fun c312 => ?_) (fun c312 => ?_)
              · have hw := hw.1 c312
                refine lv_goto (tgt := 1712) hx hb dL_law_1167 (by decide) ?_
                obtain ⟨x313, ex313⟩ : ∃ y : Int32, y = (w5 + (nI 4)) := ⟨_, rfl⟩
                have hw := hw x313 ex313
                refine lv_iinc (v := x313) (lv' := [(5, .int x313), (7, .int x303), (6, .int x299), (0, .ref b), (1, .ref o1), (2, .ref o5), (3, .ref o9), (4, .ref o11)]) hx hb dL_law_1712 hl (k := 7) rfl (by rw [ex313]; rfl) (by decide) rfl (fun ls hl => ?_)
                refine lv_goto (tgt := 28) hx hb dL_law_1715 (by decide) ?_
                refine W.widen (k := kc + 7) (n := ks + 56) (by omega) (by omega) ?_
                exact ih _ _ hw _ _ _ _ _ (by omega) (by omega) h (lv_sub hl [3, 4, 5, 6, 7, 0] rfl)
              · have hw := hw.2 c312
                refine lv_iconst (v := (nI 0)) hx hb dL_law_1165 (by decide) ?_
                exact law_end X h hr hlk (hpost _ _ hw) (by omega) (by omega) dL_law_1166
          · have hw := hw.2 c307
            refine lv_iconst (v := (nI 0)) hx hb dL_law_1148 (by decide) ?_
            exact law_end X h hr hlk (hpost _ _ hw) (by omega) (by omega) dL_law_1149
        have hw := hw.2
        rcases jc15 with _ | jc15
        · have hw := hw.1 c15
          refine lv_tableIn (tgt := 1170) (off := 1126) hx hb dL_law_44 (by rw [c15]; decide) (by rw [c15]; decide) (by rw [c15]; rfl) (by decide) ?_
          refine lv_aload_n hx hb dL_law_1170 rfl (lv_at hl 1 rfl) ?_
          refine lv_aload_n hx hb dL_law_1171 rfl (lv_at hl 0 rfl) ?_
          refine lv_iload hx hb dL_law_1172 (lv_at hl 5 rfl) ?_
          refine lv_iconst (v := (nI 1)) hx hb dL_law_1174 (by decide) ?_
          refine lv_iadd hx hb dL_law_1175 ?_
          obtain ⟨v314, hw⟩ := hw
          refine va_sld hx hb hX hbl hbA h.2.2 v314 dL_law_1176 ?_
          refine lv_aload_n hx hb dL_law_1177 rfl (lv_at hl 0 rfl) ?_
          refine lv_iload hx hb dL_law_1178 (lv_at hl 5 rfl) ?_
          refine lv_iconst (v := (nI 2)) hx hb dL_law_1180 (by decide) ?_
          refine lv_iadd hx hb dL_law_1181 ?_
          obtain ⟨v315, hw⟩ := hw
          refine va_sld hx hb hX hbl hbA h.2.2 v315 dL_law_1182 ?_
          refine lv_aload_n hx hb dL_law_1183 rfl (lv_at hl 3 rfl) ?_
          refine rc_H (As := [.ref o1, .int (xs (w5 + (nI 1)).toNatClampNeg), .int (xs (w5 + (nI 2)).toNatClampNeg), .ref o9]) (rest := []) X h (meL_bind l hl9 G _ _ _ _ _ _ hw) gS_L_167 rfl rfl hdS_L_bind rfl ⟨Nat.le_of_ble_eq_true rfl, Nat.le_of_ble_eq_true rfl⟩ hl.1 rfl (Nat.le_of_ble_eq_true rfl) ⟨law_c (by omega), law_s (by omega)⟩ dL_law_1184 (fun x317 S316 H locs hw h => ?_)
          refine lv_istore (lv' := [(6, .int x317), (0, .ref b), (1, .ref o1), (2, .ref o5), (3, .ref o9), (4, .ref o11), (5, .int w5)]) hx hb dL_law_1187 hl (by decide) rfl (fun ls hl => ?_)
          refine lv_aload_n hx hb dL_law_1189 rfl (lv_at hl 3 rfl) ?_
          refine lv_aload_n hx hb dL_law_1190 rfl (lv_at hl 1 rfl) ?_
          refine lv_iload hx hb dL_law_1191 (lv_at hl 6 rfl) ?_
          refine lv_iconst (v := (nI 1)) hx hb dL_law_1193 (by decide) ?_
          refine lv_iadd hx hb dL_law_1194 ?_
          obtain ⟨v318, hw⟩ := hw
          refine va_sld hx hb hX hbl hbA h.2.2 v318 dL_law_1195 ?_
          refine lv_aload_n hx hb dL_law_1196 rfl (lv_at hl 1 rfl) ?_
          refine lv_iload hx hb dL_law_1197 (lv_at hl 6 rfl) ?_
          refine lv_iconst (v := (nI 2)) hx hb dL_law_1199 (by decide) ?_
          refine lv_iadd hx hb dL_law_1200 ?_
          obtain ⟨v319, hw⟩ := hw
          refine va_sld hx hb hX hbl hbA h.2.2 v319 dL_law_1201 ?_
          obtain ⟨k321, hw⟩ := hw
          refine rc_V (As := [.int (xs (w5 + (nI 1)).toNatClampNeg), .int (xs (w5 + (nI 2)).toNatClampNeg)]) (rest := []) X h k321 (by decide) rfl (meX7_bind l G _ _ _ _ _ hw) gV_L_169 rfl rfl hdV_X7_bind rfl ⟨Nat.le_of_ble_eq_true rfl, Nat.le_of_ble_eq_true rfl⟩ hl.1 rfl (Nat.le_of_ble_eq_true rfl) ⟨law_c (by omega), law_s (by omega)⟩ dL_law_1202 (fun x322 S320 H locs hw h => ?_)
          refine lv_istore (lv' := [(7, .int x322), (6, .int x317), (0, .ref b), (1, .ref o1), (2, .ref o5), (3, .ref o9), (4, .ref o11), (5, .int w5)]) hx hb dL_law_1205 hl (by decide) rfl (fun ls hl => ?_)
          refine lv_aload_n hx hb dL_law_1207 rfl (lv_at hl 4 rfl) ?_
          obtain ⟨k324, hw⟩ := hw
          refine rc_V (As := []) (rest := []) X h k324 (by decide) rfl (meX7_thrown l G _ _ _ hw) gV_L_111 rfl rfl hdV_X7_thrown rfl ⟨Nat.le_of_ble_eq_true rfl, Nat.le_of_ble_eq_true rfl⟩ hl.1 rfl (Nat.le_of_ble_eq_true rfl) ⟨law_c (by omega), law_s (by omega)⟩ dL_law_1208 (fun x325 S323 H locs hw h => ?_)
          refine lv_iload hx hb dL_law_1211 (lv_at hl 1 rfl) ?_
          refine lv_icmp_eq (tgt := 1218) hx hb dL_law_1213 (by decide) (fun c326 => ?_) (fun c326 => ?_)
          · have hw := hw.1 c326
            refine lv_iload hx hb dL_law_1218 (lv_at hl 1 rfl) ?_
            refine lv_if_ne (tgt := 1235) hx hb dL_law_1220 (by decide) (fun c327 => ?_) (fun c327 => ?_)
            · have hw := hw.1 c327
              refine lv_goto (tgt := 1712) hx hb dL_law_1235 (by decide) ?_
              obtain ⟨x328, ex328⟩ : ∃ y : Int32, y = (w5 + (nI 4)) := ⟨_, rfl⟩
              have hw := hw x328 ex328
              refine lv_iinc (v := x328) (lv' := [(5, .int x328), (7, .int x322), (6, .int x317), (0, .ref b), (1, .ref o1), (2, .ref o5), (3, .ref o9), (4, .ref o11)]) hx hb dL_law_1712 hl (k := 7) rfl (by rw [ex328]; rfl) (by decide) rfl (fun ls hl => ?_)
              refine lv_goto (tgt := 28) hx hb dL_law_1715 (by decide) ?_
              refine W.widen (k := kc + 7) (n := ks + 56) (by omega) (by omega) ?_
              exact ih _ _ hw _ _ _ _ _ (by omega) (by omega) h (lv_sub hl [3, 4, 5, 6, 7, 0] rfl)
            · have hw := hw.2 c327
              refine lv_aload_n hx hb dL_law_1223 rfl (lv_at hl 5 rfl) ?_
              refine lv_iconst (v := (nI 0)) hx hb dL_law_1224 (by decide) ?_
              obtain ⟨k329, hw⟩ := hw
              obtain ⟨v330, hw⟩ := hw
              refine r_lald X h k329 v330 dL_law_1225 ?_
              refine lv_iload hx hb dL_law_1226 (lv_at hl 0 rfl) ?_
              refine lv_i2l (v := x322.toInt64) hx hb dL_law_1228 rfl ?_
              refine W.lcmp hx hb dL_law_1229 ?_
              refine lv_if_eq (tgt := 1235) hx hb dL_law_1230 (by decide) (fun c331 => ?_) (fun c331 => ?_)
              · have hw := hw.1 c331
                refine lv_goto (tgt := 1712) hx hb dL_law_1235 (by decide) ?_
                obtain ⟨x332, ex332⟩ : ∃ y : Int32, y = (w5 + (nI 4)) := ⟨_, rfl⟩
                have hw := hw x332 ex332
                refine lv_iinc (v := x332) (lv' := [(5, .int x332), (7, .int x322), (6, .int x317), (0, .ref b), (1, .ref o1), (2, .ref o5), (3, .ref o9), (4, .ref o11)]) hx hb dL_law_1712 hl (k := 7) rfl (by rw [ex332]; rfl) (by decide) rfl (fun ls hl => ?_)
                refine lv_goto (tgt := 28) hx hb dL_law_1715 (by decide) ?_
                refine W.widen (k := kc + 7) (n := ks + 56) (by omega) (by omega) ?_
                exact ih _ _ hw _ _ _ _ _ (by omega) (by omega) h (lv_sub hl [3, 4, 5, 6, 7, 0] rfl)
              · have hw := hw.2 c331
                refine lv_iconst (v := (nI 0)) hx hb dL_law_1233 (by decide) ?_
                exact law_end X h hr hlk (hpost _ _ hw) (by omega) (by omega) dL_law_1234
          · have hw := hw.2 c326
            refine lv_iconst (v := (nI 0)) hx hb dL_law_1216 (by decide) ?_
            exact law_end X h hr hlk (hpost _ _ hw) (by omega) (by omega) dL_law_1217
        have hw := hw.2
        rcases jc15 with _ | jc15
        · have hw := hw.1 c15
          refine lv_tableIn (tgt := 1238) (off := 1194) hx hb dL_law_44 (by rw [c15]; decide) (by rw [c15]; decide) (by rw [c15]; rfl) (by decide) ?_
          refine lv_aload_n hx hb dL_law_1238 rfl (lv_at hl 1 rfl) ?_
          refine lv_aload_n hx hb dL_law_1239 rfl (lv_at hl 0 rfl) ?_
          refine lv_iload hx hb dL_law_1240 (lv_at hl 5 rfl) ?_
          refine lv_iconst (v := (nI 1)) hx hb dL_law_1242 (by decide) ?_
          refine lv_iadd hx hb dL_law_1243 ?_
          obtain ⟨v333, hw⟩ := hw
          refine va_sld hx hb hX hbl hbA h.2.2 v333 dL_law_1244 ?_
          refine lv_aload_n hx hb dL_law_1245 rfl (lv_at hl 0 rfl) ?_
          refine lv_iload hx hb dL_law_1246 (lv_at hl 5 rfl) ?_
          refine lv_iconst (v := (nI 2)) hx hb dL_law_1248 (by decide) ?_
          refine lv_iadd hx hb dL_law_1249 ?_
          obtain ⟨v334, hw⟩ := hw
          refine va_sld hx hb hX hbl hbA h.2.2 v334 dL_law_1250 ?_
          refine lv_aload_n hx hb dL_law_1251 rfl (lv_at hl 3 rfl) ?_
          refine rc_H (As := [.ref o1, .int (xs (w5 + (nI 1)).toNatClampNeg), .int (xs (w5 + (nI 2)).toNatClampNeg), .ref o9]) (rest := []) X h (meL_lacks l hl9 G _ _ _ _ _ _ hw) gS_L_170 rfl rfl hdS_L_lacks rfl ⟨Nat.le_of_ble_eq_true rfl, Nat.le_of_ble_eq_true rfl⟩ hl.1 rfl (Nat.le_of_ble_eq_true rfl) ⟨law_c (by omega), law_s (by omega)⟩ dL_law_1252 (fun x336 S335 H locs hw h => ?_)
          refine lv_istore (lv' := [(6, .int x336), (0, .ref b), (1, .ref o1), (2, .ref o5), (3, .ref o9), (4, .ref o11), (5, .int w5)]) hx hb dL_law_1255 hl (by decide) rfl (fun ls hl => ?_)
          refine lv_aload_n hx hb dL_law_1257 rfl (lv_at hl 3 rfl) ?_
          refine lv_aload_n hx hb dL_law_1258 rfl (lv_at hl 1 rfl) ?_
          refine lv_iload hx hb dL_law_1259 (lv_at hl 6 rfl) ?_
          refine lv_iconst (v := (nI 1)) hx hb dL_law_1261 (by decide) ?_
          refine lv_iadd hx hb dL_law_1262 ?_
          obtain ⟨v337, hw⟩ := hw
          refine va_sld hx hb hX hbl hbA h.2.2 v337 dL_law_1263 ?_
          refine lv_aload_n hx hb dL_law_1264 rfl (lv_at hl 1 rfl) ?_
          refine lv_iload hx hb dL_law_1265 (lv_at hl 6 rfl) ?_
          refine lv_iconst (v := (nI 2)) hx hb dL_law_1267 (by decide) ?_
          refine lv_iadd hx hb dL_law_1268 ?_
          obtain ⟨v338, hw⟩ := hw
          refine va_sld hx hb hX hbl hbA h.2.2 v338 dL_law_1269 ?_
          obtain ⟨k340, hw⟩ := hw
          refine rc_V (As := [.int (xs (w5 + (nI 1)).toNatClampNeg), .int (xs (w5 + (nI 2)).toNatClampNeg)]) (rest := []) X h k340 (by decide) rfl (meX7_lacks l G _ _ _ _ _ hw) gV_L_172 rfl rfl hdV_X7_lacks rfl ⟨Nat.le_of_ble_eq_true rfl, Nat.le_of_ble_eq_true rfl⟩ hl.1 rfl (Nat.le_of_ble_eq_true rfl) ⟨law_c (by omega), law_s (by omega)⟩ dL_law_1270 (fun x341 S339 H locs hw h => ?_)
          refine lv_istore (lv' := [(7, .int x341), (6, .int x336), (0, .ref b), (1, .ref o1), (2, .ref o5), (3, .ref o9), (4, .ref o11), (5, .int w5)]) hx hb dL_law_1273 hl (by decide) rfl (fun ls hl => ?_)
          refine lv_aload_n hx hb dL_law_1275 rfl (lv_at hl 4 rfl) ?_
          obtain ⟨k343, hw⟩ := hw
          refine rc_V (As := []) (rest := []) X h k343 (by decide) rfl (meX7_thrown l G _ _ _ hw) gV_L_111 rfl rfl hdV_X7_thrown rfl ⟨Nat.le_of_ble_eq_true rfl, Nat.le_of_ble_eq_true rfl⟩ hl.1 rfl (Nat.le_of_ble_eq_true rfl) ⟨law_c (by omega), law_s (by omega)⟩ dL_law_1276 (fun x344 S342 H locs hw h => ?_)
          refine lv_iload hx hb dL_law_1279 (lv_at hl 1 rfl) ?_
          refine lv_icmp_eq (tgt := 1286) hx hb dL_law_1281 (by decide) (fun c345 => ?_) (fun c345 => ?_)
          · have hw := hw.1 c345
            refine lv_iload hx hb dL_law_1286 (lv_at hl 1 rfl) ?_
            refine lv_if_ne (tgt := 1303) hx hb dL_law_1288 (by decide) (fun c346 => ?_) (fun c346 => ?_)
            · have hw := hw.1 c346
              refine lv_goto (tgt := 1712) hx hb dL_law_1303 (by decide) ?_
              obtain ⟨x347, ex347⟩ : ∃ y : Int32, y = (w5 + (nI 4)) := ⟨_, rfl⟩
              have hw := hw x347 ex347
              refine lv_iinc (v := x347) (lv' := [(5, .int x347), (7, .int x341), (6, .int x336), (0, .ref b), (1, .ref o1), (2, .ref o5), (3, .ref o9), (4, .ref o11)]) hx hb dL_law_1712 hl (k := 7) rfl (by rw [ex347]; rfl) (by decide) rfl (fun ls hl => ?_)
              refine lv_goto (tgt := 28) hx hb dL_law_1715 (by decide) ?_
              refine W.widen (k := kc + 7) (n := ks + 56) (by omega) (by omega) ?_
              exact ih _ _ hw _ _ _ _ _ (by omega) (by omega) h (lv_sub hl [3, 4, 5, 6, 7, 0] rfl)
            · have hw := hw.2 c346
              refine lv_aload_n hx hb dL_law_1291 rfl (lv_at hl 5 rfl) ?_
              refine lv_iconst (v := (nI 0)) hx hb dL_law_1292 (by decide) ?_
              obtain ⟨k348, hw⟩ := hw
              obtain ⟨v349, hw⟩ := hw
              refine r_lald X h k348 v349 dL_law_1293 ?_
              refine lv_iload hx hb dL_law_1294 (lv_at hl 0 rfl) ?_
              refine lv_i2l (v := x341.toInt64) hx hb dL_law_1296 rfl ?_
              refine W.lcmp hx hb dL_law_1297 ?_
              refine lv_if_eq (tgt := 1303) hx hb dL_law_1298 (by decide) (fun c350 => ?_) (fun c350 => ?_)
              · have hw := hw.1 c350
                refine lv_goto (tgt := 1712) hx hb dL_law_1303 (by decide) ?_
                obtain ⟨x351, ex351⟩ : ∃ y : Int32, y = (w5 + (nI 4)) := ⟨_, rfl⟩
                have hw := hw x351 ex351
                refine lv_iinc (v := x351) (lv' := [(5, .int x351), (7, .int x341), (6, .int x336), (0, .ref b), (1, .ref o1), (2, .ref o5), (3, .ref o9), (4, .ref o11)]) hx hb dL_law_1712 hl (k := 7) rfl (by rw [ex351]; rfl) (by decide) rfl (fun ls hl => ?_)
                refine lv_goto (tgt := 28) hx hb dL_law_1715 (by decide) ?_
                refine W.widen (k := kc + 7) (n := ks + 56) (by omega) (by omega) ?_
                exact ih _ _ hw _ _ _ _ _ (by omega) (by omega) h (lv_sub hl [3, 4, 5, 6, 7, 0] rfl)
              · have hw := hw.2 c350
                refine lv_iconst (v := (nI 0)) hx hb dL_law_1301 (by decide) ?_
                exact law_end X h hr hlk (hpost _ _ hw) (by omega) (by omega) dL_law_1302
          · have hw := hw.2 c345
            refine lv_iconst (v := (nI 0)) hx hb dL_law_1284 (by decide) ?_
            exact law_end X h hr hlk (hpost _ _ hw) (by omega) (by omega) dL_law_1285
        have hw := hw.2
        rcases jc15 with _ | jc15
        · have hw := hw.1 c15
          refine lv_tableIn (tgt := 1306) (off := 1262) hx hb dL_law_44 (by rw [c15]; decide) (by rw [c15]; decide) (by rw [c15]; rfl) (by decide) ?_
          refine lv_aload_n hx hb dL_law_1306 rfl (lv_at hl 1 rfl) ?_
          obtain ⟨k353, hw⟩ := hw
          refine rc_V (As := []) (rest := []) X h k353 (by decide) rfl (meX6_lots l G _ _ _ hw) gV_L_173 rfl rfl hdV_X6_lots rfl ⟨Nat.le_of_ble_eq_true rfl, Nat.le_of_ble_eq_true rfl⟩ hl.1 rfl (Nat.le_of_ble_eq_true rfl) ⟨law_c (by omega), law_s (by omega)⟩ dL_law_1307 (fun x354 S352 H locs hw h => ?_)
          refine lv_aload_n hx hb dL_law_1310 rfl (lv_at hl 2 rfl) ?_
          obtain ⟨k356, hw⟩ := hw
          refine rc_V (As := []) (rest := [.int x354]) X h k356 (by decide) rfl (meX7_lots l G _ _ _ hw) gV_L_176 rfl rfl hdV_X7_lots rfl ⟨Nat.le_of_ble_eq_true rfl, Nat.le_of_ble_eq_true rfl⟩ hl.1 rfl (Nat.le_of_ble_eq_true rfl) ⟨law_c (by omega), law_s (by omega)⟩ dL_law_1311 (fun x357 S355 H locs hw h => ?_)
          refine lv_icmp_eq (tgt := 1712) hx hb dL_law_1314 (by decide) (fun c358 => ?_) (fun c358 => ?_)
          · have hw := hw.1 c358
            obtain ⟨x359, ex359⟩ : ∃ y : Int32, y = (w5 + (nI 4)) := ⟨_, rfl⟩
            have hw := hw x359 ex359
            refine lv_iinc (v := x359) (lv' := [(5, .int x359), (0, .ref b), (1, .ref o1), (2, .ref o5), (3, .ref o9), (4, .ref o11)]) hx hb dL_law_1712 hl (k := 5) rfl (by rw [ex359]; rfl) (by decide) rfl (fun ls hl => ?_)
            refine lv_goto (tgt := 28) hx hb dL_law_1715 (by decide) ?_
            refine W.widen (k := kc + 7) (n := ks + 56) (by omega) (by omega) ?_
            exact ih _ _ hw _ _ _ _ _ (by omega) (by omega) h (lv_sub hl [1, 2, 3, 4, 5, 0] rfl)
          · have hw := hw.2 c358
            refine lv_iconst (v := (nI 0)) hx hb dL_law_1317 (by decide) ?_
            exact law_end X h hr hlk (hpost _ _ hw) (by omega) (by omega) dL_law_1318
        have hw := hw.2
        rcases jc15 with _ | jc15
        · have hw := hw.1 c15
          refine lv_tableIn (tgt := 1319) (off := 1275) hx hb dL_law_44 (by rw [c15]; decide) (by rw [c15]; decide) (by rw [c15]; rfl) (by decide) ?_
          refine lv_aload_n hx hb dL_law_1319 rfl (lv_at hl 1 rfl) ?_
          refine lv_aload_n hx hb dL_law_1320 rfl (lv_at hl 0 rfl) ?_
          refine lv_iload hx hb dL_law_1321 (lv_at hl 5 rfl) ?_
          refine lv_iconst (v := (nI 1)) hx hb dL_law_1323 (by decide) ?_
          refine lv_iadd hx hb dL_law_1324 ?_
          obtain ⟨v360, hw⟩ := hw
          refine va_sld hx hb hX hbl hbA h.2.2 v360 dL_law_1325 ?_
          refine lv_aload_n hx hb dL_law_1326 rfl (lv_at hl 3 rfl) ?_
          refine rc_H (As := [.ref o1, .int (xs (w5 + (nI 1)).toNatClampNeg), .ref o9]) (rest := []) X h (meL_copies l hl9 G _ _ _ _ _ hw) gS_L_177 rfl rfl hdS_L_copies rfl ⟨Nat.le_of_ble_eq_true rfl, Nat.le_of_ble_eq_true rfl⟩ hl.1 rfl (Nat.le_of_ble_eq_true rfl) ⟨law_c (by omega), law_s (by omega)⟩ dL_law_1327 (fun x362 S361 H locs hw h => ?_)
          refine lv_istore (lv' := [(6, .int x362), (0, .ref b), (1, .ref o1), (2, .ref o5), (3, .ref o9), (4, .ref o11), (5, .int w5)]) hx hb dL_law_1330 hl (by decide) rfl (fun ls hl => ?_)
          refine lv_aload_n hx hb dL_law_1332 rfl (lv_at hl 3 rfl) ?_
          refine lv_aload_n hx hb dL_law_1333 rfl (lv_at hl 1 rfl) ?_
          refine lv_iload hx hb dL_law_1334 (lv_at hl 6 rfl) ?_
          refine lv_iconst (v := (nI 1)) hx hb dL_law_1336 (by decide) ?_
          refine lv_iadd hx hb dL_law_1337 ?_
          obtain ⟨v363, hw⟩ := hw
          refine va_sld hx hb hX hbl hbA h.2.2 v363 dL_law_1338 ?_
          obtain ⟨k365, hw⟩ := hw
          refine rc_V (As := [.int (xs (w5 + (nI 1)).toNatClampNeg)]) (rest := []) X h k365 (by decide) rfl (meX7_copies l G _ _ _ _ hw) gV_L_179 rfl rfl hdV_X7_copies rfl ⟨Nat.le_of_ble_eq_true rfl, Nat.le_of_ble_eq_true rfl⟩ hl.1 rfl (Nat.le_of_ble_eq_true rfl) ⟨law_c (by omega), law_s (by omega)⟩ dL_law_1339 (fun x366 S364 H locs hw h => ?_)
          refine lv_istore (lv' := [(7, .int x366), (6, .int x362), (0, .ref b), (1, .ref o1), (2, .ref o5), (3, .ref o9), (4, .ref o11), (5, .int w5)]) hx hb dL_law_1342 hl (by decide) rfl (fun ls hl => ?_)
          refine lv_aload_n hx hb dL_law_1344 rfl (lv_at hl 4 rfl) ?_
          obtain ⟨k368, hw⟩ := hw
          refine rc_V (As := []) (rest := []) X h k368 (by decide) rfl (meX7_thrown l G _ _ _ hw) gV_L_111 rfl rfl hdV_X7_thrown rfl ⟨Nat.le_of_ble_eq_true rfl, Nat.le_of_ble_eq_true rfl⟩ hl.1 rfl (Nat.le_of_ble_eq_true rfl) ⟨law_c (by omega), law_s (by omega)⟩ dL_law_1345 (fun x369 S367 H locs hw h => ?_)
          refine lv_iload hx hb dL_law_1348 (lv_at hl 1 rfl) ?_
          refine lv_icmp_eq (tgt := 1355) hx hb dL_law_1350 (by decide) (fun c370 => ?_) (fun c370 => ?_)
          · have hw := hw.1 c370
            refine lv_iload hx hb dL_law_1355 (lv_at hl 1 rfl) ?_
            refine lv_if_ne (tgt := 1372) hx hb dL_law_1357 (by decide) (fun c371 => ?_) (fun c371 => ?_)
            · have hw := hw.1 c371
              refine lv_goto (tgt := 1712) hx hb dL_law_1372 (by decide) ?_
              obtain ⟨x372, ex372⟩ : ∃ y : Int32, y = (w5 + (nI 4)) := ⟨_, rfl⟩
              have hw := hw x372 ex372
              refine lv_iinc (v := x372) (lv' := [(5, .int x372), (7, .int x366), (6, .int x362), (0, .ref b), (1, .ref o1), (2, .ref o5), (3, .ref o9), (4, .ref o11)]) hx hb dL_law_1712 hl (k := 7) rfl (by rw [ex372]; rfl) (by decide) rfl (fun ls hl => ?_)
              refine lv_goto (tgt := 28) hx hb dL_law_1715 (by decide) ?_
              refine W.widen (k := kc + 7) (n := ks + 56) (by omega) (by omega) ?_
              exact ih _ _ hw _ _ _ _ _ (by omega) (by omega) h (lv_sub hl [3, 4, 5, 6, 7, 0] rfl)
            · have hw := hw.2 c371
              refine lv_aload_n hx hb dL_law_1360 rfl (lv_at hl 5 rfl) ?_
              refine lv_iconst (v := (nI 0)) hx hb dL_law_1361 (by decide) ?_
              obtain ⟨k373, hw⟩ := hw
              obtain ⟨v374, hw⟩ := hw
              refine r_lald X h k373 v374 dL_law_1362 ?_
              refine lv_iload hx hb dL_law_1363 (lv_at hl 0 rfl) ?_
              refine lv_i2l (v := x366.toInt64) hx hb dL_law_1365 rfl ?_
              refine W.lcmp hx hb dL_law_1366 ?_
              refine lv_if_eq (tgt := 1372) hx hb dL_law_1367 (by decide) (fun c375 => ?_) (fun c375 => ?_)
              · have hw := hw.1 c375
                refine lv_goto (tgt := 1712) hx hb dL_law_1372 (by decide) ?_
                obtain ⟨x376, ex376⟩ : ∃ y : Int32, y = (w5 + (nI 4)) := ⟨_, rfl⟩
                have hw := hw x376 ex376
                refine lv_iinc (v := x376) (lv' := [(5, .int x376), (7, .int x366), (6, .int x362), (0, .ref b), (1, .ref o1), (2, .ref o5), (3, .ref o9), (4, .ref o11)]) hx hb dL_law_1712 hl (k := 7) rfl (by rw [ex376]; rfl) (by decide) rfl (fun ls hl => ?_)
                refine lv_goto (tgt := 28) hx hb dL_law_1715 (by decide) ?_
                refine W.widen (k := kc + 7) (n := ks + 56) (by omega) (by omega) ?_
                exact ih _ _ hw _ _ _ _ _ (by omega) (by omega) h (lv_sub hl [3, 4, 5, 6, 7, 0] rfl)
              · have hw := hw.2 c375
                refine lv_iconst (v := (nI 0)) hx hb dL_law_1370 (by decide) ?_
                exact law_end X h hr hlk (hpost _ _ hw) (by omega) (by omega) dL_law_1371
          · have hw := hw.2 c370
            refine lv_iconst (v := (nI 0)) hx hb dL_law_1353 (by decide) ?_
            exact law_end X h hr hlk (hpost _ _ hw) (by omega) (by omega) dL_law_1354
        have hw := hw.2
        rcases jc15 with _ | jc15
        · have hw := hw.1 c15
          refine lv_tableIn (tgt := 1375) (off := 1331) hx hb dL_law_44 (by rw [c15]; decide) (by rw [c15]; decide) (by rw [c15]; rfl) (by decide) ?_
          refine lv_aload_n hx hb dL_law_1375 rfl (lv_at hl 1 rfl) ?_
          refine lv_aload_n hx hb dL_law_1376 rfl (lv_at hl 0 rfl) ?_
          refine lv_iload hx hb dL_law_1377 (lv_at hl 5 rfl) ?_
          refine lv_iconst (v := (nI 1)) hx hb dL_law_1379 (by decide) ?_
          refine lv_iadd hx hb dL_law_1380 ?_
          obtain ⟨v377, hw⟩ := hw
          refine va_sld hx hb hX hbl hbA h.2.2 v377 dL_law_1381 ?_
          refine lv_aload_n hx hb dL_law_1382 rfl (lv_at hl 0 rfl) ?_
          refine lv_iload hx hb dL_law_1383 (lv_at hl 5 rfl) ?_
          refine lv_iconst (v := (nI 2)) hx hb dL_law_1385 (by decide) ?_
          refine lv_iadd hx hb dL_law_1386 ?_
          obtain ⟨v378, hw⟩ := hw
          refine va_sld hx hb hX hbl hbA h.2.2 v378 dL_law_1387 ?_
          refine lv_aload_n hx hb dL_law_1388 rfl (lv_at hl 3 rfl) ?_
          refine rc_H (As := [.ref o1, .int (xs (w5 + (nI 1)).toNatClampNeg), .int (xs (w5 + (nI 2)).toNatClampNeg), .ref o9]) (rest := []) X h (meL_stateIn l hl9 G _ _ _ _ _ _ hw) gS_L_180 rfl rfl hdS_L_stateIn rfl ⟨Nat.le_of_ble_eq_true rfl, Nat.le_of_ble_eq_true rfl⟩ hl.1 rfl (Nat.le_of_ble_eq_true rfl) ⟨law_c (by omega), law_s (by omega)⟩ dL_law_1389 (fun x380 S379 H locs hw h => ?_)
          refine lv_istore (lv' := [(6, .int x380), (0, .ref b), (1, .ref o1), (2, .ref o5), (3, .ref o9), (4, .ref o11), (5, .int w5)]) hx hb dL_law_1392 hl (by decide) rfl (fun ls hl => ?_)
          refine lv_aload_n hx hb dL_law_1394 rfl (lv_at hl 3 rfl) ?_
          refine lv_aload_n hx hb dL_law_1395 rfl (lv_at hl 1 rfl) ?_
          refine lv_iload hx hb dL_law_1396 (lv_at hl 6 rfl) ?_
          refine lv_iconst (v := (nI 1)) hx hb dL_law_1398 (by decide) ?_
          refine lv_iadd hx hb dL_law_1399 ?_
          obtain ⟨v381, hw⟩ := hw
          refine va_sld hx hb hX hbl hbA h.2.2 v381 dL_law_1400 ?_
          refine lv_aload_n hx hb dL_law_1401 rfl (lv_at hl 1 rfl) ?_
          refine lv_iload hx hb dL_law_1402 (lv_at hl 6 rfl) ?_
          refine lv_iconst (v := (nI 2)) hx hb dL_law_1404 (by decide) ?_
          refine lv_iadd hx hb dL_law_1405 ?_
          obtain ⟨v382, hw⟩ := hw
          refine va_sld hx hb hX hbl hbA h.2.2 v382 dL_law_1406 ?_
          obtain ⟨k384, hw⟩ := hw
          refine rc_V (As := [.int (xs (w5 + (nI 1)).toNatClampNeg), .int (xs (w5 + (nI 2)).toNatClampNeg)]) (rest := []) X h k384 (by decide) rfl (meX7_stateIn l G _ _ _ _ _ hw) gV_L_182 rfl rfl hdV_X7_stateIn rfl ⟨Nat.le_of_ble_eq_true rfl, Nat.le_of_ble_eq_true rfl⟩ hl.1 rfl (Nat.le_of_ble_eq_true rfl) ⟨law_c (by omega), law_s (by omega)⟩ dL_law_1407 (fun x385 S383 H locs hw h => ?_)
          refine lv_istore (lv' := [(7, .int x385), (6, .int x380), (0, .ref b), (1, .ref o1), (2, .ref o5), (3, .ref o9), (4, .ref o11), (5, .int w5)]) hx hb dL_law_1410 hl (by decide) rfl (fun ls hl => ?_)
          refine lv_aload_n hx hb dL_law_1412 rfl (lv_at hl 4 rfl) ?_
          obtain ⟨k387, hw⟩ := hw
          refine rc_V (As := []) (rest := []) X h k387 (by decide) rfl (meX7_thrown l G _ _ _ hw) gV_L_111 rfl rfl hdV_X7_thrown rfl ⟨Nat.le_of_ble_eq_true rfl, Nat.le_of_ble_eq_true rfl⟩ hl.1 rfl (Nat.le_of_ble_eq_true rfl) ⟨law_c (by omega), law_s (by omega)⟩ dL_law_1413 (fun x388 S386 H locs hw h => ?_)
          refine lv_iload hx hb dL_law_1416 (lv_at hl 1 rfl) ?_
          refine lv_icmp_eq (tgt := 1423) hx hb dL_law_1418 (by decide) (fun c389 => ?_) (fun c389 => ?_)
          · have hw := hw.1 c389
            refine lv_iload hx hb dL_law_1423 (lv_at hl 1 rfl) ?_
            refine lv_if_ne (tgt := 1440) hx hb dL_law_1425 (by decide) (fun c390 => ?_) (fun c390 => ?_)
            · have hw := hw.1 c390
              refine lv_goto (tgt := 1712) hx hb dL_law_1440 (by decide) ?_
              obtain ⟨x391, ex391⟩ : ∃ y : Int32, y = (w5 + (nI 4)) := ⟨_, rfl⟩
              have hw := hw x391 ex391
              refine lv_iinc (v := x391) (lv' := [(5, .int x391), (7, .int x385), (6, .int x380), (0, .ref b), (1, .ref o1), (2, .ref o5), (3, .ref o9), (4, .ref o11)]) hx hb dL_law_1712 hl (k := 7) rfl (by rw [ex391]; rfl) (by decide) rfl (fun ls hl => ?_)
              refine lv_goto (tgt := 28) hx hb dL_law_1715 (by decide) ?_
              refine W.widen (k := kc + 7) (n := ks + 56) (by omega) (by omega) ?_
              exact ih _ _ hw _ _ _ _ _ (by omega) (by omega) h (lv_sub hl [3, 4, 5, 6, 7, 0] rfl)
            · have hw := hw.2 c390
              refine lv_aload_n hx hb dL_law_1428 rfl (lv_at hl 5 rfl) ?_
              refine lv_iconst (v := (nI 0)) hx hb dL_law_1429 (by decide) ?_
              obtain ⟨k392, hw⟩ := hw
              obtain ⟨v393, hw⟩ := hw
              refine r_lald X h k392 v393 dL_law_1430 ?_
              refine lv_iload hx hb dL_law_1431 (lv_at hl 0 rfl) ?_
              refine lv_i2l (v := x385.toInt64) hx hb dL_law_1433 rfl ?_
              refine W.lcmp hx hb dL_law_1434 ?_
              refine lv_if_eq (tgt := 1440) hx hb dL_law_1435 (by decide) (fun c394 => ?_) (fun c394 => ?_)
              · have hw := hw.1 c394
                refine lv_goto (tgt := 1712) hx hb dL_law_1440 (by decide) ?_
                obtain ⟨x395, ex395⟩ : ∃ y : Int32, y = (w5 + (nI 4)) := ⟨_, rfl⟩
                have hw := hw x395 ex395
                refine lv_iinc (v := x395) (lv' := [(5, .int x395), (7, .int x385), (6, .int x380), (0, .ref b), (1, .ref o1), (2, .ref o5), (3, .ref o9), (4, .ref o11)]) hx hb dL_law_1712 hl (k := 7) rfl (by rw [ex395]; rfl) (by decide) rfl (fun ls hl => ?_)
                refine lv_goto (tgt := 28) hx hb dL_law_1715 (by decide) ?_
                refine W.widen (k := kc + 7) (n := ks + 56) (by omega) (by omega) ?_
                exact ih _ _ hw _ _ _ _ _ (by omega) (by omega) h (lv_sub hl [3, 4, 5, 6, 7, 0] rfl)
              · have hw := hw.2 c394
                refine lv_iconst (v := (nI 0)) hx hb dL_law_1438 (by decide) ?_
                exact law_end X h hr hlk (hpost _ _ hw) (by omega) (by omega) dL_law_1439
          · have hw := hw.2 c389
            refine lv_iconst (v := (nI 0)) hx hb dL_law_1421 (by decide) ?_
            exact law_end X h hr hlk (hpost _ _ hw) (by omega) (by omega) dL_law_1422
        have hw := hw.2
        rcases jc15 with _ | jc15
        · have hw := hw.1 c15
          refine lv_tableIn (tgt := 1443) (off := 1399) hx hb dL_law_44 (by rw [c15]; decide) (by rw [c15]; decide) (by rw [c15]; rfl) (by decide) ?_
          refine lv_aload_n hx hb dL_law_1443 rfl (lv_at hl 1 rfl) ?_
          refine lv_aload_n hx hb dL_law_1444 rfl (lv_at hl 0 rfl) ?_
          refine lv_iload hx hb dL_law_1445 (lv_at hl 5 rfl) ?_
          refine lv_iconst (v := (nI 1)) hx hb dL_law_1447 (by decide) ?_
          refine lv_iadd hx hb dL_law_1448 ?_
          obtain ⟨v396, hw⟩ := hw
          refine va_sld hx hb hX hbl hbA h.2.2 v396 dL_law_1449 ?_
          refine lv_aload_n hx hb dL_law_1450 rfl (lv_at hl 0 rfl) ?_
          refine lv_iload hx hb dL_law_1451 (lv_at hl 5 rfl) ?_
          refine lv_iconst (v := (nI 2)) hx hb dL_law_1453 (by decide) ?_
          refine lv_iadd hx hb dL_law_1454 ?_
          obtain ⟨v397, hw⟩ := hw
          refine va_sld hx hb hX hbl hbA h.2.2 v397 dL_law_1455 ?_
          refine lv_aload_n hx hb dL_law_1456 rfl (lv_at hl 3 rfl) ?_
          refine rc_H (As := [.ref o1, .int (xs (w5 + (nI 1)).toNatClampNeg), .int (xs (w5 + (nI 2)).toNatClampNeg), .ref o9]) (rest := []) X h (meL_stateByReplay l hl9 G _ _ _ _ _ _ hw) gS_L_183 rfl rfl hdS_L_stateByReplay rfl ⟨Nat.le_of_ble_eq_true rfl, Nat.le_of_ble_eq_true rfl⟩ hl.1 rfl (Nat.le_of_ble_eq_true rfl) ⟨law_c (by omega), law_s (by omega)⟩ dL_law_1457 (fun x399 S398 H locs hw h => ?_)
          refine lv_istore (lv' := [(6, .int x399), (0, .ref b), (1, .ref o1), (2, .ref o5), (3, .ref o9), (4, .ref o11), (5, .int w5)]) hx hb dL_law_1460 hl (by decide) rfl (fun ls hl => ?_)
          refine lv_aload_n hx hb dL_law_1462 rfl (lv_at hl 3 rfl) ?_
          refine lv_aload_n hx hb dL_law_1463 rfl (lv_at hl 1 rfl) ?_
          refine lv_iload hx hb dL_law_1464 (lv_at hl 6 rfl) ?_
          refine lv_iconst (v := (nI 1)) hx hb dL_law_1466 (by decide) ?_
          refine lv_iadd hx hb dL_law_1467 ?_
          obtain ⟨v400, hw⟩ := hw
          refine va_sld hx hb hX hbl hbA h.2.2 v400 dL_law_1468 ?_
          refine lv_aload_n hx hb dL_law_1469 rfl (lv_at hl 1 rfl) ?_
          refine lv_iload hx hb dL_law_1470 (lv_at hl 6 rfl) ?_
          refine lv_iconst (v := (nI 2)) hx hb dL_law_1472 (by decide) ?_
          refine lv_iadd hx hb dL_law_1473 ?_
          obtain ⟨v401, hw⟩ := hw
          refine va_sld hx hb hX hbl hbA h.2.2 v401 dL_law_1474 ?_
          obtain ⟨k403, hw⟩ := hw
          refine rc_V (As := [.int (xs (w5 + (nI 1)).toNatClampNeg), .int (xs (w5 + (nI 2)).toNatClampNeg)]) (rest := []) X h k403 (by decide) rfl (meX7_stateByReplay l G _ _ _ _ _ hw) gV_L_185 rfl rfl hdV_X7_stateByReplay rfl ⟨Nat.le_of_ble_eq_true rfl, Nat.le_of_ble_eq_true rfl⟩ hl.1 rfl (Nat.le_of_ble_eq_true rfl) ⟨law_c (by omega), law_s (by omega)⟩ dL_law_1475 (fun x404 S402 H locs hw h => ?_)
          refine lv_istore (lv' := [(7, .int x404), (6, .int x399), (0, .ref b), (1, .ref o1), (2, .ref o5), (3, .ref o9), (4, .ref o11), (5, .int w5)]) hx hb dL_law_1478 hl (by decide) rfl (fun ls hl => ?_)
          refine lv_aload_n hx hb dL_law_1480 rfl (lv_at hl 4 rfl) ?_
          obtain ⟨k406, hw⟩ := hw
          refine rc_V (As := []) (rest := []) X h k406 (by decide) rfl (meX7_thrown l G _ _ _ hw) gV_L_111 rfl rfl hdV_X7_thrown rfl ⟨Nat.le_of_ble_eq_true rfl, Nat.le_of_ble_eq_true rfl⟩ hl.1 rfl (Nat.le_of_ble_eq_true rfl) ⟨law_c (by omega), law_s (by omega)⟩ dL_law_1481 (fun x407 S405 H locs hw h => ?_)
          refine lv_iload hx hb dL_law_1484 (lv_at hl 1 rfl) ?_
          refine lv_icmp_eq (tgt := 1491) hx hb dL_law_1486 (by decide) (fun c408 => ?_) (fun c408 => ?_)
          · have hw := hw.1 c408
            refine lv_iload hx hb dL_law_1491 (lv_at hl 1 rfl) ?_
            refine lv_if_ne (tgt := 1508) hx hb dL_law_1493 (by decide) (fun c409 => ?_) (fun c409 => ?_)
            · have hw := hw.1 c409
              refine lv_goto (tgt := 1712) hx hb dL_law_1508 (by decide) ?_
              obtain ⟨x410, ex410⟩ : ∃ y : Int32, y = (w5 + (nI 4)) := ⟨_, rfl⟩
              have hw := hw x410 ex410
              refine lv_iinc (v := x410) (lv' := [(5, .int x410), (7, .int x404), (6, .int x399), (0, .ref b), (1, .ref o1), (2, .ref o5), (3, .ref o9), (4, .ref o11)]) hx hb dL_law_1712 hl (k := 7) rfl (by rw [ex410]; rfl) (by decide) rfl (fun ls hl => ?_)
              refine lv_goto (tgt := 28) hx hb dL_law_1715 (by decide) ?_
              refine W.widen (k := kc + 7) (n := ks + 56) (by omega) (by omega) ?_
              exact ih _ _ hw _ _ _ _ _ (by omega) (by omega) h (lv_sub hl [3, 4, 5, 6, 7, 0] rfl)
            · have hw := hw.2 c409
              refine lv_aload_n hx hb dL_law_1496 rfl (lv_at hl 5 rfl) ?_
              refine lv_iconst (v := (nI 0)) hx hb dL_law_1497 (by decide) ?_
              obtain ⟨k411, hw⟩ := hw
              obtain ⟨v412, hw⟩ := hw
              refine r_lald X h k411 v412 dL_law_1498 ?_
              refine lv_iload hx hb dL_law_1499 (lv_at hl 0 rfl) ?_
              refine lv_i2l (v := x404.toInt64) hx hb dL_law_1501 rfl ?_
              refine W.lcmp hx hb dL_law_1502 ?_
              refine lv_if_eq (tgt := 1508) hx hb dL_law_1503 (by decide) (fun c413 => ?_) (fun c413 => ?_)
              · have hw := hw.1 c413
                refine lv_goto (tgt := 1712) hx hb dL_law_1508 (by decide) ?_
                obtain ⟨x414, ex414⟩ : ∃ y : Int32, y = (w5 + (nI 4)) := ⟨_, rfl⟩
                have hw := hw x414 ex414
                refine lv_iinc (v := x414) (lv' := [(5, .int x414), (7, .int x404), (6, .int x399), (0, .ref b), (1, .ref o1), (2, .ref o5), (3, .ref o9), (4, .ref o11)]) hx hb dL_law_1712 hl (k := 7) rfl (by rw [ex414]; rfl) (by decide) rfl (fun ls hl => ?_)
                refine lv_goto (tgt := 28) hx hb dL_law_1715 (by decide) ?_
                refine W.widen (k := kc + 7) (n := ks + 56) (by omega) (by omega) ?_
                exact ih _ _ hw _ _ _ _ _ (by omega) (by omega) h (lv_sub hl [3, 4, 5, 6, 7, 0] rfl)
              · have hw := hw.2 c413
                refine lv_iconst (v := (nI 0)) hx hb dL_law_1506 (by decide) ?_
                exact law_end X h hr hlk (hpost _ _ hw) (by omega) (by omega) dL_law_1507
          · have hw := hw.2 c408
            refine lv_iconst (v := (nI 0)) hx hb dL_law_1489 (by decide) ?_
            exact law_end X h hr hlk (hpost _ _ hw) (by omega) (by omega) dL_law_1490
        have hw := hw.2
        rcases jc15 with _ | jc15
        · have hw := hw.1 c15
          refine lv_tableIn (tgt := 1511) (off := 1467) hx hb dL_law_44 (by rw [c15]; decide) (by rw [c15]; decide) (by rw [c15]; rfl) (by decide) ?_
          refine lv_aload_n hx hb dL_law_1511 rfl (lv_at hl 1 rfl) ?_
          refine lv_aload_n hx hb dL_law_1512 rfl (lv_at hl 0 rfl) ?_
          refine lv_iload hx hb dL_law_1513 (lv_at hl 5 rfl) ?_
          refine lv_iconst (v := (nI 1)) hx hb dL_law_1515 (by decide) ?_
          refine lv_iadd hx hb dL_law_1516 ?_
          obtain ⟨v415, hw⟩ := hw
          refine va_sld hx hb hX hbl hbA h.2.2 v415 dL_law_1517 ?_
          refine lv_aload_n hx hb dL_law_1518 rfl (lv_at hl 3 rfl) ?_
          refine rc_H (As := [.ref o1, .int (xs (w5 + (nI 1)).toNatClampNeg), .ref o9]) (rest := []) X h (meL_outdated l hl9 G _ _ _ _ _ hw) gS_L_186 rfl rfl hdS_L_outdated rfl ⟨Nat.le_of_ble_eq_true rfl, Nat.le_of_ble_eq_true rfl⟩ hl.1 rfl (Nat.le_of_ble_eq_true rfl) ⟨law_c (by omega), law_s (by omega)⟩ dL_law_1519 (fun x417 S416 H locs hw h => ?_)
          refine lv_istore (lv' := [(6, .int x417), (0, .ref b), (1, .ref o1), (2, .ref o5), (3, .ref o9), (4, .ref o11), (5, .int w5)]) hx hb dL_law_1522 hl (by decide) rfl (fun ls hl => ?_)
          refine lv_aload_n hx hb dL_law_1524 rfl (lv_at hl 3 rfl) ?_
          refine lv_aload_n hx hb dL_law_1525 rfl (lv_at hl 1 rfl) ?_
          refine lv_iload hx hb dL_law_1526 (lv_at hl 6 rfl) ?_
          refine lv_iconst (v := (nI 1)) hx hb dL_law_1528 (by decide) ?_
          refine lv_iadd hx hb dL_law_1529 ?_
          obtain ⟨v418, hw⟩ := hw
          refine va_sld hx hb hX hbl hbA h.2.2 v418 dL_law_1530 ?_
          obtain ⟨k420, hw⟩ := hw
          refine rc_V (As := [.int (xs (w5 + (nI 1)).toNatClampNeg)]) (rest := []) X h k420 (by decide) rfl (meX7_outdated l G _ _ _ _ hw) gV_L_188 rfl rfl hdV_X7_outdated rfl ⟨Nat.le_of_ble_eq_true rfl, Nat.le_of_ble_eq_true rfl⟩ hl.1 rfl (Nat.le_of_ble_eq_true rfl) ⟨law_c (by omega), law_s (by omega)⟩ dL_law_1531 (fun x421 S419 H locs hw h => ?_)
          refine lv_istore (lv' := [(7, .int x421), (6, .int x417), (0, .ref b), (1, .ref o1), (2, .ref o5), (3, .ref o9), (4, .ref o11), (5, .int w5)]) hx hb dL_law_1534 hl (by decide) rfl (fun ls hl => ?_)
          refine lv_aload_n hx hb dL_law_1536 rfl (lv_at hl 4 rfl) ?_
          obtain ⟨k423, hw⟩ := hw
          refine rc_V (As := []) (rest := []) X h k423 (by decide) rfl (meX7_thrown l G _ _ _ hw) gV_L_111 rfl rfl hdV_X7_thrown rfl ⟨Nat.le_of_ble_eq_true rfl, Nat.le_of_ble_eq_true rfl⟩ hl.1 rfl (Nat.le_of_ble_eq_true rfl) ⟨law_c (by omega), law_s (by omega)⟩ dL_law_1537 (fun x424 S422 H locs hw h => ?_)
          refine lv_iload hx hb dL_law_1540 (lv_at hl 1 rfl) ?_
          refine lv_icmp_eq (tgt := 1547) hx hb dL_law_1542 (by decide) (fun c425 => ?_) (fun c425 => ?_)
          · have hw := hw.1 c425
            refine lv_iload hx hb dL_law_1547 (lv_at hl 1 rfl) ?_
            refine lv_if_ne (tgt := 1564) hx hb dL_law_1549 (by decide) (fun c426 => ?_) (fun c426 => ?_)
            · have hw := hw.1 c426
              refine lv_goto (tgt := 1712) hx hb dL_law_1564 (by decide) ?_
              obtain ⟨x427, ex427⟩ : ∃ y : Int32, y = (w5 + (nI 4)) := ⟨_, rfl⟩
              have hw := hw x427 ex427
              refine lv_iinc (v := x427) (lv' := [(5, .int x427), (7, .int x421), (6, .int x417), (0, .ref b), (1, .ref o1), (2, .ref o5), (3, .ref o9), (4, .ref o11)]) hx hb dL_law_1712 hl (k := 7) rfl (by rw [ex427]; rfl) (by decide) rfl (fun ls hl => ?_)
              refine lv_goto (tgt := 28) hx hb dL_law_1715 (by decide) ?_
              refine W.widen (k := kc + 7) (n := ks + 56) (by omega) (by omega) ?_
              exact ih _ _ hw _ _ _ _ _ (by omega) (by omega) h (lv_sub hl [3, 4, 5, 6, 7, 0] rfl)
            · have hw := hw.2 c426
              refine lv_aload_n hx hb dL_law_1552 rfl (lv_at hl 5 rfl) ?_
              refine lv_iconst (v := (nI 0)) hx hb dL_law_1553 (by decide) ?_
              obtain ⟨k428, hw⟩ := hw
              obtain ⟨v429, hw⟩ := hw
              refine r_lald X h k428 v429 dL_law_1554 ?_
              refine lv_iload hx hb dL_law_1555 (lv_at hl 0 rfl) ?_
              refine lv_i2l (v := x421.toInt64) hx hb dL_law_1557 rfl ?_
              refine W.lcmp hx hb dL_law_1558 ?_
              refine lv_if_eq (tgt := 1564) hx hb dL_law_1559 (by decide) (fun c430 => ?_) (fun c430 => ?_)
              · have hw := hw.1 c430
                refine lv_goto (tgt := 1712) hx hb dL_law_1564 (by decide) ?_
                obtain ⟨x431, ex431⟩ : ∃ y : Int32, y = (w5 + (nI 4)) := ⟨_, rfl⟩
                have hw := hw x431 ex431
                refine lv_iinc (v := x431) (lv' := [(5, .int x431), (7, .int x421), (6, .int x417), (0, .ref b), (1, .ref o1), (2, .ref o5), (3, .ref o9), (4, .ref o11)]) hx hb dL_law_1712 hl (k := 7) rfl (by rw [ex431]; rfl) (by decide) rfl (fun ls hl => ?_)
                refine lv_goto (tgt := 28) hx hb dL_law_1715 (by decide) ?_
                refine W.widen (k := kc + 7) (n := ks + 56) (by omega) (by omega) ?_
                exact ih _ _ hw _ _ _ _ _ (by omega) (by omega) h (lv_sub hl [3, 4, 5, 6, 7, 0] rfl)
              · have hw := hw.2 c430
                refine lv_iconst (v := (nI 0)) hx hb dL_law_1562 (by decide) ?_
                exact law_end X h hr hlk (hpost _ _ hw) (by omega) (by omega) dL_law_1563
          · have hw := hw.2 c425
            refine lv_iconst (v := (nI 0)) hx hb dL_law_1545 (by decide) ?_
            exact law_end X h hr hlk (hpost _ _ hw) (by omega) (by omega) dL_law_1546
        have hw := hw.2
        rcases jc15 with _ | jc15
        · have hw := hw.1 c15
          refine lv_tableIn (tgt := 1567) (off := 1523) hx hb dL_law_44 (by rw [c15]; decide) (by rw [c15]; decide) (by rw [c15]; rfl) (by decide) ?_
          refine lv_aload_n hx hb dL_law_1567 rfl (lv_at hl 1 rfl) ?_
          obtain ⟨k433, hw⟩ := hw
          refine rc_V (As := []) (rest := []) X h k433 (by decide) rfl (meX6_waste l G _ _ _ hw) gV_L_189 rfl rfl hdV_X6_waste rfl ⟨Nat.le_of_ble_eq_true rfl, Nat.le_of_ble_eq_true rfl⟩ hl.1 rfl (Nat.le_of_ble_eq_true rfl) ⟨law_c (by omega), law_s (by omega)⟩ dL_law_1568 (fun x434 S432 H locs hw h => ?_)
          refine lv_aload_n hx hb dL_law_1571 rfl (lv_at hl 2 rfl) ?_
          obtain ⟨k436, hw⟩ := hw
          refine rc_V (As := []) (rest := [.long x434]) X h k436 (by decide) rfl (meX7_waste l G _ _ _ hw) gV_L_193 rfl rfl hdV_X7_waste rfl ⟨Nat.le_of_ble_eq_true rfl, Nat.le_of_ble_eq_true rfl⟩ hl.1 rfl (Nat.le_of_ble_eq_true rfl) ⟨law_c (by omega), law_s (by omega)⟩ dL_law_1572 (fun x437 S435 H locs hw h => ?_)
          refine W.lcmp hx hb dL_law_1575 ?_
          refine lv_if_eq (tgt := 1712) hx hb dL_law_1576 (by decide) (fun c438 => ?_) (fun c438 => ?_)
          · have hw := hw.1 c438
            obtain ⟨x439, ex439⟩ : ∃ y : Int32, y = (w5 + (nI 4)) := ⟨_, rfl⟩
            have hw := hw x439 ex439
            refine lv_iinc (v := x439) (lv' := [(5, .int x439), (0, .ref b), (1, .ref o1), (2, .ref o5), (3, .ref o9), (4, .ref o11)]) hx hb dL_law_1712 hl (k := 5) rfl (by rw [ex439]; rfl) (by decide) rfl (fun ls hl => ?_)
            refine lv_goto (tgt := 28) hx hb dL_law_1715 (by decide) ?_
            refine W.widen (k := kc + 7) (n := ks + 56) (by omega) (by omega) ?_
            exact ih _ _ hw _ _ _ _ _ (by omega) (by omega) h (lv_sub hl [1, 2, 3, 4, 5, 0] rfl)
          · have hw := hw.2 c438
            refine lv_iconst (v := (nI 0)) hx hb dL_law_1579 (by decide) ?_
            exact law_end X h hr hlk (hpost _ _ hw) (by omega) (by omega) dL_law_1580
        have hw := hw.2
        rcases jc15 with _ | jc15
        · have hw := hw.1 c15
          refine lv_tableIn (tgt := 1581) (off := 1537) hx hb dL_law_44 (by rw [c15]; decide) (by rw [c15]; decide) (by rw [c15]; rfl) (by decide) ?_
          refine lv_aload_n hx hb dL_law_1581 rfl (lv_at hl 1 rfl) ?_
          refine lv_aload hx hb dL_law_1582 (lv_at hl 4 rfl) ?_
          refine rc_H (As := [.ref o1, .ref o11]) (rest := []) X h (meL_wasteShare l hl9 G _ _ _ _ hw) gS_L_194 rfl rfl hdS_L_wasteShare rfl ⟨Nat.le_of_ble_eq_true rfl, Nat.le_of_ble_eq_true rfl⟩ hl.1 rfl (Nat.le_of_ble_eq_true rfl) ⟨law_c (by omega), law_s (by omega)⟩ dL_law_1584 (fun x441 S440 H locs hw h => ?_)
          refine lv_istore (lv' := [(6, .int x441), (0, .ref b), (1, .ref o1), (2, .ref o5), (3, .ref o9), (4, .ref o11), (5, .int w5)]) hx hb dL_law_1587 hl (by decide) rfl (fun ls hl => ?_)
          refine lv_aload_n hx hb dL_law_1589 rfl (lv_at hl 3 rfl) ?_
          obtain ⟨k443, hw⟩ := hw
          refine rc_V (As := []) (rest := []) X h k443 (by decide) rfl (meX7_wasteShare l G _ _ _ hw) gV_L_197 rfl rfl hdV_X7_wasteShare rfl ⟨Nat.le_of_ble_eq_true rfl, Nat.le_of_ble_eq_true rfl⟩ hl.1 rfl (Nat.le_of_ble_eq_true rfl) ⟨law_c (by omega), law_s (by omega)⟩ dL_law_1590 (fun x444 S442 H locs hw h => ?_)
          refine lv_fstore (lv' := [(7, .float x444), (6, .int x441), (0, .ref b), (1, .ref o1), (2, .ref o5), (3, .ref o9), (4, .ref o11), (5, .int w5)]) hx hb dL_law_1593 hl (by decide) rfl (fun ls hl => ?_)
          refine lv_aload_n hx hb dL_law_1595 rfl (lv_at hl 4 rfl) ?_
          obtain ⟨k446, hw⟩ := hw
          refine rc_V (As := []) (rest := []) X h k446 (by decide) rfl (meX7_thrown l G _ _ _ hw) gV_L_111 rfl rfl hdV_X7_thrown rfl ⟨Nat.le_of_ble_eq_true rfl, Nat.le_of_ble_eq_true rfl⟩ hl.1 rfl (Nat.le_of_ble_eq_true rfl) ⟨law_c (by omega), law_s (by omega)⟩ dL_law_1596 (fun x447 S445 H locs hw h => ?_)
          refine lv_iload hx hb dL_law_1599 (lv_at hl 1 rfl) ?_
          refine lv_icmp_eq (tgt := 1606) hx hb dL_law_1601 (by decide) (fun c448 => ?_) (fun c448 => ?_)
          · have hw := hw.1 c448
            refine lv_iload hx hb dL_law_1606 (lv_at hl 1 rfl) ?_
            refine lv_if_ne (tgt := 1644) hx hb dL_law_1608 (by decide) (fun c449 => ?_) (fun c449 => ?_)
            · have hw := hw.1 c449
              refine lv_goto (tgt := 1712) hx hb dL_law_1644 (by decide) ?_
              obtain ⟨x450, ex450⟩ : ∃ y : Int32, y = (w5 + (nI 4)) := ⟨_, rfl⟩
              have hw := hw x450 ex450
              refine lv_iinc (v := x450) (lv' := [(5, .int x450), (7, .float x444), (6, .int x441), (0, .ref b), (1, .ref o1), (2, .ref o5), (3, .ref o9), (4, .ref o11)]) hx hb dL_law_1712 hl (k := 7) rfl (by rw [ex450]; rfl) (by decide) rfl (fun ls hl => ?_)
              refine lv_goto (tgt := 28) hx hb dL_law_1715 (by decide) ?_
              refine W.widen (k := kc + 7) (n := ks + 56) (by omega) (by omega) ?_
              exact ih _ _ hw _ _ _ _ _ (by omega) (by omega) h (lv_sub hl [3, 4, 5, 6, 7, 0] rfl)
            · have hw := hw.2 c449
              refine lv_aload hx hb dL_law_1611 (lv_at hl 6 rfl) ?_
              refine lv_iconst (v := (nI 0)) hx hb dL_law_1613 (by decide) ?_
              obtain ⟨k451, hw⟩ := hw
              obtain ⟨v452, hw⟩ := hw
              refine r_dald X h k451 v452 dL_law_1614 ?_
              refine lv_fload hx hb dL_law_1615 (lv_at hl 0 rfl) ?_
              obtain ⟨z453, hw⟩ := hw
              refine lv_f2d hx hb dL_law_1617 z453 ?_
              refine lv_dcmp hx hb dL_law_1618 ?_
              refine lv_if_eq (tgt := 1644) hx hb dL_law_1619 (by decide) (fun c454 => ?_) (fun c454 => ?_)
              · have hw := hw.1 c454
                refine lv_goto (tgt := 1712) hx hb dL_law_1644 (by decide) ?_
                obtain ⟨x455, ex455⟩ : ∃ y : Int32, y = (w5 + (nI 4)) := ⟨_, rfl⟩
                have hw := hw x455 ex455
                refine lv_iinc (v := x455) (lv' := [(5, .int x455), (7, .float x444), (6, .int x441), (0, .ref b), (1, .ref o1), (2, .ref o5), (3, .ref o9), (4, .ref o11)]) hx hb dL_law_1712 hl (k := 7) rfl (by rw [ex455]; rfl) (by decide) rfl (fun ls hl => ?_)
                refine lv_goto (tgt := 28) hx hb dL_law_1715 (by decide) ?_
                refine W.widen (k := kc + 7) (n := ks + 56) (by omega) (by omega) ?_
                exact ih _ _ hw _ _ _ _ _ (by omega) (by omega) h (lv_sub hl [3, 4, 5, 6, 7, 0] rfl)
              · have hw := hw.2 c454
                refine lv_aload hx hb dL_law_1622 (lv_at hl 6 rfl) ?_
                refine lv_iconst (v := (nI 0)) hx hb dL_law_1624 (by decide) ?_
                obtain ⟨v456, hw⟩ := hw
                refine r_dald X h k451 v456 dL_law_1625 ?_
                refine lv_aload hx hb dL_law_1626 (lv_at hl 6 rfl) ?_
                refine lv_iconst (v := (nI 0)) hx hb dL_law_1628 (by decide) ?_
                obtain ⟨v457, hw⟩ := hw
                refine r_dald X h k451 v457 dL_law_1629 ?_
                refine lv_dcmp hx hb dL_law_1630 ?_
                refine lv_if_eq (tgt := 1642) hx hb dL_law_1631 (by decide) (fun c458 => ?_) (fun c458 => ?_)
                · have hw := hw.1 c458
                  refine lv_iconst (v := (nI 0)) hx hb dL_law_1642 (by decide) ?_
                  exact law_end X h hr hlk (hpost _ _ hw) (by omega) (by omega) dL_law_1643
                · have hw := hw.2 c458
                  refine lv_fload hx hb dL_law_1634 (lv_at hl 0 rfl) ?_
                  refine lv_fload hx hb dL_law_1636 (lv_at hl 0 rfl) ?_
                  refine lv_fcmp hx hb dL_law_1638 ?_
                  refine lv_if_ne (tgt := 1644) hx hb dL_law_1639 (by decide) (fun c459 => ?_) (fun c459 => ?_)
                  · have hw := hw.1 c459
                    refine lv_goto (tgt := 1712) hx hb dL_law_1644 (by decide) ?_
                    obtain ⟨x460, ex460⟩ : ∃ y : Int32, y = (w5 + (nI 4)) := ⟨_, rfl⟩
                    have hw := hw x460 ex460
                    refine lv_iinc (v := x460) (lv' := [(5, .int x460), (7, .float x444), (6, .int x441), (0, .ref b), (1, .ref o1), (2, .ref o5), (3, .ref o9), (4, .ref o11)]) hx hb dL_law_1712 hl (k := 7) rfl (by rw [ex460]; rfl) (by decide) rfl (fun ls hl => ?_)
                    refine lv_goto (tgt := 28) hx hb dL_law_1715 (by decide) ?_
                    refine W.widen (k := kc + 7) (n := ks + 56) (by omega) (by omega) ?_
                    exact ih _ _ hw _ _ _ _ _ (by omega) (by omega) h (lv_sub hl [3, 4, 5, 6, 7, 0] rfl)
                  · have hw := hw.2 c459
                    refine lv_iconst (v := (nI 0)) hx hb dL_law_1642 (by decide) ?_
                    exact law_end X h hr hlk (hpost _ _ hw) (by omega) (by omega) dL_law_1643
          · have hw := hw.2 c448
            refine lv_iconst (v := (nI 0)) hx hb dL_law_1604 (by decide) ?_
            exact law_end X h hr hlk (hpost _ _ hw) (by omega) (by omega) dL_law_1605
        have hw := hw.2
        obtain rfl : jc15 = 0 := by omega
        have hw := hw c15
        refine lv_tableIn (tgt := 1647) (off := 1603) hx hb dL_law_44 (by rw [c15]; decide) (by rw [c15]; decide) (by rw [c15]; rfl) (by decide) ?_
        refine lv_aload_n hx hb dL_law_1647 rfl (lv_at hl 1 rfl) ?_
        refine lv_aload hx hb dL_law_1648 (lv_at hl 4 rfl) ?_
        refine rc_H (As := [.ref o1, .ref o11]) (rest := []) X h (meL_meanMakeready l hl9 G _ _ _ _ hw) gS_L_198 rfl rfl hdS_L_meanMakeready rfl ⟨Nat.le_of_ble_eq_true rfl, Nat.le_of_ble_eq_true rfl⟩ hl.1 rfl (Nat.le_of_ble_eq_true rfl) ⟨law_c (by omega), law_s (by omega)⟩ dL_law_1650 (fun x462 S461 H locs hw h => ?_)
        refine lv_istore (lv' := [(6, .int x462), (0, .ref b), (1, .ref o1), (2, .ref o5), (3, .ref o9), (4, .ref o11), (5, .int w5)]) hx hb dL_law_1653 hl (by decide) rfl (fun ls hl => ?_)
        refine lv_aload_n hx hb dL_law_1655 rfl (lv_at hl 3 rfl) ?_
        obtain ⟨k464, hw⟩ := hw
        refine rc_V (As := []) (rest := []) X h k464 (by decide) rfl (meX7_meanMakeready l G _ _ _ hw) gV_L_200 rfl rfl hdV_X7_meanMakeready rfl ⟨Nat.le_of_ble_eq_true rfl, Nat.le_of_ble_eq_true rfl⟩ hl.1 rfl (Nat.le_of_ble_eq_true rfl) ⟨law_c (by omega), law_s (by omega)⟩ dL_law_1656 (fun x465 S463 H locs hw h => ?_)
        refine lv_dstore (lv' := [(7, .double x465), (6, .int x462), (0, .ref b), (1, .ref o1), (2, .ref o5), (3, .ref o9), (4, .ref o11), (5, .int w5)]) hx hb dL_law_1659 hl (by decide) rfl (fun ls hl => ?_)
        refine lv_aload_n hx hb dL_law_1661 rfl (lv_at hl 4 rfl) ?_
        obtain ⟨k467, hw⟩ := hw
        refine rc_V (As := []) (rest := []) X h k467 (by decide) rfl (meX7_thrown l G _ _ _ hw) gV_L_111 rfl rfl hdV_X7_thrown rfl ⟨Nat.le_of_ble_eq_true rfl, Nat.le_of_ble_eq_true rfl⟩ hl.1 rfl (Nat.le_of_ble_eq_true rfl) ⟨law_c (by omega), law_s (by omega)⟩ dL_law_1662 (fun x468 S466 H locs hw h => ?_)
        refine lv_iload hx hb dL_law_1665 (lv_at hl 1 rfl) ?_
        refine lv_icmp_eq (tgt := 1672) hx hb dL_law_1667 (by decide) (fun c469 => ?_) (fun c469 => ?_)
        · have hw := hw.1 c469
          refine lv_iload hx hb dL_law_1672 (lv_at hl 1 rfl) ?_
          refine lv_if_ne (tgt := 1709) hx hb dL_law_1674 (by decide) (fun c470 => ?_) (fun c470 => ?_)
          · have hw := hw.1 c470
            refine lv_goto (tgt := 1712) hx hb dL_law_1709 (by decide) ?_
            obtain ⟨x471, ex471⟩ : ∃ y : Int32, y = (w5 + (nI 4)) := ⟨_, rfl⟩
            have hw := hw x471 ex471
            refine lv_iinc (v := x471) (lv' := [(5, .int x471), (7, .double x465), (6, .int x462), (0, .ref b), (1, .ref o1), (2, .ref o5), (3, .ref o9), (4, .ref o11)]) hx hb dL_law_1712 hl (k := 7) rfl (by rw [ex471]; rfl) (by decide) rfl (fun ls hl => ?_)
            refine lv_goto (tgt := 28) hx hb dL_law_1715 (by decide) ?_
            refine W.widen (k := kc + 7) (n := ks + 56) (by omega) (by omega) ?_
            exact ih _ _ hw _ _ _ _ _ (by omega) (by omega) h (lv_sub hl [3, 4, 5, 6, 7, 0] rfl)
          · have hw := hw.2 c470
            refine lv_aload hx hb dL_law_1677 (lv_at hl 6 rfl) ?_
            refine lv_iconst (v := (nI 0)) hx hb dL_law_1679 (by decide) ?_
            obtain ⟨k472, hw⟩ := hw
            obtain ⟨v473, hw⟩ := hw
            refine r_dald X h k472 v473 dL_law_1680 ?_
            refine lv_dload hx hb dL_law_1681 (lv_at hl 0 rfl) ?_
            refine lv_dcmp hx hb dL_law_1683 ?_
            refine lv_if_eq (tgt := 1709) hx hb dL_law_1684 (by decide) (fun c474 => ?_) (fun c474 => ?_)
            · have hw := hw.1 c474
              refine lv_goto (tgt := 1712) hx hb dL_law_1709 (by decide) ?_
              obtain ⟨x475, ex475⟩ : ∃ y : Int32, y = (w5 + (nI 4)) := ⟨_, rfl⟩
              have hw := hw x475 ex475
              refine lv_iinc (v := x475) (lv' := [(5, .int x475), (7, .double x465), (6, .int x462), (0, .ref b), (1, .ref o1), (2, .ref o5), (3, .ref o9), (4, .ref o11)]) hx hb dL_law_1712 hl (k := 7) rfl (by rw [ex475]; rfl) (by decide) rfl (fun ls hl => ?_)
              refine lv_goto (tgt := 28) hx hb dL_law_1715 (by decide) ?_
              refine W.widen (k := kc + 7) (n := ks + 56) (by omega) (by omega) ?_
              exact ih _ _ hw _ _ _ _ _ (by omega) (by omega) h (lv_sub hl [3, 4, 5, 6, 7, 0] rfl)
            · have hw := hw.2 c474
              refine lv_aload hx hb dL_law_1687 (lv_at hl 6 rfl) ?_
              refine lv_iconst (v := (nI 0)) hx hb dL_law_1689 (by decide) ?_
              obtain ⟨v476, hw⟩ := hw
              refine r_dald X h k472 v476 dL_law_1690 ?_
              refine lv_aload hx hb dL_law_1691 (lv_at hl 6 rfl) ?_
              refine lv_iconst (v := (nI 0)) hx hb dL_law_1693 (by decide) ?_
              obtain ⟨v477, hw⟩ := hw
              refine r_dald X h k472 v477 dL_law_1694 ?_
              refine lv_dcmp hx hb dL_law_1695 ?_
              refine lv_if_eq (tgt := 1707) hx hb dL_law_1696 (by decide) (fun c478 => ?_) (fun c478 => ?_)
              · have hw := hw.1 c478
                refine lv_iconst (v := (nI 0)) hx hb dL_law_1707 (by decide) ?_
                exact law_end X h hr hlk (hpost _ _ hw) (by omega) (by omega) dL_law_1708
              · have hw := hw.2 c478
                refine lv_dload hx hb dL_law_1699 (lv_at hl 0 rfl) ?_
                refine lv_dload hx hb dL_law_1701 (lv_at hl 0 rfl) ?_
                refine lv_dcmp hx hb dL_law_1703 ?_
                refine lv_if_ne (tgt := 1709) hx hb dL_law_1704 (by decide) (fun c479 => ?_) (fun c479 => ?_)
                · have hw := hw.1 c479
                  refine lv_goto (tgt := 1712) hx hb dL_law_1709 (by decide) ?_
                  obtain ⟨x480, ex480⟩ : ∃ y : Int32, y = (w5 + (nI 4)) := ⟨_, rfl⟩
                  have hw := hw x480 ex480
                  refine lv_iinc (v := x480) (lv' := [(5, .int x480), (7, .double x465), (6, .int x462), (0, .ref b), (1, .ref o1), (2, .ref o5), (3, .ref o9), (4, .ref o11)]) hx hb dL_law_1712 hl (k := 7) rfl (by rw [ex480]; rfl) (by decide) rfl (fun ls hl => ?_)
                  refine lv_goto (tgt := 28) hx hb dL_law_1715 (by decide) ?_
                  refine W.widen (k := kc + 7) (n := ks + 56) (by omega) (by omega) ?_
                  exact ih _ _ hw _ _ _ _ _ (by omega) (by omega) h (lv_sub hl [3, 4, 5, 6, 7, 0] rfl)
                · have hw := hw.2 c479
                  refine lv_iconst (v := (nI 0)) hx hb dL_law_1707 (by decide) ?_
                  exact law_end X h hr hlk (hpost _ _ hw) (by omega) (by omega) dL_law_1708
        · have hw := hw.2 c469
          refine lv_iconst (v := (nI 0)) hx hb dL_law_1670 (by decide) ?_
          exact law_end X h hr hlk (hpost _ _ hw) (by omega) (by omega) dL_law_1671
def wpL_law (S : Mem) (L : Nat) (xs : Nat → Int32) (post : Int32 → Mem → Prop) : Prop := ∀ o1 : Nat, o1 ∉ mL S → (∀ S2 : Mem, S2 = (nA S o1 6 0) → (wpX6_init S2 o1 (fun u4 S3 => ∀ o5 : Nat, o5 ∉ mL S3 → (∀ S6 : Mem, S6 = (nA S3 o5 7 0) → (wpX7_init S6 o5 (fun u8 S7 => ∀ o9 : Nat, o9 ∉ mL S7 → (∀ S10 : Mem, S10 = (nA S7 o9 12 1) → (∀ o11 : Nat, o11 ∉ mL S10 → (∀ S12 : Mem, S12 = (nA S10 o11 13 1) → (∃ m, m ≤ 513 ∧ wlL_law_28 o1 o5 o9 o11 L xs post m (nI 0) S12))))))))))
set_option maxHeartbeats 40000000 in
set_option maxRecDepth 100000 in
theorem meL_law {p : Program} {l : Launch} {e : Env} {s : State} {m : MethodId} {below : List Frame} {meth : Method} {c : Code} {G : GT} {b L : Nat} {xs : Nat → Int32} {S : Mem} (X : Cx p s m #[Value.ref b] meth c cL_law 9 RL G (fun q : Nat => s.heap.size ≤ q)) (hX : va_X b L xs s s.heap) (hbl : b < s.heap.size) (hbA : ¬ (fun q : Nat => s.heap.size ≤ q) b) (hr : meth.sig.returnType = ret) (hlk : meth.locks = false) (hl9 : l.stackTraces = false) (post : Int32 → Mem → Prop) (hpost : ∀ r S, post r S → r = 1) (hw : wpL_law S L xs post) {H : Heap} {locs : List Loc} {ls : Array Slot} (h : Hx G (fun q : Nat => s.heap.size ≤ q) s.heap H locs S) (hl : lv_has ls 9 [(0, .ref b)]) : W p l e room_1 s m #[Value.ref b] below meth c H locs 0 0 (lw_Z below #[Value.ref b] s) (F0 m 0 ls []) := by
  have hx := X.1
  have hb := X.2.1
  have hown := X.2.2.2.1
  unfold wpL_law at hw
  refine r_new X h 6 (by decide) rfl inX6 tyX6 tyX6_ok q53 q54 q33 (by decide +kernel) ⟨law_c (by omega), law_s (by omega)⟩ dL_law_0 (fun o1 H ho1 h => ?_)
  have hw := hw o1 ho1
  obtain ⟨S2, eS2⟩ : ∃ z : Mem, z = (nA S o1 6 0) := ⟨_, rfl⟩
  rw [← eS2] at h
  have hw := hw S2 eS2
  refine lv_dup hx hb dL_law_3 rfl ?_
  refine rc_I (As := []) (rest := [.ref o1]) X h (meX6_init l G _ _ _ hw) gU_L_101 q33 q55 q56 rfl rfl rfl hdS_X6_init rfl ⟨Nat.le_of_ble_eq_true rfl, Nat.le_of_ble_eq_true rfl⟩ hl.1 rfl (Nat.le_of_ble_eq_true rfl) ⟨law_c (by omega), law_s (by omega)⟩ dL_law_4 (fun u4 S3 H locs hw h => ?_)
  refine lv_astore_n (lv' := [(1, .ref o1), (0, .ref b)]) hx hb dL_law_7 rfl hl (by decide) rfl (fun ls hl => ?_)
  refine r_new X h 7 (by decide) rfl inX7 tyX7 tyX7_ok q842 q843 q38 (by decide +kernel) ⟨law_c (by omega), law_s (by omega)⟩ dL_law_8 (fun o5 H ho5 h => ?_)
  have hw := hw o5 ho5
  obtain ⟨S6, eS6⟩ : ∃ z : Mem, z = (nA S3 o5 7 0) := ⟨_, rfl⟩
  rw [← eS6] at h
  have hw := hw S6 eS6
  refine lv_dup hx hb dL_law_11 rfl ?_
  refine rc_I (As := []) (rest := [.ref o5]) X h (meX7_init l G _ _ _ hw) gU_L_104 q38 q844 q845 rfl rfl rfl hdS_X7_init rfl ⟨Nat.le_of_ble_eq_true rfl, Nat.le_of_ble_eq_true rfl⟩ hl.1 rfl (Nat.le_of_ble_eq_true rfl) ⟨law_c (by omega), law_s (by omega)⟩ dL_law_12 (fun u8 S7 H locs hw h => ?_)
  refine lv_astore_n (lv' := [(2, .ref o5), (1, .ref o1), (0, .ref b)]) hx hb dL_law_15 rfl hl (by decide) rfl (fun ls hl => ?_)
  refine lv_iconst (v := (nI 1)) hx hb dL_law_16 (by decide) ?_
  refine r_newJ X h 1 q1121 (by decide) ⟨law_c (by omega), law_s (by omega)⟩ dL_law_17 (fun o9 H ho9 h => ?_)
  have hw := hw o9 ho9
  obtain ⟨S10, eS10⟩ : ∃ z : Mem, z = (nA S7 o9 12 1) := ⟨_, rfl⟩
  rw [← eS10] at h
  have hw := hw S10 eS10
  refine lv_astore_n (lv' := [(3, .ref o9), (2, .ref o5), (1, .ref o1), (0, .ref b)]) hx hb dL_law_19 rfl hl (by decide) rfl (fun ls hl => ?_)
  refine lv_iconst (v := (nI 1)) hx hb dL_law_20 (by decide) ?_
  refine r_newD X h 1 q1122 (by decide) ⟨law_c (by omega), law_s (by omega)⟩ dL_law_21 (fun o11 H ho11 h => ?_)
  have hw := hw o11 ho11
  obtain ⟨S12, eS12⟩ : ∃ z : Mem, z = (nA S10 o11 13 1) := ⟨_, rfl⟩
  rw [← eS12] at h
  have hw := hw S12 eS12
  refine lv_astore (lv' := [(4, .ref o11), (3, .ref o9), (2, .ref o5), (1, .ref o1), (0, .ref b)]) hx hb dL_law_23 hl (by decide) rfl (fun ls hl => ?_)
  refine lv_iconst (v := (nI 0)) hx hb dL_law_25 (by decide) ?_
  refine lv_istore (lv' := [(5, .int (nI 0)), (4, .ref o11), (3, .ref o9), (2, .ref o5), (1, .ref o1), (0, .ref b)]) hx hb dL_law_26 hl (by decide) rfl (fun ls hl => ?_)
  obtain ⟨n481, hn9, hw⟩ := hw
  exact llL_law_28 X hX hbl hbA hr hlk hl9 o1 o5 o9 o11 post hpost n481 _ _ hw _ _ _ _ _ (by omega) (by omega) h (lv_sub hl [5, 4, 3, 2, 1, 0] rfl)
