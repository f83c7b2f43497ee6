/-! THE CLAIM OUT OF ONE WALK OF THE LAW'S BODY. Your part is whole_start (and what it stands on); all else here is the same for every law, but numbers. -/
def R_law : String := "BinderyDeskLaw"
def lw_P (b : Addr) (xs : List Int32) (args : Array Value) (s : State) : Prop := args = #[.ref b] ∧ s.IntsAt b xs ∧ xs.length ≤ 260 ∧ (Jvm.Cond.and given_1 narrow_1).before args s = true
def lw_Q (_ : Array Value) (s : State) (o : Outcome) (t : State) : Prop := o = .returned (some (.int 1)) ∧ Framed s o t [] 678795 7054424
def lw_Z (below : List Frame) (a : Array Value) (s : State) : State → Prop := fun t => ∃ o, t.status = .running ∧ Ended t below o ∧ lw_Q a s o t
/-- the law's own end, with 1 on the stack, nothing written that was there before, its room as the claim has it -/
theorem lw_ret {p : Program} {l : Launch} {e : Env} {s : State} {m : MethodId} {below : List Frame} {meth : Method} {c : Code} {b : Nat} (hx : p.tables.exec = Jvm.exec) (hb : c.code = code) (hr : meth.sig.returnType = ret) (hlocks : meth.locks = false) {pc : Nat} {H : Heap} {ls : Array Slot} (hdg : decode code pc = .ok (.ireturn, 1)) : W p l e room_1 s m #[Value.ref b] below meth c H [] 678795 7054424 (lw_Z below #[Value.ref b] s) (F0 m pc ls [.int 1]) := by
  intro T hT X
  obtain ⟨fs, hret, hrun, hended, hW, hframe⟩ := X.leave (v := some (.int 1)) (hlocks := hlocks) (fun h => by rw [hr] at h; cases h)
  have hmeth' : T.vm.method? m = some meth := X.method'
  refine ⟨T.setFrames fs, ?_, .returned (some (.int 1)), hrun, hended, rfl, ⟨_, rfl⟩, hW, hframe⟩
  jvm_step X.here [X.here.top, hx, hb, hdg, hmeth', hr, ret, narrow_b1]
  (try refine ⟨rfl, ?_⟩); (try refine ⟨rfl, ?_⟩)
  first | (intro acts; rw [hret _ acts rfl rfl rfl]) | rw [hret _ _ rfl rfl rfl]
  exact Steps.refl _
/-- what holds at the law's entry: the machine, the code, the tables' words (any of lw_tbl by 'hts w (by decide +kernel)'), the script of L ints xs at the cell b, what the Statement gives of the start (any of its parts by flat_of_before) -/
def lw_At (p : Program) (s : State) (m : MethodId) (meth : Method) (c : Code) (b L : Nat) (xs : Nat → Int32) : Prop :=
  p.tables.exec = Jvm.exec ∧ c.code = code ∧ meth.sig.returnType = ret ∧ c.maxLocals = 27 ∧ s.vm.findClass R_law = some m.cls ∧ (∀ w ∈ lw_tbl, w.before #[Value.ref b] s = true) ∧ va_X b L xs s s.heap ∧ b < s.heap.size ∧ meth.locks = false ∧ (Jvm.Cond.and given_1 narrow_1).before #[Value.ref b] s = true
theorem law_c {a : Nat} (h : a ≤ 678795) : a ≤ room_1.cells := h
theorem law_s {a : Nat} (h : a ≤ 7054424) : a ≤ room_1.slots := h
theorem law_end {p : Program} {l : Launch} {e : Env} {s : State} {m : MethodId} {below : List Frame} {meth : Method} {c : Code} {G : GT} {b : Nat} {S : Mem} {H : Heap} {locs : List Loc} {ls : Array Slot} {kc ks pc : Nat} {v : Int32} (X : Cx p s m #[Value.ref b] meth c cL_law 27 RL G (fun q : Nat => s.heap.size ≤ q)) (h : Hx G (fun q : Nat => s.heap.size ≤ q) s.heap H locs S) (hr : meth.sig.returnType = ret) (hlk : meth.locks = false) (hv : v = 1) (hkc : kc ≤ 678795) (hks : ks ≤ 7054424) (d : decode cL_law pc = .ok (.ireturn, 1)) : W p l e room_1 s m #[Value.ref b] below meth c H locs kc ks (lw_Z below #[Value.ref b] s) (F0 m pc ls [.int v]) := by
  subst hv
  refine va_forget (fun q hq => h.2.2.2.2 q hq) ?_
  refine W.widen hkc hks ?_
  exact lw_ret X.1 X.2.1 hr hlk d
def wcL_law_852  (L : Nat) (xs : Nat → Int32) (post : Int32 → Mem → Prop) (J : Nat → Nat → Nat → Nat → Nat → Int64 → Int64 → Int32 → Int32 → Int32 → Mem → Prop) (w1 : Nat) (w2 : Nat) (w3 : Nat) (w4 : Nat) (w5 : Nat) (w6 : Int64) (w8 : Int64) (w10 : Int32) (w11 : Int32) (w12 : Int32) (S : Mem) : Prop := wpL_areJobs S w1 (w6 - w8) w3 w4 (fun x59 S58 => (x59 = 0 → (False)) ∧ (¬ x59 = 0 → (wpL_areLots S58 w1 w2 w5 (fun x62 S61 => (x62 = 0 → (False)) ∧ (¬ x62 = 0 → (∀ x64 : Int32, x64 = (w10 &&& (nI 1)) → (∀ x65 : Int32, x65 = (w12 + (nI 1)) → (J w1 w2 w3 w4 w5 w6 w8 x64 w11 x65 S61))))))))
set_option maxHeartbeats 8000000 in
set_option maxRecDepth 100000 in
theorem lcL_law_852 {p : Program} {l : Launch} {e : Env} {s : State} {m : MethodId} {below : List Frame} {meth : Method} {c : Code} {G : GT} {b L : Nat} {xs : Nat → Int32} (X : Cx p s m #[Value.ref b] meth c cL_law 27 RL G (fun q : Nat => s.heap.size ≤ q)) (hX : va_X b L xs s s.heap) (hbl : b < s.heap.size) (hbA : ¬ (fun q : Nat => s.heap.size ≤ q) b) (hr : meth.sig.returnType = ret) (hlk : meth.locks = false) (hl9 : l.stackTraces = false) (post : Int32 → Mem → Prop) (hpost : ∀ r S, post r S → r = 1) (J : Nat → Nat → Nat → Nat → Nat → Int64 → Int64 → Int32 → Int32 → Int32 → Mem → Prop) (Bc Bs : Nat) (hJ : ∀ (w1 : Nat) (w2 : Nat) (w3 : Nat) (w4 : Nat) (w5 : Nat) (w6 : Int64) (w8 : Int64) (w10 : Int32) (w11 : Int32) (w12 : Int32) (S : Mem), J w1 w2 w3 w4 w5 w6 w8 w10 w11 w12 S → ∀ (H : Heap) (locs : List Loc) (ls : Array Slot) (kc ks : Nat), kc + Bc ≤ 678795 → ks + Bs ≤ 7054424 → Hx G (fun q : Nat => s.heap.size ≤ q) s.heap H locs S → lv_has ls 27 [(0, .ref b), (1, .ref w1), (2, .ref w2), (3, .ref w3), (4, .ref w4), (5, .ref w5), (6, .long w6), (8, .long w8), (10, .int w10), (11, .int w11), (12, .int w12)] → W p l e room_1 s m #[Value.ref b] below meth c H locs kc ks (lw_Z below #[Value.ref b] s) (F0 m 237 ls [])) : ∀ (w1 : Nat) (w2 : Nat) (w3 : Nat) (w4 : Nat) (w5 : Nat) (w6 : Int64) (w8 : Int64) (w10 : Int32) (w11 : Int32) (w12 : Int32) (S : Mem) (hw : wcL_law_852 L xs post J w1 w2 w3 w4 w5 w6 w8 w10 w11 w12 S) (H : Heap) (locs : List Loc) (ls : Array Slot) (kc ks : Nat), kc + (5439 + Bc) ≤ 678795 → ks + (32474 + Bs) ≤ 7054424 → Hx G (fun q : Nat => s.heap.size ≤ q) s.heap H locs S → lv_has ls 27 [(0, .ref b), (1, .ref w1), (2, .ref w2), (3, .ref w3), (4, .ref w4), (5, .ref w5), (6, .long w6), (8, .long w8), (10, .int w10), (11, .int w11), (12, .int w12)] → W p l e room_1 s m #[Value.ref b] below meth c H locs kc ks (lw_Z below #[Value.ref b] s) (F0 m 852 ls []) := by
  have hx := X.1
  have hb := X.2.1
  have hown := X.2.2.2.1
  intro w1 w2 w3 w4 w5 w6 w8 w10 w11 w12 S hw H locs ls kc ks hkc hks h hl
  unfold wcL_law_852 at hw
  refine lv_iload hx hb dL_law_852 (lv_at hl 8 rfl) ?_
  refine lv_aload_n hx hb dL_law_854 rfl (lv_at hl 1 rfl) ?_
  refine lv_lload hx hb dL_law_855 (lv_at hl 6 rfl) ?_
  refine lv_lload hx hb dL_law_857 (lv_at hl 7 rfl) ?_
  refine lv_lsub hx hb dL_law_859 ?_
  refine lv_aload_n hx hb dL_law_860 rfl (lv_at hl 3 rfl) ?_
  refine lv_aload hx hb dL_law_861 (lv_at hl 4 rfl) ?_
  refine rc_S (As := [.ref w1, .long (w6 - w8), .ref w3, .ref w4]) (rest := [.int w10]) X h (meL_areJobs l hl9 G _ _ _ _ _ _ hw) gS_L_154 rfl rfl hdS_L_areJobs rfl ⟨Nat.le_of_ble_eq_true rfl, Nat.le_of_ble_eq_true rfl⟩ hl.1 rfl (Nat.le_of_ble_eq_true rfl) ⟨law_c (by omega), law_s (by omega)⟩ dL_law_863 (fun x59 S58 H locs hw h => ?_)
  refine lv_if_eq (tgt := 883) hx hb dL_law_866 (by decide) (fun c60 => ?_) (fun c60 => ?_)
  · have hw := hw.1 c60
    exact hw.elim
  · have hw := hw.2 c60
    refine lv_aload_n hx hb dL_law_869 rfl (lv_at hl 1 rfl) ?_
    refine lv_aload_n hx hb dL_law_870 rfl (lv_at hl 2 rfl) ?_
    refine lv_aload hx hb dL_law_871 (lv_at hl 5 rfl) ?_
    refine rc_S (As := [.ref w1, .ref w2, .ref w5]) (rest := [.int w10]) X h (meL_areLots l hl9 G _ _ _ _ _ hw) gS_L_158 rfl rfl hdS_L_areLots rfl ⟨Nat.le_of_ble_eq_true rfl, Nat.le_of_ble_eq_true rfl⟩ hl.1 rfl (Nat.le_of_ble_eq_true rfl) ⟨law_c (by omega), law_s (by omega)⟩ dL_law_873 (fun x62 S61 H locs hw h => ?_)
    refine lv_if_eq (tgt := 883) hx hb dL_law_876 (by decide) (fun c63 => ?_) (fun c63 => ?_)
    · have hw := hw.1 c63
      exact hw.elim
    · have hw := hw.2 c63
      refine lv_iconst (v := (nI 1)) hx hb dL_law_879 (by decide) ?_
      refine lv_goto (tgt := 884) hx hb dL_law_880 (by decide) ?_
      refine lv_iand hx hb dL_law_884 ?_
      refine lv_topi (fun x64 ex64 => ?_)
      have hw := hw x64 ex64
      refine lv_istore (lv' := [(10, .int x64), (0, .ref b), (1, .ref w1), (2, .ref w2), (3, .ref w3), (4, .ref w4), (5, .ref w5), (6, .long w6), (8, .long w8), (11, .int w11), (12, .int w12)]) hx hb dL_law_885 hl (by decide) rfl (fun ls hl => ?_)
      obtain ⟨x65, ex65⟩ : ∃ y : Int32, y = (w12 + (nI 1)) := ⟨_, rfl⟩
      have hw := hw x65 ex65
      refine lv_iinc (v := x65) (lv' := [(12, .int x65), (10, .int x64), (0, .ref b), (1, .ref w1), (2, .ref w2), (3, .ref w3), (4, .ref w4), (5, .ref w5), (6, .long w6), (8, .long w8), (11, .int w11)]) hx hb dL_law_887 hl (k := 10) rfl (by rw [ex65]; rfl) (by decide) rfl (fun ls hl => ?_)
      refine lv_goto (tgt := 237) hx hb dL_law_890 (by decide) ?_
      exact hJ _ _ _ _ _ _ _ _ _ _ _ hw _ _ _ _ _ (by omega) (by omega) h (lv_sub hl [2, 3, 4, 5, 6, 7, 8, 9, 1, 10, 0] rfl)
def wcL_law_824  (L : Nat) (xs : Nat → Int32) (post : Int32 → Mem → Prop) (J : Nat → Nat → Nat → Nat → Nat → Int64 → Int64 → Int32 → Int32 → Int32 → Mem → Prop) (w1 : Nat) (w2 : Nat) (w3 : Nat) (w4 : Nat) (w5 : Nat) (w6 : Int64) (w8 : Int64) (w10 : Int32) (w11 : Int32) (w12 : Int32) (w13 : Int64) (w19 : Int32) (S : Mem) : Prop := ∀ x55 : Int32, x55 = (w11 + (nI 4)) → ((0 ≤ w19 → (∀ x57 : Int32, x57 = (w10 &&& (nI 1)) → (wcL_law_852 L xs post J w1 w2 w3 w4 w5 w6 w8 x57 x55 w12 S))) ∧ (¬ 0 ≤ w19 → (wpL_sum S w1 (fun x67 S66 => (¬ (lg_cmp x67 w13) = 0 → (False)) ∧ ((lg_cmp x67 w13) = 0 → (∀ x69 : Int32, x69 = (w10 &&& (nI 1)) → (wcL_law_852 L xs post J w1 w2 w3 w4 w5 w6 w8 x69 x55 w12 S66)))))))
set_option maxHeartbeats 8000000 in
set_option maxRecDepth 100000 in
theorem lcL_law_824 {p : Program} {l : Launch} {e : Env} {s : State} {m : MethodId} {below : List Frame} {meth : Method} {c : Code} {G : GT} {b L : Nat} {xs : Nat → Int32} (X : Cx p s m #[Value.ref b] meth c cL_law 27 RL G (fun q : Nat => s.heap.size ≤ q)) (hX : va_X b L xs s s.heap) (hbl : b < s.heap.size) (hbA : ¬ (fun q : Nat => s.heap.size ≤ q) b) (hr : meth.sig.returnType = ret) (hlk : meth.locks = false) (hl9 : l.stackTraces = false) (post : Int32 → Mem → Prop) (hpost : ∀ r S, post r S → r = 1) (J : Nat → Nat → Nat → Nat → Nat → Int64 → Int64 → Int32 → Int32 → Int32 → Mem → Prop) (Bc Bs : Nat) (hJ : ∀ (w1 : Nat) (w2 : Nat) (w3 : Nat) (w4 : Nat) (w5 : Nat) (w6 : Int64) (w8 : Int64) (w10 : Int32) (w11 : Int32) (w12 : Int32) (S : Mem), J w1 w2 w3 w4 w5 w6 w8 w10 w11 w12 S → ∀ (H : Heap) (locs : List Loc) (ls : Array Slot) (kc ks : Nat), kc + Bc ≤ 678795 → ks + Bs ≤ 7054424 → Hx G (fun q : Nat => s.heap.size ≤ q) s.heap H locs S → lv_has ls 27 [(0, .ref b), (1, .ref w1), (2, .ref w2), (3, .ref w3), (4, .ref w4), (5, .ref w5), (6, .long w6), (8, .long w8), (10, .int w10), (11, .int w11), (12, .int w12)] → W p l e room_1 s m #[Value.ref b] below meth c H locs kc ks (lw_Z below #[Value.ref b] s) (F0 m 237 ls [])) : ∀ (w1 : Nat) (w2 : Nat) (w3 : Nat) (w4 : Nat) (w5 : Nat) (w6 : Int64) (w8 : Int64) (w10 : Int32) (w11 : Int32) (w12 : Int32) (w13 : Int64) (w19 : Int32) (S : Mem) (hw : wcL_law_824 L xs post J w1 w2 w3 w4 w5 w6 w8 w10 w11 w12 w13 w19 S) (H : Heap) (locs : List Loc) (ls : Array Slot) (kc ks : Nat), kc + (5581 + Bc) ≤ 678795 → ks + (33326 + Bs) ≤ 7054424 → Hx G (fun q : Nat => s.heap.size ≤ q) s.heap H locs S → lv_has ls 27 [(0, .ref b), (1, .ref w1), (2, .ref w2), (3, .ref w3), (4, .ref w4), (5, .ref w5), (6, .long w6), (8, .long w8), (10, .int w10), (11, .int w11), (12, .int w12), (13, .long w13), (19, .int w19)] → W p l e room_1 s m #[Value.ref b] below meth c H locs kc ks (lw_Z below #[Value.ref b] s) (F0 m 824 ls []) := by
  have hx := X.1
  have hb := X.2.1
  have hown := X.2.2.2.1
  intro w1 w2 w3 w4 w5 w6 w8 w10 w11 w12 w13 w19 S hw H locs ls kc ks hkc hks h hl
  unfold wcL_law_824 at hw
  obtain ⟨x55, ex55⟩ : ∃ y : Int32, y = (w11 + (nI 4)) := ⟨_, rfl⟩
  have hw := hw x55 ex55
  refine lv_iinc (v := x55) (lv' := [(11, .int x55), (0, .ref b), (1, .ref w1), (2, .ref w2), (3, .ref w3), (4, .ref w4), (5, .ref w5), (6, .long w6), (8, .long w8), (10, .int w10), (12, .int w12), (13, .long w13), (19, .int w19)]) hx hb dL_law_824 hl (k := 9) rfl (by rw [ex55]; rfl) (by decide) rfl (fun ls hl => ?_)
  refine lv_iload hx hb dL_law_827 (lv_at hl 9 rfl) ?_
  refine lv_iload hx hb dL_law_829 (lv_at hl 12 rfl) ?_
  refine lv_if_ge (tgt := 844) hx hb dL_law_831 (by decide) (fun c56 => ?_) (fun c56 => ?_)
  · have hw := hw.1 c56
    refine lv_iconst (v := (nI 1)) hx hb dL_law_844 (by decide) ?_
    refine lv_goto (tgt := 849) hx hb dL_law_845 (by decide) ?_
    refine lv_iand hx hb dL_law_849 ?_
    refine lv_topi (fun x57 ex57 => ?_)
    have hw := hw x57 ex57
    refine lv_istore (lv' := [(10, .int x57), (11, .int x55), (0, .ref b), (1, .ref w1), (2, .ref w2), (3, .ref w3), (4, .ref w4), (5, .ref w5), (6, .long w6), (8, .long w8), (12, .int w12), (13, .long w13), (19, .int w19)]) hx hb dL_law_850 hl (by decide) rfl (fun ls hl => ?_)
    exact lcL_law_852 X hX hbl hbA hr hlk hl9 post hpost _ Bc Bs hJ _ _ _ _ _ _ _ _ _ _ _ hw _ _ _ _ _ (by omega) (by omega) h (lv_sub hl [2, 3, 4, 5, 6, 7, 8, 9, 0, 1, 10] rfl)
  · have hw := hw.2 c56
    refine lv_aload_n hx hb dL_law_834 rfl (lv_at hl 2 rfl) ?_
    refine rc_S (As := [.ref w1]) (rest := [.int w10]) X h (meL_sum l hl9 G _ _ _ hw) gS_L_114 rfl rfl hdS_L_sum rfl ⟨Nat.le_of_ble_eq_true rfl, Nat.le_of_ble_eq_true rfl⟩ hl.1 rfl (Nat.le_of_ble_eq_true rfl) ⟨law_c (by omega), law_s (by omega)⟩ dL_law_835 (fun x67 S66 H locs hw h => ?_)
    refine lv_lload hx hb dL_law_838 (lv_at hl 11 rfl) ?_
    refine W.lcmp hx hb dL_law_840 ?_
    refine lv_if_ne (tgt := 848) hx hb dL_law_841 (by decide) (fun c68 => ?_) (fun c68 => ?_)
    · have hw := hw.1 c68
      exact hw.elim
    · have hw := hw.2 c68
      refine lv_iconst (v := (nI 1)) hx hb dL_law_844 (by decide) ?_
      refine lv_goto (tgt := 849) hx hb dL_law_845 (by decide) ?_
      refine lv_iand hx hb dL_law_849 ?_
      refine lv_topi (fun x69 ex69 => ?_)
      have hw := hw x69 ex69
      refine lv_istore (lv' := [(10, .int x69), (11, .int x55), (0, .ref b), (1, .ref w1), (2, .ref w2), (3, .ref w3), (4, .ref w4), (5, .ref w5), (6, .long w6), (8, .long w8), (12, .int w12), (13, .long w13), (19, .int w19)]) hx hb dL_law_850 hl (by decide) rfl (fun ls hl => ?_)
      exact lcL_law_852 X hX hbl hbA hr hlk hl9 post hpost _ Bc Bs hJ _ _ _ _ _ _ _ _ _ _ _ hw _ _ _ _ _ (by omega) (by omega) h (lv_sub hl [2, 3, 4, 5, 6, 7, 8, 9, 0, 1, 10] rfl)
def wcL_law_719  (L : Nat) (xs : Nat → Int32) (post : Int32 → Mem → Prop) (J : Nat → Nat → Nat → Nat → Nat → Int64 → Int64 → Int32 → Int32 → Int32 → Mem → Prop) (w1 : Nat) (w2 : Nat) (w3 : Nat) (w4 : Nat) (w5 : Nat) (w6 : Int64) (w8 : Int64) (w11 : Int32) (w12 : Int32) (w13 : Int64) (w17 : Int32) (w20 : Int32) (S : Mem) : Prop := wpL_lacks S w1 w17 w20 (fun x47 S46 => wpL_bind S46 w1 w17 w20 (fun x49 S48 => (x49 < 0 → ((¬ x47 = 0 → ((¬ (nI 0) = (nI 0) → (False)) ∧ ((nI 0) = (nI 0) → ((x49 < 0 → ((x49 < 0 → (wcL_law_824 L xs post J w1 w2 w3 w4 w5 w6 w8 (nI 1) w11 w12 w13 x49 S48)) ∧ (¬ x49 < 0 → (isK S48 w5 8 ∧ (vp_in x49 (mN S48 w5) ∧ (∀ S72 : Mem, S72 = (sI S48 w5 x49.toNatClampNeg w17) → (wpL_sheets S72 w1 w17 (fun x74 S73 => wcL_law_824 L xs post J w1 w2 w3 w4 w5 w6 (w8 + (w20.toInt64 * x74.toInt64)) (nI 1) w11 w12 w13 x49 S73)))))))) ∧ (¬ x49 < 0 → (isK S48 w1 6 ∧ (wpX6_lots S48 w1 (fun x77 S75 => (¬ x49 = (x77 - (nI 1)) → (False)) ∧ (x49 = (x77 - (nI 1)) → (wpL_copies S75 w1 x49 (fun x80 S79 => (¬ x80 = w20 → (False)) ∧ (x80 = w20 → ((x49 < 0 → (wcL_law_824 L xs post J w1 w2 w3 w4 w5 w6 w8 (nI 1) w11 w12 w13 x49 S79)) ∧ (¬ x49 < 0 → (isK S79 w5 8 ∧ (vp_in x49 (mN S79 w5) ∧ (∀ S85 : Mem, S85 = (sI S79 w5 x49.toNatClampNeg w17) → (wpL_sheets S85 w1 w17 (fun x87 S86 => wcL_law_824 L xs post J w1 w2 w3 w4 w5 w6 (w8 + (w20.toInt64 * x87.toInt64)) (nI 1) w11 w12 w13 x49 S86))))))))))))))))))) ∧ (x47 = 0 → ((¬ (nI 0) = (nI 1) → (False)) ∧ ((nI 0) = (nI 1) → ((x49 < 0 → ((x49 < 0 → (wcL_law_824 L xs post J w1 w2 w3 w4 w5 w6 w8 (nI 1) w11 w12 w13 x49 S48)) ∧ (¬ x49 < 0 → (isK S48 w5 8 ∧ (vp_in x49 (mN S48 w5) ∧ (∀ S93 : Mem, S93 = (sI S48 w5 x49.toNatClampNeg w17) → (wpL_sheets S93 w1 w17 (fun x95 S94 => wcL_law_824 L xs post J w1 w2 w3 w4 w5 w6 (w8 + (w20.toInt64 * x95.toInt64)) (nI 1) w11 w12 w13 x49 S94)))))))) ∧ (¬ x49 < 0 → (isK S48 w1 6 ∧ (wpX6_lots S48 w1 (fun x98 S96 => (¬ x49 = (x98 - (nI 1)) → (False)) ∧ (x49 = (x98 - (nI 1)) → (wpL_copies S96 w1 x49 (fun x101 S100 => (¬ x101 = w20 → (False)) ∧ (x101 = w20 → ((x49 < 0 → (wcL_law_824 L xs post J w1 w2 w3 w4 w5 w6 w8 (nI 1) w11 w12 w13 x49 S100)) ∧ (¬ x49 < 0 → (isK S100 w5 8 ∧ (vp_in x49 (mN S100 w5) ∧ (∀ S106 : Mem, S106 = (sI S100 w5 x49.toNatClampNeg w17) → (wpL_sheets S106 w1 w17 (fun x108 S107 => wcL_law_824 L xs post J w1 w2 w3 w4 w5 w6 (w8 + (w20.toInt64 * x108.toInt64)) (nI 1) w11 w12 w13 x49 S107))))))))))))))))))))) ∧ (¬ x49 < 0 → ((¬ x47 = 0 → ((¬ (nI 1) = (nI 0) → (False)) ∧ ((nI 1) = (nI 0) → ((x49 < 0 → ((x49 < 0 → (wcL_law_824 L xs post J w1 w2 w3 w4 w5 w6 w8 (nI 1) w11 w12 w13 x49 S48)) ∧ (¬ x49 < 0 → (isK S48 w5 8 ∧ (vp_in x49 (mN S48 w5) ∧ (∀ S115 : Mem, S115 = (sI S48 w5 x49.toNatClampNeg w17) → (wpL_sheets S115 w1 w17 (fun x117 S116 => wcL_law_824 L xs post J w1 w2 w3 w4 w5 w6 (w8 + (w20.toInt64 * x117.toInt64)) (nI 1) w11 w12 w13 x49 S116)))))))) ∧ (¬ x49 < 0 → (isK S48 w1 6 ∧ (wpX6_lots S48 w1 (fun x120 S118 => (¬ x49 = (x120 - (nI 1)) → (False)) ∧ (x49 = (x120 - (nI 1)) → (wpL_copies S118 w1 x49 (fun x123 S122 => (¬ x123 = w20 → (False)) ∧ (x123 = w20 → ((x49 < 0 → (wcL_law_824 L xs post J w1 w2 w3 w4 w5 w6 w8 (nI 1) w11 w12 w13 x49 S122)) ∧ (¬ x49 < 0 → (isK S122 w5 8 ∧ (vp_in x49 (mN S122 w5) ∧ (∀ S128 : Mem, S128 = (sI S122 w5 x49.toNatClampNeg w17) → (wpL_sheets S128 w1 w17 (fun x130 S129 => wcL_law_824 L xs post J w1 w2 w3 w4 w5 w6 (w8 + (w20.toInt64 * x130.toInt64)) (nI 1) w11 w12 w13 x49 S129))))))))))))))))))) ∧ (x47 = 0 → ((¬ (nI 1) = (nI 1) → (False)) ∧ ((nI 1) = (nI 1) → ((x49 < 0 → ((x49 < 0 → (wcL_law_824 L xs post J w1 w2 w3 w4 w5 w6 w8 (nI 1) w11 w12 w13 x49 S48)) ∧ (¬ x49 < 0 → (isK S48 w5 8 ∧ (vp_in x49 (mN S48 w5) ∧ (∀ S136 : Mem, S136 = (sI S48 w5 x49.toNatClampNeg w17) → (wpL_sheets S136 w1 w17 (fun x138 S137 => wcL_law_824 L xs post J w1 w2 w3 w4 w5 w6 (w8 + (w20.toInt64 * x138.toInt64)) (nI 1) w11 w12 w13 x49 S137)))))))) ∧ (¬ x49 < 0 → (isK S48 w1 6 ∧ (wpX6_lots S48 w1 (fun x141 S139 => (¬ x49 = (x141 - (nI 1)) → (False)) ∧ (x49 = (x141 - (nI 1)) → (wpL_copies S139 w1 x49 (fun x144 S143 => (¬ x144 = w20 → (False)) ∧ (x144 = w20 → ((x49 < 0 → (wcL_law_824 L xs post J w1 w2 w3 w4 w5 w6 w8 (nI 1) w11 w12 w13 x49 S143)) ∧ (¬ x49 < 0 → (isK S143 w5 8 ∧ (vp_in x49 (mN S143 w5) ∧ (∀ S149 : Mem, S149 = (sI S143 w5 x49.toNatClampNeg w17) → (wpL_sheets S149 w1 w17 (fun x151 S150 => wcL_law_824 L xs post J w1 w2 w3 w4 w5 w6 (w8 + (w20.toInt64 * x151.toInt64)) (nI 1) w11 w12 w13 x49 S150)))))))))))))))))))))))
set_option maxHeartbeats 8000000 in
set_option maxRecDepth 100000 in
theorem lcL_law_719 {p : Program} {l : Launch} {e : Env} {s : State} {m : MethodId} {below : List Frame} {meth : Method} {c : Code} {G : GT} {b L : Nat} {xs : Nat → Int32} (X : Cx p s m #[Value.ref b] meth c cL_law 27 RL G (fun q : Nat => s.heap.size ≤ q)) (hX : va_X b L xs s s.heap) (hbl : b < s.heap.size) (hbA : ¬ (fun q : Nat => s.heap.size ≤ q) b) (hr : meth.sig.returnType = ret) (hlk : meth.locks = false) (hl9 : l.stackTraces = false) (post : Int32 → Mem → Prop) (hpost : ∀ r S, post r S → r = 1) (J : Nat → Nat → Nat → Nat → Nat → Int64 → Int64 → Int32 → Int32 → Int32 → Mem → Prop) (Bc Bs : Nat) (hJ : ∀ (w1 : Nat) (w2 : Nat) (w3 : Nat) (w4 : Nat) (w5 : Nat) (w6 : Int64) (w8 : Int64) (w10 : Int32) (w11 : Int32) (w12 : Int32) (S : Mem), J w1 w2 w3 w4 w5 w6 w8 w10 w11 w12 S → ∀ (H : Heap) (locs : List Loc) (ls : Array Slot) (kc ks : Nat), kc + Bc ≤ 678795 → ks + Bs ≤ 7054424 → Hx G (fun q : Nat => s.heap.size ≤ q) s.heap H locs S → lv_has ls 27 [(0, .ref b), (1, .ref w1), (2, .ref w2), (3, .ref w3), (4, .ref w4), (5, .ref w5), (6, .long w6), (8, .long w8), (10, .int w10), (11, .int w11), (12, .int w12)] → W p l e room_1 s m #[Value.ref b] below meth c H locs kc ks (lw_Z below #[Value.ref b] s) (F0 m 237 ls [])) : ∀ (w1 : Nat) (w2 : Nat) (w3 : Nat) (w4 : Nat) (w5 : Nat) (w6 : Int64) (w8 : Int64) (w11 : Int32) (w12 : Int32) (w13 : Int64) (w17 : Int32) (w20 : Int32) (S : Mem) (hw : wcL_law_719 L xs post J w1 w2 w3 w4 w5 w6 w8 w11 w12 w13 w17 w20 S) (H : Heap) (locs : List Loc) (ls : Array Slot) (kc ks : Nat), kc + (5593 + Bc) ≤ 678795 → ks + (33417 + Bs) ≤ 7054424 → Hx G (fun q : Nat => s.heap.size ≤ q) s.heap H locs S → lv_has ls 27 [(0, .ref b), (1, .ref w1), (2, .ref w2), (3, .ref w3), (4, .ref w4), (5, .ref w5), (6, .long w6), (8, .long w8), (11, .int w11), (12, .int w12), (13, .long w13), (17, .int w17), (20, .int w20)] → W p l e room_1 s m #[Value.ref b] below meth c H locs kc ks (lw_Z below #[Value.ref b] s) (F0 m 719 ls []) := by
  have hx := X.1
  have hb := X.2.1
  have hown := X.2.2.2.1
  intro w1 w2 w3 w4 w5 w6 w8 w11 w12 w13 w17 w20 S hw H locs ls kc ks hkc hks h hl
  unfold wcL_law_719 at hw
  refine lv_aload_n hx hb dL_law_719 rfl (lv_at hl 1 rfl) ?_
  refine lv_iload hx hb dL_law_720 (lv_at hl 11 rfl) ?_
  refine lv_iload hx hb dL_law_722 (lv_at hl 12 rfl) ?_
  refine rc_H (As := [.ref w1, .int w17, .int w20]) (rest := []) X h (meL_lacks l hl9 G _ _ _ _ _ hw) gS_L_143 rfl rfl hdS_L_lacks rfl ⟨Nat.le_of_ble_eq_true rfl, Nat.le_of_ble_eq_true rfl⟩ hl.1 rfl (Nat.le_of_ble_eq_true rfl) ⟨law_c (by omega), law_s (by omega)⟩ dL_law_724 (fun x47 S46 H locs hw h => ?_)
  refine lv_istore (lv' := [(21, .int x47), (0, .ref b), (1, .ref w1), (2, .ref w2), (3, .ref w3), (4, .ref w4), (5, .ref w5), (6, .long w6), (8, .long w8), (11, .int w11), (12, .int w12), (13, .long w13), (17, .int w17), (20, .int w20)]) hx hb dL_law_727 hl (by decide) rfl (fun ls hl => ?_)
  refine lv_aload_n hx hb dL_law_729 rfl (lv_at hl 2 rfl) ?_
  refine lv_iload hx hb dL_law_730 (lv_at hl 12 rfl) ?_
  refine lv_iload hx hb dL_law_732 (lv_at hl 13 rfl) ?_
  refine rc_H (As := [.ref w1, .int w17, .int w20]) (rest := []) X h (meL_bind l hl9 G _ _ _ _ _ hw) gS_L_145 rfl rfl hdS_L_bind rfl ⟨Nat.le_of_ble_eq_true rfl, Nat.le_of_ble_eq_true rfl⟩ hl.1 rfl (Nat.le_of_ble_eq_true rfl) ⟨law_c (by omega), law_s (by omega)⟩ dL_law_734 (fun x49 S48 H locs hw h => ?_)
  refine lv_istore (lv' := [(19, .int x49), (21, .int x47), (0, .ref b), (1, .ref w1), (2, .ref w2), (3, .ref w3), (4, .ref w4), (5, .ref w5), (6, .long w6), (8, .long w8), (11, .int w11), (12, .int w12), (13, .long w13), (17, .int w17), (20, .int w20)]) hx hb dL_law_737 hl (by decide) rfl (fun ls hl => ?_)
  refine lv_iload hx hb dL_law_739 (lv_at hl 0 rfl) ?_
  refine lv_if_lt (tgt := 748) hx hb dL_law_741 (by decide) (fun c50 => ?_) (fun c50 => ?_)
  · have hw := hw.1 c50
    refine lv_iconst (v := (nI 0)) hx hb dL_law_748 (by decide) ?_
    refine lv_iload hx hb dL_law_749 (lv_at hl 1 rfl) ?_
    refine lv_if_ne (tgt := 758) hx hb dL_law_751 (by decide) (fun c51 => ?_) (fun c51 => ?_)
    · have hw := hw.1 c51
      refine lv_iconst (v := (nI 0)) hx hb dL_law_758 (by decide) ?_
      refine lv_icmp_ne (tgt := 793) hx hb dL_law_759 (by decide) (fun c52 => ?_) (fun c52 => ?_)
      · have hw := hw.1 c52
        exact hw.elim
      · have hw := hw.2 c52
        refine lv_iload hx hb dL_law_762 (lv_at hl 0 rfl) ?_
        refine lv_if_lt (tgt := 789) hx hb dL_law_764 (by decide) (fun c53 => ?_) (fun c53 => ?_)
        · have hw := hw.1 c53
          refine lv_iconst (v := (nI 1)) hx hb dL_law_789 (by decide) ?_
          refine lv_goto (tgt := 794) hx hb dL_law_790 (by decide) ?_
          refine lv_istore (lv' := [(10, .int (nI 1)), (19, .int x49), (21, .int x47), (0, .ref b), (1, .ref w1), (2, .ref w2), (3, .ref w3), (4, .ref w4), (5, .ref w5), (6, .long w6), (8, .long w8), (11, .int w11), (12, .int w12), (13, .long w13), (17, .int w17), (20, .int w20)]) hx hb dL_law_794 hl (by decide) rfl (fun ls hl => ?_)
          refine lv_iload hx hb dL_law_796 (lv_at hl 1 rfl) ?_
          refine lv_if_lt (tgt := 824) hx hb dL_law_798 (by decide) (fun c54 => ?_) (fun c54 => ?_)
          · have hw := hw.1 c54
            exact lcL_law_824 X hX hbl hbA hr hlk hl9 post hpost _ Bc Bs hJ _ _ _ _ _ _ _ _ _ _ _ _ _ hw _ _ _ _ _ (by omega) (by omega) h (lv_sub hl [3, 4, 5, 6, 7, 8, 9, 10, 0, 11, 12, 13, 1] rfl)
          · have hw := hw.2 c54
            refine lv_aload hx hb dL_law_801 (lv_at hl 8 rfl) ?_
            refine lv_iload hx hb dL_law_803 (lv_at hl 1 rfl) ?_
            refine lv_iload hx hb dL_law_805 (lv_at hl 14 rfl) ?_
            obtain ⟨k70, hw⟩ := hw
            obtain ⟨v71, hw⟩ := hw
            refine r_iast X h k70 v71 dL_law_807 (fun H locs h => ?_)
            obtain ⟨S72, eS72⟩ : ∃ z : Mem, z = (sI S48 w5 x49.toNatClampNeg w17) := ⟨_, rfl⟩
            rw [← eS72] at h
            have hw := hw S72 eS72
            refine lv_lload hx hb dL_law_808 (lv_at hl 10 rfl) ?_
            refine lv_iload hx hb dL_law_810 (lv_at hl 15 rfl) ?_
            refine lv_i2l (v := w20.toInt64) hx hb dL_law_812 rfl ?_
            refine lv_aload_n hx hb dL_law_813 rfl (lv_at hl 4 rfl) ?_
            refine lv_iload hx hb dL_law_814 (lv_at hl 14 rfl) ?_
            refine rc_H (As := [.ref w1, .int w17]) (rest := [.long w20.toInt64, .long w8]) X h (meL_sheets l hl9 G _ _ _ _ hw) gS_L_152 rfl rfl hdS_L_sheets rfl ⟨Nat.le_of_ble_eq_true rfl, Nat.le_of_ble_eq_true rfl⟩ hl.1 rfl (Nat.le_of_ble_eq_true rfl) ⟨law_c (by omega), law_s (by omega)⟩ dL_law_816 (fun x74 S73 H locs hw h => ?_)
            refine lv_i2l (v := x74.toInt64) hx hb dL_law_819 rfl ?_
            refine lv_lmul hx hb dL_law_820 ?_
            refine lv_ladd hx hb dL_law_821 ?_
            refine lv_lstore (lv' := [(8, .long (w8 + (w20.toInt64 * x74.toInt64))), (10, .int (nI 1)), (19, .int x49), (21, .int x47), (0, .ref b), (1, .ref w1), (2, .ref w2), (3, .ref w3), (4, .ref w4), (5, .ref w5), (6, .long w6), (11, .int w11), (12, .int w12), (13, .long w13), (17, .int w17), (20, .int w20)]) hx hb dL_law_822 hl (by decide) rfl (fun ls hl => ?_)
            exact lcL_law_824 X hX hbl hbA hr hlk hl9 post hpost _ Bc Bs hJ _ _ _ _ _ _ _ _ _ _ _ _ _ hw _ _ _ _ _ (by omega) (by omega) h (lv_sub hl [4, 5, 6, 7, 8, 9, 10, 0, 1, 11, 12, 13, 2] rfl)
        · have hw := hw.2 c53
          refine lv_iload hx hb dL_law_767 (lv_at hl 0 rfl) ?_
          refine lv_aload_n hx hb dL_law_769 rfl (lv_at hl 3 rfl) ?_
          obtain ⟨k76, hw⟩ := hw
          refine rc_V (As := []) (rest := [.int x49]) X h k76 (by decide) rfl (meX6_lots l G _ _ _ hw) gV_L_147 rfl rfl hdV_X6_lots rfl ⟨Nat.le_of_ble_eq_true rfl, Nat.le_of_ble_eq_true rfl⟩ hl.1 rfl (Nat.le_of_ble_eq_true rfl) ⟨law_c (by omega), law_s (by omega)⟩ dL_law_770 (fun x77 S75 H locs hw h => ?_)
          refine lv_iconst (v := (nI 1)) hx hb dL_law_773 (by decide) ?_
          refine lv_isub hx hb dL_law_774 ?_
          refine lv_icmp_ne (tgt := 793) hx hb dL_law_775 (by decide) (fun c78 => ?_) (fun c78 => ?_)
          · have hw := hw.1 c78
            exact hw.elim
          · have hw := hw.2 c78
            refine lv_aload_n hx hb dL_law_778 rfl (lv_at hl 3 rfl) ?_
            refine lv_iload hx hb dL_law_779 (lv_at hl 0 rfl) ?_
            refine rc_H (As := [.ref w1, .int x49]) (rest := []) X h (meL_copies l hl9 G _ _ _ _ hw) gS_L_150 rfl rfl hdS_L_copies rfl ⟨Nat.le_of_ble_eq_true rfl, Nat.le_of_ble_eq_true rfl⟩ hl.1 rfl (Nat.le_of_ble_eq_true rfl) ⟨law_c (by omega), law_s (by omega)⟩ dL_law_781 (fun x80 S79 H locs hw h => ?_)
            refine lv_iload hx hb dL_law_784 (lv_at hl 14 rfl) ?_
            refine lv_icmp_ne (tgt := 793) hx hb dL_law_786 (by decide) (fun c81 => ?_) (fun c81 => ?_)
            · have hw := hw.1 c81
              exact hw.elim
            · have hw := hw.2 c81
              refine lv_iconst (v := (nI 1)) hx hb dL_law_789 (by decide) ?_
              refine lv_goto (tgt := 794) hx hb dL_law_790 (by decide) ?_
              refine lv_istore (lv' := [(10, .int (nI 1)), (19, .int x49), (21, .int x47), (0, .ref b), (1, .ref w1), (2, .ref w2), (3, .ref w3), (4, .ref w4), (5, .ref w5), (6, .long w6), (8, .long w8), (11, .int w11), (12, .int w12), (13, .long w13), (17, .int w17), (20, .int w20)]) hx hb dL_law_794 hl (by decide) rfl (fun ls hl => ?_)
              refine lv_iload hx hb dL_law_796 (lv_at hl 1 rfl) ?_
              refine lv_if_lt (tgt := 824) hx hb dL_law_798 (by decide) (fun c82 => ?_) (fun c82 => ?_)
              · have hw := hw.1 c82
                exact lcL_law_824 X hX hbl hbA hr hlk hl9 post hpost _ Bc Bs hJ _ _ _ _ _ _ _ _ _ _ _ _ _ hw _ _ _ _ _ (by omega) (by omega) h (lv_sub hl [3, 4, 5, 6, 7, 8, 9, 10, 0, 11, 12, 13, 1] rfl)
              · have hw := hw.2 c82
                refine lv_aload hx hb dL_law_801 (lv_at hl 8 rfl) ?_
                refine lv_iload hx hb dL_law_803 (lv_at hl 1 rfl) ?_
                refine lv_iload hx hb dL_law_805 (lv_at hl 14 rfl) ?_
                obtain ⟨k83, hw⟩ := hw
                obtain ⟨v84, hw⟩ := hw
                refine r_iast X h k83 v84 dL_law_807 (fun H locs h => ?_)
                obtain ⟨S85, eS85⟩ : ∃ z : Mem, z = (sI S79 w5 x49.toNatClampNeg w17) := ⟨_, rfl⟩
                rw [← eS85] at h
                have hw := hw S85 eS85
                refine lv_lload hx hb dL_law_808 (lv_at hl 10 rfl) ?_
                refine lv_iload hx hb dL_law_810 (lv_at hl 15 rfl) ?_
                refine lv_i2l (v := w20.toInt64) hx hb dL_law_812 rfl ?_
                refine lv_aload_n hx hb dL_law_813 rfl (lv_at hl 4 rfl) ?_
                refine lv_iload hx hb dL_law_814 (lv_at hl 14 rfl) ?_
                refine rc_H (As := [.ref w1, .int w17]) (rest := [.long w20.toInt64, .long w8]) X h (meL_sheets l hl9 G _ _ _ _ hw) gS_L_152 rfl rfl hdS_L_sheets rfl ⟨Nat.le_of_ble_eq_true rfl, Nat.le_of_ble_eq_true rfl⟩ hl.1 rfl (Nat.le_of_ble_eq_true rfl) ⟨law_c (by omega), law_s (by omega)⟩ dL_law_816 (fun x87 S86 H locs hw h => ?_)
                refine lv_i2l (v := x87.toInt64) hx hb dL_law_819 rfl ?_
                refine lv_lmul hx hb dL_law_820 ?_
                refine lv_ladd hx hb dL_law_821 ?_
                refine lv_lstore (lv' := [(8, .long (w8 + (w20.toInt64 * x87.toInt64))), (10, .int (nI 1)), (19, .int x49), (21, .int x47), (0, .ref b), (1, .ref w1), (2, .ref w2), (3, .ref w3), (4, .ref w4), (5, .ref w5), (6, .long w6), (11, .int w11), (12, .int w12), (13, .long w13), (17, .int w17), (20, .int w20)]) hx hb dL_law_822 hl (by decide) rfl (fun ls hl => ?_)
                exact lcL_law_824 X hX hbl hbA hr hlk hl9 post hpost _ Bc Bs hJ _ _ _ _ _ _ _ _ _ _ _ _ _ hw _ _ _ _ _ (by omega) (by omega) h (lv_sub hl [4, 5, 6, 7, 8, 9, 10, 0, 1, 11, 12, 13, 2] rfl)
    · have hw := hw.2 c51
      refine lv_iconst (v := (nI 1)) hx hb dL_law_754 (by decide) ?_
      refine lv_goto (tgt := 759) hx hb dL_law_755 (by decide) ?_
      refine lv_icmp_ne (tgt := 793) hx hb dL_law_759 (by decide) (fun c88 => ?_) (fun c88 => ?_)
      · have hw := hw.1 c88
        exact hw.elim
      · have hw := hw.2 c88
        refine lv_iload hx hb dL_law_762 (lv_at hl 0 rfl) ?_
        refine lv_if_lt (tgt := 789) hx hb dL_law_764 (by decide) (fun c89 => ?_) (fun c89 => ?_)
        · have hw := hw.1 c89
          refine lv_iconst (v := (nI 1)) hx hb dL_law_789 (by decide) ?_
          refine lv_goto (tgt := 794) hx hb dL_law_790 (by decide) ?_
          refine lv_istore (lv' := [(10, .int (nI 1)), (19, .int x49), (21, .int x47), (0, .ref b), (1, .ref w1), (2, .ref w2), (3, .ref w3), (4, .ref w4), (5, .ref w5), (6, .long w6), (8, .long w8), (11, .int w11), (12, .int w12), (13, .long w13), (17, .int w17), (20, .int w20)]) hx hb dL_law_794 hl (by decide) rfl (fun ls hl => ?_)
          refine lv_iload hx hb dL_law_796 (lv_at hl 1 rfl) ?_
          refine lv_if_lt (tgt := 824) hx hb dL_law_798 (by decide) (fun c90 => ?_) (fun c90 => ?_)
          · have hw := hw.1 c90
            exact lcL_law_824 X hX hbl hbA hr hlk hl9 post hpost _ Bc Bs hJ _ _ _ _ _ _ _ _ _ _ _ _ _ hw _ _ _ _ _ (by omega) (by omega) h (lv_sub hl [3, 4, 5, 6, 7, 8, 9, 10, 0, 11, 12, 13, 1] rfl)
          · have hw := hw.2 c90
            refine lv_aload hx hb dL_law_801 (lv_at hl 8 rfl) ?_
            refine lv_iload hx hb dL_law_803 (lv_at hl 1 rfl) ?_
            refine lv_iload hx hb dL_law_805 (lv_at hl 14 rfl) ?_
            obtain ⟨k91, hw⟩ := hw
            obtain ⟨v92, hw⟩ := hw
            refine r_iast X h k91 v92 dL_law_807 (fun H locs h => ?_)
            obtain ⟨S93, eS93⟩ : ∃ z : Mem, z = (sI S48 w5 x49.toNatClampNeg w17) := ⟨_, rfl⟩
            rw [← eS93] at h
            have hw := hw S93 eS93
            refine lv_lload hx hb dL_law_808 (lv_at hl 10 rfl) ?_
            refine lv_iload hx hb dL_law_810 (lv_at hl 15 rfl) ?_
            refine lv_i2l (v := w20.toInt64) hx hb dL_law_812 rfl ?_
            refine lv_aload_n hx hb dL_law_813 rfl (lv_at hl 4 rfl) ?_
            refine lv_iload hx hb dL_law_814 (lv_at hl 14 rfl) ?_
            refine rc_H (As := [.ref w1, .int w17]) (rest := [.long w20.toInt64, .long w8]) X h (meL_sheets l hl9 G _ _ _ _ hw) gS_L_152 rfl rfl hdS_L_sheets rfl ⟨Nat.le_of_ble_eq_true rfl, Nat.le_of_ble_eq_true rfl⟩ hl.1 rfl (Nat.le_of_ble_eq_true rfl) ⟨law_c (by omega), law_s (by omega)⟩ dL_law_816 (fun x95 S94 H locs hw h => ?_)
            refine lv_i2l (v := x95.toInt64) hx hb dL_law_819 rfl ?_
            refine lv_lmul hx hb dL_law_820 ?_
            refine lv_ladd hx hb dL_law_821 ?_
            refine lv_lstore (lv' := [(8, .long (w8 + (w20.toInt64 * x95.toInt64))), (10, .int (nI 1)), (19, .int x49), (21, .int x47), (0, .ref b), (1, .ref w1), (2, .ref w2), (3, .ref w3), (4, .ref w4), (5, .ref w5), (6, .long w6), (11, .int w11), (12, .int w12), (13, .long w13), (17, .int w17), (20, .int w20)]) hx hb dL_law_822 hl (by decide) rfl (fun ls hl => ?_)
            exact lcL_law_824 X hX hbl hbA hr hlk hl9 post hpost _ Bc Bs hJ _ _ _ _ _ _ _ _ _ _ _ _ _ hw _ _ _ _ _ (by omega) (by omega) h (lv_sub hl [4, 5, 6, 7, 8, 9, 10, 0, 1, 11, 12, 13, 2] rfl)
        · have hw := hw.2 c89
          refine lv_iload hx hb dL_law_767 (lv_at hl 0 rfl) ?_
          refine lv_aload_n hx hb dL_law_769 rfl (lv_at hl 3 rfl) ?_
          obtain ⟨k97, hw⟩ := hw
          refine rc_V (As := []) (rest := [.int x49]) X h k97 (by decide) rfl (meX6_lots l G _ _ _ hw) gV_L_147 rfl rfl hdV_X6_lots rfl ⟨Nat.le_of_ble_eq_true rfl, Nat.le_of_ble_eq_true rfl⟩ hl.1 rfl (Nat.le_of_ble_eq_true rfl) ⟨law_c (by omega), law_s (by omega)⟩ dL_law_770 (fun x98 S96 H locs hw h => ?_)
          refine lv_iconst (v := (nI 1)) hx hb dL_law_773 (by decide) ?_
          refine lv_isub hx hb dL_law_774 ?_
          refine lv_icmp_ne (tgt := 793) hx hb dL_law_775 (by decide) (fun c99 => ?_) (fun c99 => ?_)
          · have hw := hw.1 c99
            exact hw.elim
          · have hw := hw.2 c99
            refine lv_aload_n hx hb dL_law_778 rfl (lv_at hl 3 rfl) ?_
            refine lv_iload hx hb dL_law_779 (lv_at hl 0 rfl) ?_
            refine rc_H (As := [.ref w1, .int x49]) (rest := []) X h (meL_copies l hl9 G _ _ _ _ hw) gS_L_150 rfl rfl hdS_L_copies rfl ⟨Nat.le_of_ble_eq_true rfl, Nat.le_of_ble_eq_true rfl⟩ hl.1 rfl (Nat.le_of_ble_eq_true rfl) ⟨law_c (by omega), law_s (by omega)⟩ dL_law_781 (fun x101 S100 H locs hw h => ?_)
            refine lv_iload hx hb dL_law_784 (lv_at hl 14 rfl) ?_
            refine lv_icmp_ne (tgt := 793) hx hb dL_law_786 (by decide) (fun c102 => ?_) (fun c102 => ?_)
            · have hw := hw.1 c102
              exact hw.elim
            · have hw := hw.2 c102
              refine lv_iconst (v := (nI 1)) hx hb dL_law_789 (by decide) ?_
              refine lv_goto (tgt := 794) hx hb dL_law_790 (by decide) ?_
              refine lv_istore (lv' := [(10, .int (nI 1)), (19, .int x49), (21, .int x47), (0, .ref b), (1, .ref w1), (2, .ref w2), (3, .ref w3), (4, .ref w4), (5, .ref w5), (6, .long w6), (8, .long w8), (11, .int w11), (12, .int w12), (13, .long w13), (17, .int w17), (20, .int w20)]) hx hb dL_law_794 hl (by decide) rfl (fun ls hl => ?_)
              refine lv_iload hx hb dL_law_796 (lv_at hl 1 rfl) ?_
              refine lv_if_lt (tgt := 824) hx hb dL_law_798 (by decide) (fun c103 => ?_) (fun c103 => ?_)
              · have hw := hw.1 c103
                exact lcL_law_824 X hX hbl hbA hr hlk hl9 post hpost _ Bc Bs hJ _ _ _ _ _ _ _ _ _ _ _ _ _ hw _ _ _ _ _ (by omega) (by omega) h (lv_sub hl [3, 4, 5, 6, 7, 8, 9, 10, 0, 11, 12, 13, 1] rfl)
              · have hw := hw.2 c103
                refine lv_aload hx hb dL_law_801 (lv_at hl 8 rfl) ?_
                refine lv_iload hx hb dL_law_803 (lv_at hl 1 rfl) ?_
                refine lv_iload hx hb dL_law_805 (lv_at hl 14 rfl) ?_
                obtain ⟨k104, hw⟩ := hw
                obtain ⟨v105, hw⟩ := hw
                refine r_iast X h k104 v105 dL_law_807 (fun H locs h => ?_)
                obtain ⟨S106, eS106⟩ : ∃ z : Mem, z = (sI S100 w5 x49.toNatClampNeg w17) := ⟨_, rfl⟩
                rw [← eS106] at h
                have hw := hw S106 eS106
                refine lv_lload hx hb dL_law_808 (lv_at hl 10 rfl) ?_
                refine lv_iload hx hb dL_law_810 (lv_at hl 15 rfl) ?_
                refine lv_i2l (v := w20.toInt64) hx hb dL_law_812 rfl ?_
                refine lv_aload_n hx hb dL_law_813 rfl (lv_at hl 4 rfl) ?_
                refine lv_iload hx hb dL_law_814 (lv_at hl 14 rfl) ?_
                refine rc_H (As := [.ref w1, .int w17]) (rest := [.long w20.toInt64, .long w8]) X h (meL_sheets l hl9 G _ _ _ _ hw) gS_L_152 rfl rfl hdS_L_sheets rfl ⟨Nat.le_of_ble_eq_true rfl, Nat.le_of_ble_eq_true rfl⟩ hl.1 rfl (Nat.le_of_ble_eq_true rfl) ⟨law_c (by omega), law_s (by omega)⟩ dL_law_816 (fun x108 S107 H locs hw h => ?_)
                refine lv_i2l (v := x108.toInt64) hx hb dL_law_819 rfl ?_
                refine lv_lmul hx hb dL_law_820 ?_
                refine lv_ladd hx hb dL_law_821 ?_
                refine lv_lstore (lv' := [(8, .long (w8 + (w20.toInt64 * x108.toInt64))), (10, .int (nI 1)), (19, .int x49), (21, .int x47), (0, .ref b), (1, .ref w1), (2, .ref w2), (3, .ref w3), (4, .ref w4), (5, .ref w5), (6, .long w6), (11, .int w11), (12, .int w12), (13, .long w13), (17, .int w17), (20, .int w20)]) hx hb dL_law_822 hl (by decide) rfl (fun ls hl => ?_)
                exact lcL_law_824 X hX hbl hbA hr hlk hl9 post hpost _ Bc Bs hJ _ _ _ _ _ _ _ _ _ _ _ _ _ hw _ _ _ _ _ (by omega) (by omega) h (lv_sub hl [4, 5, 6, 7, 8, 9, 10, 0, 1, 11, 12, 13, 2] rfl)
  · have hw := hw.2 c50
    refine lv_iconst (v := (nI 1)) hx hb dL_law_744 (by decide) ?_
    refine lv_goto (tgt := 749) hx hb dL_law_745 (by decide) ?_
    refine lv_iload hx hb dL_law_749 (lv_at hl 1 rfl) ?_
    refine lv_if_ne (tgt := 758) hx hb dL_law_751 (by decide) (fun c109 => ?_) (fun c109 => ?_)
    · have hw := hw.1 c109
      refine lv_iconst (v := (nI 0)) hx hb dL_law_758 (by decide) ?_
      refine lv_icmp_ne (tgt := 793) hx hb dL_law_759 (by decide) (fun c110 => ?_) (fun c110 => ?_)
      · have hw := hw.1 c110
        exact hw.elim
      · have hw := hw.2 c110
        refine lv_iload hx hb dL_law_762 (lv_at hl 0 rfl) ?_
        refine lv_if_lt (tgt := 789) hx hb dL_law_764 (by decide) (fun c111 => ?_) (fun c111 => ?_)
        · have hw := hw.1 c111
          refine lv_iconst (v := (nI 1)) hx hb dL_law_789 (by decide) ?_
          refine lv_goto (tgt := 794) hx hb dL_law_790 (by decide) ?_
          refine lv_istore (lv' := [(10, .int (nI 1)), (19, .int x49), (21, .int x47), (0, .ref b), (1, .ref w1), (2, .ref w2), (3, .ref w3), (4, .ref w4), (5, .ref w5), (6, .long w6), (8, .long w8), (11, .int w11), (12, .int w12), (13, .long w13), (17, .int w17), (20, .int w20)]) hx hb dL_law_794 hl (by decide) rfl (fun ls hl => ?_)
          refine lv_iload hx hb dL_law_796 (lv_at hl 1 rfl) ?_
          refine lv_if_lt (tgt := 824) hx hb dL_law_798 (by decide) (fun c112 => ?_) (fun c112 => ?_)
          · have hw := hw.1 c112
            exact lcL_law_824 X hX hbl hbA hr hlk hl9 post hpost _ Bc Bs hJ _ _ _ _ _ _ _ _ _ _ _ _ _ hw _ _ _ _ _ (by omega) (by omega) h (lv_sub hl [3, 4, 5, 6, 7, 8, 9, 10, 0, 11, 12, 13, 1] rfl)
          · have hw := hw.2 c112
            refine lv_aload hx hb dL_law_801 (lv_at hl 8 rfl) ?_
            refine lv_iload hx hb dL_law_803 (lv_at hl 1 rfl) ?_
            refine lv_iload hx hb dL_law_805 (lv_at hl 14 rfl) ?_
            obtain ⟨k113, hw⟩ := hw
            obtain ⟨v114, hw⟩ := hw
            refine r_iast X h k113 v114 dL_law_807 (fun H locs h => ?_)
            obtain ⟨S115, eS115⟩ : ∃ z : Mem, z = (sI S48 w5 x49.toNatClampNeg w17) := ⟨_, rfl⟩
            rw [← eS115] at h
            have hw := hw S115 eS115
            refine lv_lload hx hb dL_law_808 (lv_at hl 10 rfl) ?_
            refine lv_iload hx hb dL_law_810 (lv_at hl 15 rfl) ?_
            refine lv_i2l (v := w20.toInt64) hx hb dL_law_812 rfl ?_
            refine lv_aload_n hx hb dL_law_813 rfl (lv_at hl 4 rfl) ?_
            refine lv_iload hx hb dL_law_814 (lv_at hl 14 rfl) ?_
            refine rc_H (As := [.ref w1, .int w17]) (rest := [.long w20.toInt64, .long w8]) X h (meL_sheets l hl9 G _ _ _ _ hw) gS_L_152 rfl rfl hdS_L_sheets rfl ⟨Nat.le_of_ble_eq_true rfl, Nat.le_of_ble_eq_true rfl⟩ hl.1 rfl (Nat.le_of_ble_eq_true rfl) ⟨law_c (by omega), law_s (by omega)⟩ dL_law_816 (fun x117 S116 H locs hw h => ?_)
            refine lv_i2l (v := x117.toInt64) hx hb dL_law_819 rfl ?_
            refine lv_lmul hx hb dL_law_820 ?_
            refine lv_ladd hx hb dL_law_821 ?_
            refine lv_lstore (lv' := [(8, .long (w8 + (w20.toInt64 * x117.toInt64))), (10, .int (nI 1)), (19, .int x49), (21, .int x47), (0, .ref b), (1, .ref w1), (2, .ref w2), (3, .ref w3), (4, .ref w4), (5, .ref w5), (6, .long w6), (11, .int w11), (12, .int w12), (13, .long w13), (17, .int w17), (20, .int w20)]) hx hb dL_law_822 hl (by decide) rfl (fun ls hl => ?_)
            exact lcL_law_824 X hX hbl hbA hr hlk hl9 post hpost _ Bc Bs hJ _ _ _ _ _ _ _ _ _ _ _ _ _ hw _ _ _ _ _ (by omega) (by omega) h (lv_sub hl [4, 5, 6, 7, 8, 9, 10, 0, 1, 11, 12, 13, 2] rfl)
        · have hw := hw.2 c111
          refine lv_iload hx hb dL_law_767 (lv_at hl 0 rfl) ?_
          refine lv_aload_n hx hb dL_law_769 rfl (lv_at hl 3 rfl) ?_
          obtain ⟨k119, hw⟩ := hw
          refine rc_V (As := []) (rest := [.int x49]) X h k119 (by decide) rfl (meX6_lots l G _ _ _ hw) gV_L_147 rfl rfl hdV_X6_lots rfl ⟨Nat.le_of_ble_eq_true rfl, Nat.le_of_ble_eq_true rfl⟩ hl.1 rfl (Nat.le_of_ble_eq_true rfl) ⟨law_c (by omega), law_s (by omega)⟩ dL_law_770 (fun x120 S118 H locs hw h => ?_)
          refine lv_iconst (v := (nI 1)) hx hb dL_law_773 (by decide) ?_
          refine lv_isub hx hb dL_law_774 ?_
          refine lv_icmp_ne (tgt := 793) hx hb dL_law_775 (by decide) (fun c121 => ?_) (fun c121 => ?_)
          · have hw := hw.1 c121
            exact hw.elim
          · have hw := hw.2 c121
            refine lv_aload_n hx hb dL_law_778 rfl (lv_at hl 3 rfl) ?_
            refine lv_iload hx hb dL_law_779 (lv_at hl 0 rfl) ?_
            refine rc_H (As := [.ref w1, .int x49]) (rest := []) X h (meL_copies l hl9 G _ _ _ _ hw) gS_L_150 rfl rfl hdS_L_copies rfl ⟨Nat.le_of_ble_eq_true rfl, Nat.le_of_ble_eq_true rfl⟩ hl.1 rfl (Nat.le_of_ble_eq_true rfl) ⟨law_c (by omega), law_s (by omega)⟩ dL_law_781 (fun x123 S122 H locs hw h => ?_)
            refine lv_iload hx hb dL_law_784 (lv_at hl 14 rfl) ?_
            refine lv_icmp_ne (tgt := 793) hx hb dL_law_786 (by decide) (fun c124 => ?_) (fun c124 => ?_)
            · have hw := hw.1 c124
              exact hw.elim
            · have hw := hw.2 c124
              refine lv_iconst (v := (nI 1)) hx hb dL_law_789 (by decide) ?_
              refine lv_goto (tgt := 794) hx hb dL_law_790 (by decide) ?_
              refine lv_istore (lv' := [(10, .int (nI 1)), (19, .int x49), (21, .int x47), (0, .ref b), (1, .ref w1), (2, .ref w2), (3, .ref w3), (4, .ref w4), (5, .ref w5), (6, .long w6), (8, .long w8), (11, .int w11), (12, .int w12), (13, .long w13), (17, .int w17), (20, .int w20)]) hx hb dL_law_794 hl (by decide) rfl (fun ls hl => ?_)
              refine lv_iload hx hb dL_law_796 (lv_at hl 1 rfl) ?_
              refine lv_if_lt (tgt := 824) hx hb dL_law_798 (by decide) (fun c125 => ?_) (fun c125 => ?_)
              · have hw := hw.1 c125
                exact lcL_law_824 X hX hbl hbA hr hlk hl9 post hpost _ Bc Bs hJ _ _ _ _ _ _ _ _ _ _ _ _ _ hw _ _ _ _ _ (by omega) (by omega) h (lv_sub hl [3, 4, 5, 6, 7, 8, 9, 10, 0, 11, 12, 13, 1] rfl)
              · have hw := hw.2 c125
                refine lv_aload hx hb dL_law_801 (lv_at hl 8 rfl) ?_
                refine lv_iload hx hb dL_law_803 (lv_at hl 1 rfl) ?_
                refine lv_iload hx hb dL_law_805 (lv_at hl 14 rfl) ?_
                obtain ⟨k126, hw⟩ := hw
                obtain ⟨v127, hw⟩ := hw
                refine r_iast X h k126 v127 dL_law_807 (fun H locs h => ?_)
                obtain ⟨S128, eS128⟩ : ∃ z : Mem, z = (sI S122 w5 x49.toNatClampNeg w17) := ⟨_, rfl⟩
                rw [← eS128] at h
                have hw := hw S128 eS128
                refine lv_lload hx hb dL_law_808 (lv_at hl 10 rfl) ?_
                refine lv_iload hx hb dL_law_810 (lv_at hl 15 rfl) ?_
                refine lv_i2l (v := w20.toInt64) hx hb dL_law_812 rfl ?_
                refine lv_aload_n hx hb dL_law_813 rfl (lv_at hl 4 rfl) ?_
                refine lv_iload hx hb dL_law_814 (lv_at hl 14 rfl) ?_
                refine rc_H (As := [.ref w1, .int w17]) (rest := [.long w20.toInt64, .long w8]) X h (meL_sheets l hl9 G _ _ _ _ hw) gS_L_152 rfl rfl hdS_L_sheets rfl ⟨Nat.le_of_ble_eq_true rfl, Nat.le_of_ble_eq_true rfl⟩ hl.1 rfl (Nat.le_of_ble_eq_true rfl) ⟨law_c (by omega), law_s (by omega)⟩ dL_law_816 (fun x130 S129 H locs hw h => ?_)
                refine lv_i2l (v := x130.toInt64) hx hb dL_law_819 rfl ?_
                refine lv_lmul hx hb dL_law_820 ?_
                refine lv_ladd hx hb dL_law_821 ?_
                refine lv_lstore (lv' := [(8, .long (w8 + (w20.toInt64 * x130.toInt64))), (10, .int (nI 1)), (19, .int x49), (21, .int x47), (0, .ref b), (1, .ref w1), (2, .ref w2), (3, .ref w3), (4, .ref w4), (5, .ref w5), (6, .long w6), (11, .int w11), (12, .int w12), (13, .long w13), (17, .int w17), (20, .int w20)]) hx hb dL_law_822 hl (by decide) rfl (fun ls hl => ?_)
                exact lcL_law_824 X hX hbl hbA hr hlk hl9 post hpost _ Bc Bs hJ _ _ _ _ _ _ _ _ _ _ _ _ _ hw _ _ _ _ _ (by omega) (by omega) h (lv_sub hl [4, 5, 6, 7, 8, 9, 10, 0, 1, 11, 12, 13, 2] rfl)
    · have hw := hw.2 c109
      refine lv_iconst (v := (nI 1)) hx hb dL_law_754 (by decide) ?_
      refine lv_goto (tgt := 759) hx hb dL_law_755 (by decide) ?_
      refine lv_icmp_ne (tgt := 793) hx hb dL_law_759 (by decide) (fun c131 => ?_) (fun c131 => ?_)
      · have hw := hw.1 c131
        exact hw.elim
      · have hw := hw.2 c131
        refine lv_iload hx hb dL_law_762 (lv_at hl 0 rfl) ?_
        refine lv_if_lt (tgt := 789) hx hb dL_law_764 (by decide) (fun c132 => ?_) (fun c132 => ?_)
        · have hw := hw.1 c132
          refine lv_iconst (v := (nI 1)) hx hb dL_law_789 (by decide) ?_
          refine lv_goto (tgt := 794) hx hb dL_law_790 (by decide) ?_
          refine lv_istore (lv' := [(10, .int (nI 1)), (19, .int x49), (21, .int x47), (0, .ref b), (1, .ref w1), (2, .ref w2), (3, .ref w3), (4, .ref w4), (5, .ref w5), (6, .long w6), (8, .long w8), (11, .int w11), (12, .int w12), (13, .long w13), (17, .int w17), (20, .int w20)]) hx hb dL_law_794 hl (by decide) rfl (fun ls hl => ?_)
          refine lv_iload hx hb dL_law_796 (lv_at hl 1 rfl) ?_
          refine lv_if_lt (tgt := 824) hx hb dL_law_798 (by decide) (fun c133 => ?_) (fun c133 => ?_)
          · have hw := hw.1 c133
            exact lcL_law_824 X hX hbl hbA hr hlk hl9 post hpost _ Bc Bs hJ _ _ _ _ _ _ _ _ _ _ _ _ _ hw _ _ _ _ _ (by omega) (by omega) h (lv_sub hl [3, 4, 5, 6, 7, 8, 9, 10, 0, 11, 12, 13, 1] rfl)
          · have hw := hw.2 c133
            refine lv_aload hx hb dL_law_801 (lv_at hl 8 rfl) ?_
            refine lv_iload hx hb dL_law_803 (lv_at hl 1 rfl) ?_
            refine lv_iload hx hb dL_law_805 (lv_at hl 14 rfl) ?_
            obtain ⟨k134, hw⟩ := hw
            obtain ⟨v135, hw⟩ := hw
            refine r_iast X h k134 v135 dL_law_807 (fun H locs h => ?_)
            obtain ⟨S136, eS136⟩ : ∃ z : Mem, z = (sI S48 w5 x49.toNatClampNeg w17) := ⟨_, rfl⟩
            rw [← eS136] at h
            have hw := hw S136 eS136
            refine lv_lload hx hb dL_law_808 (lv_at hl 10 rfl) ?_
            refine lv_iload hx hb dL_law_810 (lv_at hl 15 rfl) ?_
            refine lv_i2l (v := w20.toInt64) hx hb dL_law_812 rfl ?_
            refine lv_aload_n hx hb dL_law_813 rfl (lv_at hl 4 rfl) ?_
            refine lv_iload hx hb dL_law_814 (lv_at hl 14 rfl) ?_
            refine rc_H (As := [.ref w1, .int w17]) (rest := [.long w20.toInt64, .long w8]) X h (meL_sheets l hl9 G _ _ _ _ hw) gS_L_152 rfl rfl hdS_L_sheets rfl ⟨Nat.le_of_ble_eq_true rfl, Nat.le_of_ble_eq_true rfl⟩ hl.1 rfl (Nat.le_of_ble_eq_true rfl) ⟨law_c (by omega), law_s (by omega)⟩ dL_law_816 (fun x138 S137 H locs hw h => ?_)
            refine lv_i2l (v := x138.toInt64) hx hb dL_law_819 rfl ?_
            refine lv_lmul hx hb dL_law_820 ?_
            refine lv_ladd hx hb dL_law_821 ?_
            refine lv_lstore (lv' := [(8, .long (w8 + (w20.toInt64 * x138.toInt64))), (10, .int (nI 1)), (19, .int x49), (21, .int x47), (0, .ref b), (1, .ref w1), (2, .ref w2), (3, .ref w3), (4, .ref w4), (5, .ref w5), (6, .long w6), (11, .int w11), (12, .int w12), (13, .long w13), (17, .int w17), (20, .int w20)]) hx hb dL_law_822 hl (by decide) rfl (fun ls hl => ?_)
            exact lcL_law_824 X hX hbl hbA hr hlk hl9 post hpost _ Bc Bs hJ _ _ _ _ _ _ _ _ _ _ _ _ _ hw _ _ _ _ _ (by omega) (by omega) h (lv_sub hl [4, 5, 6, 7, 8, 9, 10, 0, 1, 11, 12, 13, 2] rfl)
        · have hw := hw.2 c132
          refine lv_iload hx hb dL_law_767 (lv_at hl 0 rfl) ?_
          refine lv_aload_n hx hb dL_law_769 rfl (lv_at hl 3 rfl) ?_
          obtain ⟨k140, hw⟩ := hw
          refine rc_V (As := []) (rest := [.int x49]) X h k140 (by decide) rfl (meX6_lots l G _ _ _ hw) gV_L_147 rfl rfl hdV_X6_lots rfl ⟨Nat.le_of_ble_eq_true rfl, Nat.le_of_ble_eq_true rfl⟩ hl.1 rfl (Nat.le_of_ble_eq_true rfl) ⟨law_c (by omega), law_s (by omega)⟩ dL_law_770 (fun x141 S139 H locs hw h => ?_)
          refine lv_iconst (v := (nI 1)) hx hb dL_law_773 (by decide) ?_
          refine lv_isub hx hb dL_law_774 ?_
          refine lv_icmp_ne (tgt := 793) hx hb dL_law_775 (by decide) (fun c142 => ?_) (fun c142 => ?_)
          · have hw := hw.1 c142
            exact hw.elim
          · have hw := hw.2 c142
            refine lv_aload_n hx hb dL_law_778 rfl (lv_at hl 3 rfl) ?_
            refine lv_iload hx hb dL_law_779 (lv_at hl 0 rfl) ?_
            refine rc_H (As := [.ref w1, .int x49]) (rest := []) X h (meL_copies l hl9 G _ _ _ _ hw) gS_L_150 rfl rfl hdS_L_copies rfl ⟨Nat.le_of_ble_eq_true rfl, Nat.le_of_ble_eq_true rfl⟩ hl.1 rfl (Nat.le_of_ble_eq_true rfl) ⟨law_c (by omega), law_s (by omega)⟩ dL_law_781 (fun x144 S143 H locs hw h => ?_)
            refine lv_iload hx hb dL_law_784 (lv_at hl 14 rfl) ?_
            refine lv_icmp_ne (tgt := 793) hx hb dL_law_786 (by decide) (fun c145 => ?_) (fun c145 => ?_)
            · have hw := hw.1 c145
              exact hw.elim
            · have hw := hw.2 c145
              refine lv_iconst (v := (nI 1)) hx hb dL_law_789 (by decide) ?_
              refine lv_goto (tgt := 794) hx hb dL_law_790 (by decide) ?_
              refine lv_istore (lv' := [(10, .int (nI 1)), (19, .int x49), (21, .int x47), (0, .ref b), (1, .ref w1), (2, .ref w2), (3, .ref w3), (4, .ref w4), (5, .ref w5), (6, .long w6), (8, .long w8), (11, .int w11), (12, .int w12), (13, .long w13), (17, .int w17), (20, .int w20)]) hx hb dL_law_794 hl (by decide) rfl (fun ls hl => ?_)
              refine lv_iload hx hb dL_law_796 (lv_at hl 1 rfl) ?_
              refine lv_if_lt (tgt := 824) hx hb dL_law_798 (by decide) (fun c146 => ?_) (fun c146 => ?_)
              · have hw := hw.1 c146
                exact lcL_law_824 X hX hbl hbA hr hlk hl9 post hpost _ Bc Bs hJ _ _ _ _ _ _ _ _ _ _ _ _ _ hw _ _ _ _ _ (by omega) (by omega) h (lv_sub hl [3, 4, 5, 6, 7, 8, 9, 10, 0, 11, 12, 13, 1] rfl)
              · have hw := hw.2 c146
                refine lv_aload hx hb dL_law_801 (lv_at hl 8 rfl) ?_
                refine lv_iload hx hb dL_law_803 (lv_at hl 1 rfl) ?_
                refine lv_iload hx hb dL_law_805 (lv_at hl 14 rfl) ?_
                obtain ⟨k147, hw⟩ := hw
                obtain ⟨v148, hw⟩ := hw
                refine r_iast X h k147 v148 dL_law_807 (fun H locs h => ?_)
                obtain ⟨S149, eS149⟩ : ∃ z : Mem, z = (sI S143 w5 x49.toNatClampNeg w17) := ⟨_, rfl⟩
                rw [← eS149] at h
                have hw := hw S149 eS149
                refine lv_lload hx hb dL_law_808 (lv_at hl 10 rfl) ?_
                refine lv_iload hx hb dL_law_810 (lv_at hl 15 rfl) ?_
                refine lv_i2l (v := w20.toInt64) hx hb dL_law_812 rfl ?_
                refine lv_aload_n hx hb dL_law_813 rfl (lv_at hl 4 rfl) ?_
                refine lv_iload hx hb dL_law_814 (lv_at hl 14 rfl) ?_
                refine rc_H (As := [.ref w1, .int w17]) (rest := [.long w20.toInt64, .long w8]) X h (meL_sheets l hl9 G _ _ _ _ hw) gS_L_152 rfl rfl hdS_L_sheets rfl ⟨Nat.le_of_ble_eq_true rfl, Nat.le_of_ble_eq_true rfl⟩ hl.1 rfl (Nat.le_of_ble_eq_true rfl) ⟨law_c (by omega), law_s (by omega)⟩ dL_law_816 (fun x151 S150 H locs hw h => ?_)
                refine lv_i2l (v := x151.toInt64) hx hb dL_law_819 rfl ?_
                refine lv_lmul hx hb dL_law_820 ?_
                refine lv_ladd hx hb dL_law_821 ?_
                refine lv_lstore (lv' := [(8, .long (w8 + (w20.toInt64 * x151.toInt64))), (10, .int (nI 1)), (19, .int x49), (21, .int x47), (0, .ref b), (1, .ref w1), (2, .ref w2), (3, .ref w3), (4, .ref w4), (5, .ref w5), (6, .long w6), (11, .int w11), (12, .int w12), (13, .long w13), (17, .int w17), (20, .int w20)]) hx hb dL_law_822 hl (by decide) rfl (fun ls hl => ?_)
                exact lcL_law_824 X hX hbl hbA hr hlk hl9 post hpost _ Bc Bs hJ _ _ _ _ _ _ _ _ _ _ _ _ _ hw _ _ _ _ _ (by omega) (by omega) h (lv_sub hl [4, 5, 6, 7, 8, 9, 10, 0, 1, 11, 12, 13, 2] rfl)
def wcL_law_552  (L : Nat) (xs : Nat → Int32) (post : Int32 → Mem → Prop) (J : Nat → Nat → Nat → Nat → Nat → Int64 → Int64 → Int32 → Int32 → Int32 → Mem → Prop) (w1 : Nat) (w2 : Nat) (w3 : Nat) (w4 : Nat) (w5 : Nat) (w6 : Int64) (w8 : Int64) (w11 : Int32) (w12 : Int32) (w13 : Int64) (w17 : Int32) (w20 : Int32) (w21 : Int32) (S : Mem) : Prop := wpL_makeready S w1 w17 w20 (fun x156 S155 => wpL_stock S155 w1 w17 w20 (fun x158 S157 => isK S157 w1 6 ∧ (wpX6_plates S157 w1 (fun x161 S159 => wpL_platesNeeded S159 w1 w17 (fun x163 S162 => wpL_print S162 w1 w17 w20 w21 (fun x165 S164 => isK S164 w1 6 ∧ (wpX6_plates S164 w1 (fun x168 S166 => ∀ x169 : Int32, x169 = (x168 - x161) → ((x165 < 0 → ((0 ≤ x165 → (wcL_law_824 L xs post J w1 w2 w3 w4 w5 (w6 + w21.toInt64) w8 (nI 1) w11 w12 w13 x165 S166)) ∧ (¬ 0 ≤ x165 → (wcL_law_824 L xs post J w1 w2 w3 w4 w5 (w6 + (0 : Int64)) w8 (nI 1) w11 w12 w13 x165 S166)))) ∧ (¬ x165 < 0 → ((¬ x165 = x156 → (False)) ∧ (x165 = x156 → (wpL_stock S166 w1 w17 w20 (fun x174 S173 => (¬ x174 = (x158 + w21) → (False)) ∧ (x174 = (x158 + w21) → (wpL_makeready S173 w1 w17 w20 (fun x177 S176 => (¬ x177 = 0 → (False)) ∧ (x177 = 0 → ((x169 < 0 → (False)) ∧ (¬ x169 < 0 → (((nI 2) < x169 → (False)) ∧ (¬ (nI 2) < x169 → (wpL_platesNeeded S176 w1 w17 (fun x182 S181 => (¬ x182 = (x163 - x169) → (False)) ∧ (x182 = (x163 - x169) → ((0 ≤ x165 → (wcL_law_824 L xs post J w1 w2 w3 w4 w5 (w6 + w21.toInt64) w8 (nI 1) w11 w12 w13 x165 S181)) ∧ (¬ 0 ≤ x165 → (wcL_law_824 L xs post J w1 w2 w3 w4 w5 (w6 + (0 : Int64)) w8 (nI 1) w11 w12 w13 x165 S181))))))))))))))))))))))))))))
set_option maxHeartbeats 8000000 in
set_option maxRecDepth 100000 in
theorem lcL_law_552 {p : Program} {l : Launch} {e : Env} {s : State} {m : MethodId} {below : List Frame} {meth : Method} {c : Code} {G : GT} {b L : Nat} {xs : Nat → Int32} (X : Cx p s m #[Value.ref b] meth c cL_law 27 RL G (fun q : Nat => s.heap.size ≤ q)) (hX : va_X b L xs s s.heap) (hbl : b < s.heap.size) (hbA : ¬ (fun q : Nat => s.heap.size ≤ q) b) (hr : meth.sig.returnType = ret) (hlk : meth.locks = false) (hl9 : l.stackTraces = false) (post : Int32 → Mem → Prop) (hpost : ∀ r S, post r S → r = 1) (J : Nat → Nat → Nat → Nat → Nat → Int64 → Int64 → Int32 → Int32 → Int32 → Mem → Prop) (Bc Bs : Nat) (hJ : ∀ (w1 : Nat) (w2 : Nat) (w3 : Nat) (w4 : Nat) (w5 : Nat) (w6 : Int64) (w8 : Int64) (w10 : Int32) (w11 : Int32) (w12 : Int32) (S : Mem), J w1 w2 w3 w4 w5 w6 w8 w10 w11 w12 S → ∀ (H : Heap) (locs : List Loc) (ls : Array Slot) (kc ks : Nat), kc + Bc ≤ 678795 → ks + Bs ≤ 7054424 → Hx G (fun q : Nat => s.heap.size ≤ q) s.heap H locs S → lv_has ls 27 [(0, .ref b), (1, .ref w1), (2, .ref w2), (3, .ref w3), (4, .ref w4), (5, .ref w5), (6, .long w6), (8, .long w8), (10, .int w10), (11, .int w11), (12, .int w12)] → W p l e room_1 s m #[Value.ref b] below meth c H locs kc ks (lw_Z below #[Value.ref b] s) (F0 m 237 ls [])) : ∀ (w1 : Nat) (w2 : Nat) (w3 : Nat) (w4 : Nat) (w5 : Nat) (w6 : Int64) (w8 : Int64) (w11 : Int32) (w12 : Int32) (w13 : Int64) (w17 : Int32) (w20 : Int32) (w21 : Int32) (S : Mem) (hw : wcL_law_552 L xs post J w1 w2 w3 w4 w5 w6 w8 w11 w12 w13 w17 w20 w21 S) (H : Heap) (locs : List Loc) (ls : Array Slot) (kc ks : Nat), kc + (5602 + Bc) ≤ 678795 → ks + (33452 + Bs) ≤ 7054424 → Hx G (fun q : Nat => s.heap.size ≤ q) s.heap H locs S → lv_has ls 27 [(0, .ref b), (1, .ref w1), (2, .ref w2), (3, .ref w3), (4, .ref w4), (5, .ref w5), (6, .long w6), (8, .long w8), (11, .int w11), (12, .int w12), (13, .long w13), (17, .int w17), (20, .int w20), (21, .int w21)] → W p l e room_1 s m #[Value.ref b] below meth c H locs kc ks (lw_Z below #[Value.ref b] s) (F0 m 552 ls []) := by
  have hx := X.1
  have hb := X.2.1
  have hown := X.2.2.2.1
  intro w1 w2 w3 w4 w5 w6 w8 w11 w12 w13 w17 w20 w21 S hw H locs ls kc ks hkc hks h hl
  unfold wcL_law_552 at hw
  refine lv_aload_n hx hb dL_law_552 rfl (lv_at hl 1 rfl) ?_
  refine lv_iload hx hb dL_law_553 (lv_at hl 11 rfl) ?_
  refine lv_iload hx hb dL_law_555 (lv_at hl 12 rfl) ?_
  refine rc_H (As := [.ref w1, .int w17, .int w20]) (rest := []) X h (meL_makeready l hl9 G _ _ _ _ _ hw) gS_L_131 rfl rfl hdS_L_makeready rfl ⟨Nat.le_of_ble_eq_true rfl, Nat.le_of_ble_eq_true rfl⟩ hl.1 rfl (Nat.le_of_ble_eq_true rfl) ⟨law_c (by omega), law_s (by omega)⟩ dL_law_557 (fun x156 S155 H locs hw h => ?_)
  refine lv_istore (lv' := [(22, .int x156), (0, .ref b), (1, .ref w1), (2, .ref w2), (3, .ref w3), (4, .ref w4), (5, .ref w5), (6, .long w6), (8, .long w8), (11, .int w11), (12, .int w12), (13, .long w13), (17, .int w17), (20, .int w20), (21, .int w21)]) hx hb dL_law_560 hl (by decide) rfl (fun ls hl => ?_)
  refine lv_aload_n hx hb dL_law_562 rfl (lv_at hl 2 rfl) ?_
  refine lv_iload hx hb dL_law_563 (lv_at hl 12 rfl) ?_
  refine lv_iload hx hb dL_law_565 (lv_at hl 13 rfl) ?_
  refine rc_H (As := [.ref w1, .int w17, .int w20]) (rest := []) X h (meL_stock l hl9 G _ _ _ _ _ hw) gS_L_133 rfl rfl hdS_L_stock rfl ⟨Nat.le_of_ble_eq_true rfl, Nat.le_of_ble_eq_true rfl⟩ hl.1 rfl (Nat.le_of_ble_eq_true rfl) ⟨law_c (by omega), law_s (by omega)⟩ dL_law_567 (fun x158 S157 H locs hw h => ?_)
  refine lv_istore (lv' := [(23, .int x158), (22, .int x156), (0, .ref b), (1, .ref w1), (2, .ref w2), (3, .ref w3), (4, .ref w4), (5, .ref w5), (6, .long w6), (8, .long w8), (11, .int w11), (12, .int w12), (13, .long w13), (17, .int w17), (20, .int w20), (21, .int w21)]) hx hb dL_law_570 hl (by decide) rfl (fun ls hl => ?_)
  refine lv_aload_n hx hb dL_law_572 rfl (lv_at hl 3 rfl) ?_
  obtain ⟨k160, hw⟩ := hw
  refine rc_V (As := []) (rest := []) X h k160 (by decide) rfl (meX6_plates l G _ _ _ hw) gV_L_135 rfl rfl hdV_X6_plates rfl ⟨Nat.le_of_ble_eq_true rfl, Nat.le_of_ble_eq_true rfl⟩ hl.1 rfl (Nat.le_of_ble_eq_true rfl) ⟨law_c (by omega), law_s (by omega)⟩ dL_law_573 (fun x161 S159 H locs hw h => ?_)
  refine lv_istore (lv' := [(24, .int x161), (23, .int x158), (22, .int x156), (0, .ref b), (1, .ref w1), (2, .ref w2), (3, .ref w3), (4, .ref w4), (5, .ref w5), (6, .long w6), (8, .long w8), (11, .int w11), (12, .int w12), (13, .long w13), (17, .int w17), (20, .int w20), (21, .int w21)]) hx hb dL_law_576 hl (by decide) rfl (fun ls hl => ?_)
  refine lv_aload_n hx hb dL_law_578 rfl (lv_at hl 4 rfl) ?_
  refine lv_iload hx hb dL_law_579 (lv_at hl 14 rfl) ?_
  refine rc_H (As := [.ref w1, .int w17]) (rest := []) X h (meL_platesNeeded l hl9 G _ _ _ _ hw) gS_L_138 rfl rfl hdS_L_platesNeeded rfl ⟨Nat.le_of_ble_eq_true rfl, Nat.le_of_ble_eq_true rfl⟩ hl.1 rfl (Nat.le_of_ble_eq_true rfl) ⟨law_c (by omega), law_s (by omega)⟩ dL_law_581 (fun x163 S162 H locs hw h => ?_)
  refine lv_istore (lv' := [(25, .int x163), (24, .int x161), (23, .int x158), (22, .int x156), (0, .ref b), (1, .ref w1), (2, .ref w2), (3, .ref w3), (4, .ref w4), (5, .ref w5), (6, .long w6), (8, .long w8), (11, .int w11), (12, .int w12), (13, .long w13), (17, .int w17), (20, .int w20), (21, .int w21)]) hx hb dL_law_584 hl (by decide) rfl (fun ls hl => ?_)
  refine lv_aload_n hx hb dL_law_586 rfl (lv_at hl 5 rfl) ?_
  refine lv_iload hx hb dL_law_587 (lv_at hl 15 rfl) ?_
  refine lv_iload hx hb dL_law_589 (lv_at hl 16 rfl) ?_
  refine lv_iload hx hb dL_law_591 (lv_at hl 17 rfl) ?_
  refine rc_H (As := [.ref w1, .int w17, .int w20, .int w21]) (rest := []) X h (meL_print l hl9 G _ _ _ _ _ _ hw) gS_L_140 rfl rfl hdS_L_print rfl ⟨Nat.le_of_ble_eq_true rfl, Nat.le_of_ble_eq_true rfl⟩ hl.1 rfl (Nat.le_of_ble_eq_true rfl) ⟨law_c (by omega), law_s (by omega)⟩ dL_law_593 (fun x165 S164 H locs hw h => ?_)
  refine lv_istore (lv' := [(19, .int x165), (25, .int x163), (24, .int x161), (23, .int x158), (22, .int x156), (0, .ref b), (1, .ref w1), (2, .ref w2), (3, .ref w3), (4, .ref w4), (5, .ref w5), (6, .long w6), (8, .long w8), (11, .int w11), (12, .int w12), (13, .long w13), (17, .int w17), (20, .int w20), (21, .int w21)]) hx hb dL_law_596 hl (by decide) rfl (fun ls hl => ?_)
  refine lv_aload_n hx hb dL_law_598 rfl (lv_at hl 6 rfl) ?_
  obtain ⟨k167, hw⟩ := hw
  refine rc_V (As := []) (rest := []) X h k167 (by decide) rfl (meX6_plates l G _ _ _ hw) gV_L_135 rfl rfl hdV_X6_plates rfl ⟨Nat.le_of_ble_eq_true rfl, Nat.le_of_ble_eq_true rfl⟩ hl.1 rfl (Nat.le_of_ble_eq_true rfl) ⟨law_c (by omega), law_s (by omega)⟩ dL_law_599 (fun x168 S166 H locs hw h => ?_)
  refine lv_iload hx hb dL_law_602 (lv_at hl 2 rfl) ?_
  refine lv_isub hx hb dL_law_604 ?_
  refine lv_topi (fun x169 ex169 => ?_)
  have hw := hw x169 ex169
  refine lv_istore (lv' := [(26, .int x169), (19, .int x165), (25, .int x163), (24, .int x161), (23, .int x158), (22, .int x156), (0, .ref b), (1, .ref w1), (2, .ref w2), (3, .ref w3), (4, .ref w4), (5, .ref w5), (6, .long w6), (8, .long w8), (11, .int w11), (12, .int w12), (13, .long w13), (17, .int w17), (20, .int w20), (21, .int w21)]) hx hb dL_law_605 hl (by decide) rfl (fun ls hl => ?_)
  refine lv_iload hx hb dL_law_607 (lv_at hl 1 rfl) ?_
  refine lv_if_lt (tgt := 671) hx hb dL_law_609 (by decide) (fun c170 => ?_) (fun c170 => ?_)
  · have hw := hw.1 c170
    refine lv_iconst (v := (nI 1)) hx hb dL_law_671 (by decide) ?_
    refine lv_goto (tgt := 676) hx hb dL_law_672 (by decide) ?_
    refine lv_istore (lv' := [(10, .int (nI 1)), (26, .int x169), (19, .int x165), (25, .int x163), (24, .int x161), (23, .int x158), (22, .int x156), (0, .ref b), (1, .ref w1), (2, .ref w2), (3, .ref w3), (4, .ref w4), (5, .ref w5), (6, .long w6), (8, .long w8), (11, .int w11), (12, .int w12), (13, .long w13), (17, .int w17), (20, .int w20), (21, .int w21)]) hx hb dL_law_676 hl (by decide) rfl (fun ls hl => ?_)
    refine lv_lload hx hb dL_law_678 (lv_at hl 13 rfl) ?_
    refine lv_iload hx hb dL_law_680 (lv_at hl 2 rfl) ?_
    refine lv_if_ge (tgt := 689) hx hb dL_law_682 (by decide) (fun c171 => ?_) (fun c171 => ?_)
    · have hw := hw.1 c171
      refine lv_iload hx hb dL_law_689 (lv_at hl 20 rfl) ?_
      refine lv_i2l (v := w21.toInt64) hx hb dL_law_691 rfl ?_
      refine lv_ladd hx hb dL_law_692 ?_
      refine lv_lstore (lv' := [(6, .long (w6 + w21.toInt64)), (10, .int (nI 1)), (26, .int x169), (19, .int x165), (25, .int x163), (24, .int x161), (23, .int x158), (22, .int x156), (0, .ref b), (1, .ref w1), (2, .ref w2), (3, .ref w3), (4, .ref w4), (5, .ref w5), (8, .long w8), (11, .int w11), (12, .int w12), (13, .long w13), (17, .int w17), (20, .int w20), (21, .int w21)]) hx hb dL_law_693 hl (by decide) rfl (fun ls hl => ?_)
      refine lv_goto (tgt := 824) hx hb dL_law_695 (by decide) ?_
      exact lcL_law_824 X hX hbl hbA hr hlk hl9 post hpost _ Bc Bs hJ _ _ _ _ _ _ _ _ _ _ _ _ _ hw _ _ _ _ _ (by omega) (by omega) h (lv_sub hl [8, 9, 10, 11, 12, 13, 0, 14, 1, 15, 16, 17, 3] rfl)
    · have hw := hw.2 c171
      refine lv_lconst (v := 0) hx hb dL_law_685 (by decide) ?_
      refine lv_goto (tgt := 692) hx hb dL_law_686 (by decide) ?_
      refine lv_ladd hx hb dL_law_692 ?_
      refine lv_lstore (lv' := [(6, .long (w6 + (0 : Int64))), (10, .int (nI 1)), (26, .int x169), (19, .int x165), (25, .int x163), (24, .int x161), (23, .int x158), (22, .int x156), (0, .ref b), (1, .ref w1), (2, .ref w2), (3, .ref w3), (4, .ref w4), (5, .ref w5), (8, .long w8), (11, .int w11), (12, .int w12), (13, .long w13), (17, .int w17), (20, .int w20), (21, .int w21)]) hx hb dL_law_693 hl (by decide) rfl (fun ls hl => ?_)
      refine lv_goto (tgt := 824) hx hb dL_law_695 (by decide) ?_
      exact lcL_law_824 X hX hbl hbA hr hlk hl9 post hpost _ Bc Bs hJ _ _ _ _ _ _ _ _ _ _ _ _ _ hw _ _ _ _ _ (by omega) (by omega) h (lv_sub hl [8, 9, 10, 11, 12, 13, 0, 14, 1, 15, 16, 17, 3] rfl)
  · have hw := hw.2 c170
    refine lv_iload hx hb dL_law_612 (lv_at hl 1 rfl) ?_
    refine lv_iload hx hb dL_law_614 (lv_at hl 5 rfl) ?_
    refine lv_icmp_ne (tgt := 675) hx hb dL_law_616 (by decide) (fun c172 => ?_) (fun c172 => ?_)
    · have hw := hw.1 c172
      exact hw.elim
    · have hw := hw.2 c172
      refine lv_aload_n hx hb dL_law_619 rfl (lv_at hl 7 rfl) ?_
      refine lv_iload hx hb dL_law_620 (lv_at hl 17 rfl) ?_
      refine lv_iload hx hb dL_law_622 (lv_at hl 18 rfl) ?_
      refine rc_H (As := [.ref w1, .int w17, .int w20]) (rest := []) X h (meL_stock l hl9 G _ _ _ _ _ hw) gS_L_133 rfl rfl hdS_L_stock rfl ⟨Nat.le_of_ble_eq_true rfl, Nat.le_of_ble_eq_true rfl⟩ hl.1 rfl (Nat.le_of_ble_eq_true rfl) ⟨law_c (by omega), law_s (by omega)⟩ dL_law_624 (fun x174 S173 H locs hw h => ?_)
      refine lv_iload hx hb dL_law_627 (lv_at hl 4 rfl) ?_
      refine lv_iload hx hb dL_law_629 (lv_at hl 19 rfl) ?_
      refine lv_iadd hx hb dL_law_631 ?_
      refine lv_icmp_ne (tgt := 675) hx hb dL_law_632 (by decide) (fun c175 => ?_) (fun c175 => ?_)
      · have hw := hw.1 c175
        exact hw.elim
      · have hw := hw.2 c175
        refine lv_aload_n hx hb dL_law_635 rfl (lv_at hl 7 rfl) ?_
        refine lv_iload hx hb dL_law_636 (lv_at hl 17 rfl) ?_
        refine lv_iload hx hb dL_law_638 (lv_at hl 18 rfl) ?_
        refine rc_H (As := [.ref w1, .int w17, .int w20]) (rest := []) X h (meL_makeready l hl9 G _ _ _ _ _ hw) gS_L_131 rfl rfl hdS_L_makeready rfl ⟨Nat.le_of_ble_eq_true rfl, Nat.le_of_ble_eq_true rfl⟩ hl.1 rfl (Nat.le_of_ble_eq_true rfl) ⟨law_c (by omega), law_s (by omega)⟩ dL_law_640 (fun x177 S176 H locs hw h => ?_)
        refine lv_if_ne (tgt := 675) hx hb dL_law_643 (by decide) (fun c178 => ?_) (fun c178 => ?_)
        · have hw := hw.1 c178
          exact hw.elim
        · have hw := hw.2 c178
          refine lv_iload hx hb dL_law_646 (lv_at hl 0 rfl) ?_
          refine lv_if_lt (tgt := 675) hx hb dL_law_648 (by decide) (fun c179 => ?_) (fun c179 => ?_)
          · have hw := hw.1 c179
            exact hw.elim
          · have hw := hw.2 c179
            refine lv_iload hx hb dL_law_651 (lv_at hl 0 rfl) ?_
            refine lv_iconst (v := (nI 2)) hx hb dL_law_653 (by decide) ?_
            refine lv_icmp_gt (tgt := 675) hx hb dL_law_654 (by decide) (fun c180 => ?_) (fun c180 => ?_)
            · have hw := hw.1 c180
              exact hw.elim
            · have hw := hw.2 c180
              refine lv_aload_n hx hb dL_law_657 rfl (lv_at hl 7 rfl) ?_
              refine lv_iload hx hb dL_law_658 (lv_at hl 17 rfl) ?_
              refine rc_H (As := [.ref w1, .int w17]) (rest := []) X h (meL_platesNeeded l hl9 G _ _ _ _ hw) gS_L_138 rfl rfl hdS_L_platesNeeded rfl ⟨Nat.le_of_ble_eq_true rfl, Nat.le_of_ble_eq_true rfl⟩ hl.1 rfl (Nat.le_of_ble_eq_true rfl) ⟨law_c (by omega), law_s (by omega)⟩ dL_law_660 (fun x182 S181 H locs hw h => ?_)
              refine lv_iload hx hb dL_law_663 (lv_at hl 2 rfl) ?_
              refine lv_iload hx hb dL_law_665 (lv_at hl 0 rfl) ?_
              refine lv_isub hx hb dL_law_667 ?_
              refine lv_icmp_ne (tgt := 675) hx hb dL_law_668 (by decide) (fun c183 => ?_) (fun c183 => ?_)
              · have hw := hw.1 c183
                exact hw.elim
              · have hw := hw.2 c183
                refine lv_iconst (v := (nI 1)) hx hb dL_law_671 (by decide) ?_
                refine lv_goto (tgt := 676) hx hb dL_law_672 (by decide) ?_
                refine lv_istore (lv' := [(10, .int (nI 1)), (26, .int x169), (19, .int x165), (25, .int x163), (24, .int x161), (23, .int x158), (22, .int x156), (0, .ref b), (1, .ref w1), (2, .ref w2), (3, .ref w3), (4, .ref w4), (5, .ref w5), (6, .long w6), (8, .long w8), (11, .int w11), (12, .int w12), (13, .long w13), (17, .int w17), (20, .int w20), (21, .int w21)]) hx hb dL_law_676 hl (by decide) rfl (fun ls hl => ?_)
                refine lv_lload hx hb dL_law_678 (lv_at hl 13 rfl) ?_
                refine lv_iload hx hb dL_law_680 (lv_at hl 2 rfl) ?_
                refine lv_if_ge (tgt := 689) hx hb dL_law_682 (by decide) (fun c184 => ?_) (fun c184 => ?_)
                · have hw := hw.1 c184
                  refine lv_iload hx hb dL_law_689 (lv_at hl 20 rfl) ?_
                  refine lv_i2l (v := w21.toInt64) hx hb dL_law_691 rfl ?_
                  refine lv_ladd hx hb dL_law_692 ?_
                  refine lv_lstore (lv' := [(6, .long (w6 + w21.toInt64)), (10, .int (nI 1)), (26, .int x169), (19, .int x165), (25, .int x163), (24, .int x161), (23, .int x158), (22, .int x156), (0, .ref b), (1, .ref w1), (2, .ref w2), (3, .ref w3), (4, .ref w4), (5, .ref w5), (8, .long w8), (11, .int w11), (12, .int w12), (13, .long w13), (17, .int w17), (20, .int w20), (21, .int w21)]) hx hb dL_law_693 hl (by decide) rfl (fun ls hl => ?_)
                  refine lv_goto (tgt := 824) hx hb dL_law_695 (by decide) ?_
                  exact lcL_law_824 X hX hbl hbA hr hlk hl9 post hpost _ Bc Bs hJ _ _ _ _ _ _ _ _ _ _ _ _ _ hw _ _ _ _ _ (by omega) (by omega) h (lv_sub hl [8, 9, 10, 11, 12, 13, 0, 14, 1, 15, 16, 17, 3] rfl)
                · have hw := hw.2 c184
                  refine lv_lconst (v := 0) hx hb dL_law_685 (by decide) ?_
                  refine lv_goto (tgt := 692) hx hb dL_law_686 (by decide) ?_
                  refine lv_ladd hx hb dL_law_692 ?_
                  refine lv_lstore (lv' := [(6, .long (w6 + (0 : Int64))), (10, .int (nI 1)), (26, .int x169), (19, .int x165), (25, .int x163), (24, .int x161), (23, .int x158), (22, .int x156), (0, .ref b), (1, .ref w1), (2, .ref w2), (3, .ref w3), (4, .ref w4), (5, .ref w5), (8, .long w8), (11, .int w11), (12, .int w12), (13, .long w13), (17, .int w17), (20, .int w20), (21, .int w21)]) hx hb dL_law_693 hl (by decide) rfl (fun ls hl => ?_)
                  refine lv_goto (tgt := 824) hx hb dL_law_695 (by decide) ?_
                  exact lcL_law_824 X hX hbl hbA hr hlk hl9 post hpost _ Bc Bs hJ _ _ _ _ _ _ _ _ _ _ _ _ _ hw _ _ _ _ _ (by omega) (by omega) h (lv_sub hl [8, 9, 10, 11, 12, 13, 0, 14, 1, 15, 16, 17, 3] rfl)
def wcL_law_337  (L : Nat) (xs : Nat → Int32) (post : Int32 → Mem → Prop) (J : Nat → Nat → Nat → Nat → Nat → Int64 → Int64 → Int32 → Int32 → Int32 → Mem → Prop) (w1 : Nat) (w2 : Nat) (w3 : Nat) (w4 : Nat) (w5 : Nat) (w6 : Int64) (w8 : Int64) (w10 : Int32) (w11 : Int32) (w12 : Int32) (w13 : Int64) (w15 : Int32) (w16 : Int32) (w17 : Int32) (w18 : Int32) (S : Mem) : Prop := ((nI 5) ≤ w15 → (((nI 7) ≤ w15 → ((¬ w15 = (nI 7) → (((nI 17) ≤ w15 → ((¬ (w18 - w18 / (nI 37) * (nI 37)) = 0 → (∀ x45 : Int32, x45 = ((nI 1) + (w18 - w18 / (nI 8) * (nI 8))) → (wcL_law_719 L xs post J w1 w2 w3 w4 w5 w6 w8 w11 w12 w13 w17 x45 S))) ∧ ((w18 - w18 / (nI 37) * (nI 37)) = 0 → (wcL_law_719 L xs post J w1 w2 w3 w4 w5 w6 w8 w11 w12 w13 w17 (nI 0) S)))) ∧ (¬ (nI 17) ≤ w15 → (∀ x152 : Int32, x152 = (w18 - w18 / (nI 5) * (nI 5)) → ((¬ (w18 - w18 / (nI 31) * (nI 31)) = 0 → (∀ x154 : Int32, x154 = ((nI 1) + (w18 - w18 / (nI 20) * (nI 20))) → (wcL_law_552 L xs post J w1 w2 w3 w4 w5 w6 w8 w11 w12 w13 w17 x152 x154 S))) ∧ ((w18 - w18 / (nI 31) * (nI 31)) = 0 → (wcL_law_552 L xs post J w1 w2 w3 w4 w5 w6 w8 w11 w12 w13 w17 x152 (nI 0) S))))))) ∧ (w15 = (nI 7) → (((w18 - w18 / (nI 4) * (nI 4)) ≤ 0 → (wpL_addPage S w1 w17 w16 (fun x187 S186 => (x187 ≤ 0 → (wcL_law_824 L xs post J w1 w2 w3 w4 w5 w6 w8 w10 w11 w12 w13 x187 S186)) ∧ (¬ x187 ≤ 0 → (isK S186 w2 12 ∧ (vp_in w17 (mN S186 w2) ∧ (∃ o191, mR S186 w2 w17.toNatClampNeg = some o191 ∧ (isK S186 o191 8 ∧ (vp_in (x187 - (nI 1)) (mN S186 o191) ∧ (∀ S194 : Mem, S194 = (sI S186 o191 (x187 - (nI 1)).toNatClampNeg w16) → (isK S194 w3 8 ∧ (vp_in w17 (mN S194 w3) ∧ ((¬ x187 = ((mI S194 w3 w17.toNatClampNeg) + (nI 1)) → (False)) ∧ (x187 = ((mI S194 w3 w17.toNatClampNeg) + (nI 1)) → (wpL_pages S194 w1 w17 (fun x199 S198 => (¬ x199 = x187 → (False)) ∧ (x199 = x187 → (isK S198 w3 8 ∧ (vp_in w17 (mN S198 w3) ∧ (∀ x203 : Int32, x203 = ((mI S198 w3 w17.toNatClampNeg) + (nI 1)) → (vp_in w17 (mN S198 w3) ∧ (∀ S205 : Mem, S205 = (sI S198 w3 w17.toNatClampNeg x203) → (wcL_law_824 L xs post J w1 w2 w3 w4 w5 w6 w8 (nI 1) w11 w12 w13 x187 S205))))))))))))))))))))))) ∧ (¬ (w18 - w18 / (nI 4) * (nI 4)) ≤ 0 → (((nI 0) ≤ 0 → (wcL_law_824 L xs post J w1 w2 w3 w4 w5 w6 w8 w10 w11 w12 w13 (nI 0) S)) ∧ (¬ (nI 0) ≤ 0 → (isK S w2 12 ∧ (vp_in w17 (mN S w2) ∧ (∃ o209, mR S w2 w17.toNatClampNeg = some o209 ∧ (isK S o209 8 ∧ (vp_in ((nI 0) - (nI 1)) (mN S o209) ∧ (∀ S212 : Mem, S212 = (sI S o209 ((nI 0) - (nI 1)).toNatClampNeg w16) → (isK S212 w3 8 ∧ (vp_in w17 (mN S212 w3) ∧ ((¬ (nI 0) = ((mI S212 w3 w17.toNatClampNeg) + (nI 1)) → (False)) ∧ ((nI 0) = ((mI S212 w3 w17.toNatClampNeg) + (nI 1)) → (wpL_pages S212 w1 w17 (fun x217 S216 => (¬ x217 = (nI 0) → (False)) ∧ (x217 = (nI 0) → (isK S216 w3 8 ∧ (vp_in w17 (mN S216 w3) ∧ (∀ x221 : Int32, x221 = ((mI S216 w3 w17.toNatClampNeg) + (nI 1)) → (vp_in w17 (mN S216 w3) ∧ (∀ S223 : Mem, S223 = (sI S216 w3 w17.toNatClampNeg x221) → (wcL_law_824 L xs post J w1 w2 w3 w4 w5 w6 w8 (nI 1) w11 w12 w13 (nI 0) S223)))))))))))))))))))))))))) ∧ (¬ (nI 7) ≤ w15 → (isK S w1 6 ∧ (wpX6_waste S w1 (fun x226 S224 => wpL_state S224 w1 w16 (fun x228 S227 => wpL_correct S227 w1 w16 (fun x230 S229 => (x230 < 0 → (wcL_law_824 L xs post J w1 w2 w3 w4 w5 w6 w8 (nI 1) w11 w12 w13 x230 S229)) ∧ (¬ x230 < 0 → (wpL_state S229 w1 w16 (fun x233 S232 => (¬ x233 = (x228 + (nI 1)) → (False)) ∧ (x233 = (x228 + (nI 1)) → (isK S232 w1 6 ∧ (wpX6_waste S232 w1 (fun x237 S235 => (¬ (lg_cmp x237 (x226 + x230.toInt64)) = 0 → (False)) ∧ ((lg_cmp x237 (x226 + x230.toInt64)) = 0 → (wpL_approve S235 w1 w16 (fun x240 S239 => (¬ x240 = 0 → (False)) ∧ (x240 = 0 → (wcL_law_824 L xs post J w1 w2 w3 w4 w5 w6 w8 (nI 1) w11 w12 w13 x230 S239)))))))))))))))))))) ∧ (¬ (nI 5) ≤ w15 → (wpL_approve S w1 w16 (fun x243 S242 => wcL_law_824 L xs post J w1 w2 w3 w4 w5 w6 w8 w10 w11 w12 w13 x243 S242)))
set_option maxHeartbeats 8000000 in
set_option maxRecDepth 100000 in
theorem lcL_law_337 {p : Program} {l : Launch} {e : Env} {s : State} {m : MethodId} {below : List Frame} {meth : Method} {c : Code} {G : GT} {b L : Nat} {xs : Nat → Int32} (X : Cx p s m #[Value.ref b] meth c cL_law 27 RL G (fun q : Nat => s.heap.size ≤ q)) (hX : va_X b L xs s s.heap) (hbl : b < s.heap.size) (hbA : ¬ (fun q : Nat => s.heap.size ≤ q) b) (hr : meth.sig.returnType = ret) (hlk : meth.locks = false) (hl9 : l.stackTraces = false) (post : Int32 → Mem → Prop) (hpost : ∀ r S, post r S → r = 1) (J : Nat → Nat → Nat → Nat → Nat → Int64 → Int64 → Int32 → Int32 → Int32 → Mem → Prop) (Bc Bs : Nat) (hJ : ∀ (w1 : Nat) (w2 : Nat) (w3 : Nat) (w4 : Nat) (w5 : Nat) (w6 : Int64) (w8 : Int64) (w10 : Int32) (w11 : Int32) (w12 : Int32) (S : Mem), J w1 w2 w3 w4 w5 w6 w8 w10 w11 w12 S → ∀ (H : Heap) (locs : List Loc) (ls : Array Slot) (kc ks : Nat), kc + Bc ≤ 678795 → ks + Bs ≤ 7054424 → Hx G (fun q : Nat => s.heap.size ≤ q) s.heap H locs S → lv_has ls 27 [(0, .ref b), (1, .ref w1), (2, .ref w2), (3, .ref w3), (4, .ref w4), (5, .ref w5), (6, .long w6), (8, .long w8), (10, .int w10), (11, .int w11), (12, .int w12)] → W p l e room_1 s m #[Value.ref b] below meth c H locs kc ks (lw_Z below #[Value.ref b] s) (F0 m 237 ls [])) : ∀ (w1 : Nat) (w2 : Nat) (w3 : Nat) (w4 : Nat) (w5 : Nat) (w6 : Int64) (w8 : Int64) (w10 : Int32) (w11 : Int32) (w12 : Int32) (w13 : Int64) (w15 : Int32) (w16 : Int32) (w17 : Int32) (w18 : Int32) (S : Mem) (hw : wcL_law_337 L xs post J w1 w2 w3 w4 w5 w6 w8 w10 w11 w12 w13 w15 w16 w17 w18 S) (H : Heap) (locs : List Loc) (ls : Array Slot) (kc ks : Nat), kc + (5602 + Bc) ≤ 678795 → ks + (33452 + Bs) ≤ 7054424 → Hx G (fun q : Nat => s.heap.size ≤ q) s.heap H locs S → lv_has ls 27 [(0, .ref b), (1, .ref w1), (2, .ref w2), (3, .ref w3), (4, .ref w4), (5, .ref w5), (6, .long w6), (8, .long w8), (10, .int w10), (11, .int w11), (12, .int w12), (13, .long w13), (15, .int w15), (16, .int w16), (17, .int w17), (18, .int w18)] → W p l e room_1 s m #[Value.ref b] below meth c H locs kc ks (lw_Z below #[Value.ref b] s) (F0 m 337 ls []) := by
  have hx := X.1
  have hb := X.2.1
  have hown := X.2.2.2.1
  intro w1 w2 w3 w4 w5 w6 w8 w10 w11 w12 w13 w15 w16 w17 w18 S hw H locs ls kc ks hkc hks h hl
  unfold wcL_law_337 at hw
  refine lv_iload hx hb dL_law_337 (lv_at hl 12 rfl) ?_
  refine lv_iconst (v := (nI 5)) hx hb dL_law_339 (by decide) ?_
  refine lv_icmp_ge (tgt := 354) hx hb dL_law_340 (by decide) (fun c40 => ?_) (fun c40 => ?_)
  · have hw := hw.1 c40
    refine lv_iload hx hb dL_law_354 (lv_at hl 12 rfl) ?_
    refine lv_bipush (v := (nI 7)) hx hb dL_law_356 (by decide) ?_
    refine lv_icmp_ge (tgt := 434) hx hb dL_law_358 (by decide) (fun c41 => ?_) (fun c41 => ?_)
    · have hw := hw.1 c41
      refine lv_iload hx hb dL_law_434 (lv_at hl 12 rfl) ?_
      refine lv_bipush (v := (nI 7)) hx hb dL_law_436 (by decide) ?_
      refine lv_icmp_ne (tgt := 518) hx hb dL_law_438 (by decide) (fun c42 => ?_) (fun c42 => ?_)
      · have hw := hw.1 c42
        refine lv_iload hx hb dL_law_518 (lv_at hl 12 rfl) ?_
        refine lv_bipush (v := (nI 17)) hx hb dL_law_520 (by decide) ?_
        refine lv_icmp_ge (tgt := 698) hx hb dL_law_522 (by decide) (fun c43 => ?_) (fun c43 => ?_)
        · have hw := hw.1 c43
          refine lv_iload hx hb dL_law_698 (lv_at hl 15 rfl) ?_
          refine lv_bipush (v := (nI 37)) hx hb dL_law_700 (by decide) ?_
          refine lv_irem hx hb dL_law_702 (by decide) ?_
          refine lv_if_ne (tgt := 710) hx hb dL_law_703 (by decide) (fun c44 => ?_) (fun c44 => ?_)
          · have hw := hw.1 c44
            refine lv_iconst (v := (nI 1)) hx hb dL_law_710 (by decide) ?_
            refine lv_iload hx hb dL_law_711 (lv_at hl 15 rfl) ?_
            refine lv_bipush (v := (nI 8)) hx hb dL_law_713 (by decide) ?_
            refine lv_irem hx hb dL_law_715 (by decide) ?_
            refine lv_iadd hx hb dL_law_716 ?_
            refine lv_topi (fun x45 ex45 => ?_)
            have hw := hw x45 ex45
            refine lv_istore (lv' := [(20, .int x45), (0, .ref b), (1, .ref w1), (2, .ref w2), (3, .ref w3), (4, .ref w4), (5, .ref w5), (6, .long w6), (8, .long w8), (10, .int w10), (11, .int w11), (12, .int w12), (13, .long w13), (15, .int w15), (16, .int w16), (17, .int w17), (18, .int w18)]) hx hb dL_law_717 hl (by decide) rfl (fun ls hl => ?_)
            exact lcL_law_719 X hX hbl hbA hr hlk hl9 post hpost _ Bc Bs hJ _ _ _ _ _ _ _ _ _ _ _ _ _ hw _ _ _ _ _ (by omega) (by omega) h (lv_sub hl [1, 2, 3, 4, 5, 6, 7, 8, 10, 11, 12, 15, 0] rfl)
          · have hw := hw.2 c44
            refine lv_iconst (v := (nI 0)) hx hb dL_law_706 (by decide) ?_
            refine lv_goto (tgt := 717) hx hb dL_law_707 (by decide) ?_
            refine lv_istore (lv' := [(20, .int (nI 0)), (0, .ref b), (1, .ref w1), (2, .ref w2), (3, .ref w3), (4, .ref w4), (5, .ref w5), (6, .long w6), (8, .long w8), (10, .int w10), (11, .int w11), (12, .int w12), (13, .long w13), (15, .int w15), (16, .int w16), (17, .int w17), (18, .int w18)]) hx hb dL_law_717 hl (by decide) rfl (fun ls hl => ?_)
            exact lcL_law_719 X hX hbl hbA hr hlk hl9 post hpost _ Bc Bs hJ _ _ _ _ _ _ _ _ _ _ _ _ _ hw _ _ _ _ _ (by omega) (by omega) h (lv_sub hl [1, 2, 3, 4, 5, 6, 7, 8, 10, 11, 12, 15, 0] rfl)
        · have hw := hw.2 c43
          refine lv_iload hx hb dL_law_525 (lv_at hl 15 rfl) ?_
          refine lv_iconst (v := (nI 5)) hx hb dL_law_527 (by decide) ?_
          refine lv_irem hx hb dL_law_528 (by decide) ?_
          refine lv_topi (fun x152 ex152 => ?_)
          have hw := hw x152 ex152
          refine lv_istore (lv' := [(20, .int x152), (0, .ref b), (1, .ref w1), (2, .ref w2), (3, .ref w3), (4, .ref w4), (5, .ref w5), (6, .long w6), (8, .long w8), (10, .int w10), (11, .int w11), (12, .int w12), (13, .long w13), (15, .int w15), (16, .int w16), (17, .int w17), (18, .int w18)]) hx hb dL_law_529 hl (by decide) rfl (fun ls hl => ?_)
          refine lv_iload hx hb dL_law_531 (lv_at hl 16 rfl) ?_
          refine lv_bipush (v := (nI 31)) hx hb dL_law_533 (by decide) ?_
          refine lv_irem hx hb dL_law_535 (by decide) ?_
          refine lv_if_ne (tgt := 543) hx hb dL_law_536 (by decide) (fun c153 => ?_) (fun c153 => ?_)
          · have hw := hw.1 c153
            refine lv_iconst (v := (nI 1)) hx hb dL_law_543 (by decide) ?_
            refine lv_iload hx hb dL_law_544 (lv_at hl 16 rfl) ?_
            refine lv_bipush (v := (nI 20)) hx hb dL_law_546 (by decide) ?_
            refine lv_irem hx hb dL_law_548 (by decide) ?_
            refine lv_iadd hx hb dL_law_549 ?_
            refine lv_topi (fun x154 ex154 => ?_)
            have hw := hw x154 ex154
            refine lv_istore (lv' := [(21, .int x154), (20, .int x152), (0, .ref b), (1, .ref w1), (2, .ref w2), (3, .ref w3), (4, .ref w4), (5, .ref w5), (6, .long w6), (8, .long w8), (10, .int w10), (11, .int w11), (12, .int w12), (13, .long w13), (15, .int w15), (16, .int w16), (17, .int w17), (18, .int w18)]) hx hb dL_law_550 hl (by decide) rfl (fun ls hl => ?_)
            exact lcL_law_552 X hX hbl hbA hr hlk hl9 post hpost _ Bc Bs hJ _ _ _ _ _ _ _ _ _ _ _ _ _ _ hw _ _ _ _ _ (by omega) (by omega) h (lv_sub hl [2, 3, 4, 5, 6, 7, 8, 9, 11, 12, 13, 16, 1, 0] rfl)
          · have hw := hw.2 c153
            refine lv_iconst (v := (nI 0)) hx hb dL_law_539 (by decide) ?_
            refine lv_goto (tgt := 550) hx hb dL_law_540 (by decide) ?_
            refine lv_istore (lv' := [(21, .int (nI 0)), (20, .int x152), (0, .ref b), (1, .ref w1), (2, .ref w2), (3, .ref w3), (4, .ref w4), (5, .ref w5), (6, .long w6), (8, .long w8), (10, .int w10), (11, .int w11), (12, .int w12), (13, .long w13), (15, .int w15), (16, .int w16), (17, .int w17), (18, .int w18)]) hx hb dL_law_550 hl (by decide) rfl (fun ls hl => ?_)
            exact lcL_law_552 X hX hbl hbA hr hlk hl9 post hpost _ Bc Bs hJ _ _ _ _ _ _ _ _ _ _ _ _ _ _ hw _ _ _ _ _ (by omega) (by omega) h (lv_sub hl [2, 3, 4, 5, 6, 7, 8, 9, 11, 12, 13, 16, 1, 0] rfl)
      · have hw := hw.2 c42
        refine lv_iload hx hb dL_law_441 (lv_at hl 15 rfl) ?_
        refine lv_iconst (v := (nI 4)) hx hb dL_law_443 (by decide) ?_
        refine lv_irem hx hb dL_law_444 (by decide) ?_
        refine lv_if_le (tgt := 452) hx hb dL_law_445 (by decide) (fun c185 => ?_) (fun c185 => ?_)
        · have hw := hw.1 c185
          refine lv_aload_n hx hb dL_law_452 rfl (lv_at hl 1 rfl) ?_
          refine lv_iload hx hb dL_law_453 (lv_at hl 14 rfl) ?_
          refine lv_iload hx hb dL_law_455 (lv_at hl 13 rfl) ?_
          refine rc_H (As := [.ref w1, .int w17, .int w16]) (rest := []) X h (meL_addPage l hl9 G _ _ _ _ _ hw) gS_L_111 rfl rfl hdS_L_addPage rfl ⟨Nat.le_of_ble_eq_true rfl, Nat.le_of_ble_eq_true rfl⟩ hl.1 rfl (Nat.le_of_ble_eq_true rfl) ⟨law_c (by omega), law_s (by omega)⟩ dL_law_457 (fun x187 S186 H locs hw h => ?_)
          refine lv_istore (lv' := [(19, .int x187), (0, .ref b), (1, .ref w1), (2, .ref w2), (3, .ref w3), (4, .ref w4), (5, .ref w5), (6, .long w6), (8, .long w8), (10, .int w10), (11, .int w11), (12, .int w12), (13, .long w13), (15, .int w15), (16, .int w16), (17, .int w17), (18, .int w18)]) hx hb dL_law_460 hl (by decide) rfl (fun ls hl => ?_)
          refine lv_iload hx hb dL_law_462 (lv_at hl 0 rfl) ?_
          refine lv_if_le (tgt := 824) hx hb dL_law_464 (by decide) (fun c188 => ?_) (fun c188 => ?_)
          · have hw := hw.1 c188
            exact lcL_law_824 X hX hbl hbA hr hlk hl9 post hpost _ Bc Bs hJ _ _ _ _ _ _ _ _ _ _ _ _ _ hw _ _ _ _ _ (by omega) (by omega) h (lv_sub hl [1, 2, 3, 4, 5, 6, 7, 8, 9, 10, 11, 12, 0] rfl)
          · have hw := hw.2 c188
            refine lv_aload_n hx hb dL_law_467 rfl (lv_at hl 3 rfl) ?_
            refine lv_iload hx hb dL_law_468 (lv_at hl 15 rfl) ?_
            obtain ⟨k189, hw⟩ := hw
            obtain ⟨v190, hw⟩ := hw
            obtain ⟨o191, eo191, hw⟩ := hw
            refine r_aldA X h k189 v190 eo191 dL_law_470 ?_
            refine lv_iload hx hb dL_law_471 (lv_at hl 0 rfl) ?_
            refine lv_iconst (v := (nI 1)) hx hb dL_law_473 (by decide) ?_
            refine lv_isub hx hb dL_law_474 ?_
            refine lv_iload hx hb dL_law_475 (lv_at hl 14 rfl) ?_
            obtain ⟨k192, hw⟩ := hw
            obtain ⟨v193, hw⟩ := hw
            refine r_iast X h k192 v193 dL_law_477 (fun H locs h => ?_)
            obtain ⟨S194, eS194⟩ : ∃ z : Mem, z = (sI S186 o191 (x187 - (nI 1)).toNatClampNeg w16) := ⟨_, rfl⟩
            rw [← eS194] at h
            have hw := hw S194 eS194
            refine lv_iload hx hb dL_law_478 (lv_at hl 0 rfl) ?_
            refine lv_aload_n hx hb dL_law_480 rfl (lv_at hl 4 rfl) ?_
            refine lv_iload hx hb dL_law_481 (lv_at hl 15 rfl) ?_
            obtain ⟨k195, hw⟩ := hw
            obtain ⟨v196, hw⟩ := hw
            refine r_iald X h k195 v196 dL_law_483 ?_
            refine lv_iconst (v := (nI 1)) hx hb dL_law_484 (by decide) ?_
            refine lv_iadd hx hb dL_law_485 ?_
            refine lv_icmp_ne (tgt := 504) hx hb dL_law_486 (by decide) (fun c197 => ?_) (fun c197 => ?_)
            · have hw := hw.1 c197
              exact hw.elim
            · have hw := hw.2 c197
              refine lv_aload_n hx hb dL_law_489 rfl (lv_at hl 2 rfl) ?_
              refine lv_iload hx hb dL_law_490 (lv_at hl 15 rfl) ?_
              refine rc_H (As := [.ref w1, .int w17]) (rest := []) X h (meL_pages l hl9 G _ _ _ _ hw) gS_L_129 rfl rfl hdS_L_pages rfl ⟨Nat.le_of_ble_eq_true rfl, Nat.le_of_ble_eq_true rfl⟩ hl.1 rfl (Nat.le_of_ble_eq_true rfl) ⟨law_c (by omega), law_s (by omega)⟩ dL_law_492 (fun x199 S198 H locs hw h => ?_)
              refine lv_iload hx hb dL_law_495 (lv_at hl 0 rfl) ?_
              refine lv_icmp_ne (tgt := 504) hx hb dL_law_497 (by decide) (fun c200 => ?_) (fun c200 => ?_)
              · have hw := hw.1 c200
                exact hw.elim
              · have hw := hw.2 c200
                refine lv_iconst (v := (nI 1)) hx hb dL_law_500 (by decide) ?_
                refine lv_goto (tgt := 505) hx hb dL_law_501 (by decide) ?_
                refine lv_istore (lv' := [(10, .int (nI 1)), (19, .int x187), (0, .ref b), (1, .ref w1), (2, .ref w2), (3, .ref w3), (4, .ref w4), (5, .ref w5), (6, .long w6), (8, .long w8), (11, .int w11), (12, .int w12), (13, .long w13), (15, .int w15), (16, .int w16), (17, .int w17), (18, .int w18)]) hx hb dL_law_505 hl (by decide) rfl (fun ls hl => ?_)
                refine lv_aload_n hx hb dL_law_507 rfl (lv_at hl 5 rfl) ?_
                refine lv_iload hx hb dL_law_508 (lv_at hl 15 rfl) ?_
                refine lv_dup2_11 hx hb dL_law_510 rfl rfl ?_
                obtain ⟨k201, hw⟩ := hw
                obtain ⟨v202, hw⟩ := hw
                refine r_iald X h k201 v202 dL_law_511 ?_
                refine lv_iconst (v := (nI 1)) hx hb dL_law_512 (by decide) ?_
                refine lv_iadd hx hb dL_law_513 ?_
                refine lv_topi (fun x203 ex203 => ?_)
                have hw := hw x203 ex203
                obtain ⟨v204, hw⟩ := hw
                refine r_iast X h k201 v204 dL_law_514 (fun H locs h => ?_)
                obtain ⟨S205, eS205⟩ : ∃ z : Mem, z = (sI S198 w3 w17.toNatClampNeg x203) := ⟨_, rfl⟩
                rw [← eS205] at h
                have hw := hw S205 eS205
                refine lv_goto (tgt := 824) hx hb dL_law_515 (by decide) ?_
                exact lcL_law_824 X hX hbl hbA hr hlk hl9 post hpost _ Bc Bs hJ _ _ _ _ _ _ _ _ _ _ _ _ _ hw _ _ _ _ _ (by omega) (by omega) h (lv_sub hl [2, 3, 4, 5, 6, 7, 8, 9, 0, 10, 11, 12, 1] rfl)
        · have hw := hw.2 c185
          refine lv_iconst (v := (nI 0)) hx hb dL_law_448 (by decide) ?_
          refine lv_goto (tgt := 460) hx hb dL_law_449 (by decide) ?_
          refine lv_istore (lv' := [(19, .int (nI 0)), (0, .ref b), (1, .ref w1), (2, .ref w2), (3, .ref w3), (4, .ref w4), (5, .ref w5), (6, .long w6), (8, .long w8), (10, .int w10), (11, .int w11), (12, .int w12), (13, .long w13), (15, .int w15), (16, .int w16), (17, .int w17), (18, .int w18)]) hx hb dL_law_460 hl (by decide) rfl (fun ls hl => ?_)
          refine lv_iload hx hb dL_law_462 (lv_at hl 0 rfl) ?_
          refine lv_if_le (tgt := 824) hx hb dL_law_464 (by decide) (fun c206 => ?_) (fun c206 => ?_)
          · have hw := hw.1 c206
            exact lcL_law_824 X hX hbl hbA hr hlk hl9 post hpost _ Bc Bs hJ _ _ _ _ _ _ _ _ _ _ _ _ _ hw _ _ _ _ _ (by omega) (by omega) h (lv_sub hl [1, 2, 3, 4, 5, 6, 7, 8, 9, 10, 11, 12, 0] rfl)
          · have hw := hw.2 c206
            refine lv_aload_n hx hb dL_law_467 rfl (lv_at hl 3 rfl) ?_
            refine lv_iload hx hb dL_law_468 (lv_at hl 15 rfl) ?_
            obtain ⟨k207, hw⟩ := hw
            obtain ⟨v208, hw⟩ := hw
            obtain ⟨o209, eo209, hw⟩ := hw
            refine r_aldA X h k207 v208 eo209 dL_law_470 ?_
            refine lv_iload hx hb dL_law_471 (lv_at hl 0 rfl) ?_
            refine lv_iconst (v := (nI 1)) hx hb dL_law_473 (by decide) ?_
            refine lv_isub hx hb dL_law_474 ?_
            refine lv_iload hx hb dL_law_475 (lv_at hl 14 rfl) ?_
            obtain ⟨k210, hw⟩ := hw
            obtain ⟨v211, hw⟩ := hw
            refine r_iast X h k210 v211 dL_law_477 (fun H locs h => ?_)
            obtain ⟨S212, eS212⟩ : ∃ z : Mem, z = (sI S o209 ((nI 0) - (nI 1)).toNatClampNeg w16) := ⟨_, rfl⟩
            rw [← eS212] at h
            have hw := hw S212 eS212
            refine lv_iload hx hb dL_law_478 (lv_at hl 0 rfl) ?_
            refine lv_aload_n hx hb dL_law_480 rfl (lv_at hl 4 rfl) ?_
            refine lv_iload hx hb dL_law_481 (lv_at hl 15 rfl) ?_
            obtain ⟨k213, hw⟩ := hw
            obtain ⟨v214, hw⟩ := hw
            refine r_iald X h k213 v214 dL_law_483 ?_
            refine lv_iconst (v := (nI 1)) hx hb dL_law_484 (by decide) ?_
            refine lv_iadd hx hb dL_law_485 ?_
            refine lv_icmp_ne (tgt := 504) hx hb dL_law_486 (by decide) (fun c215 => ?_) (fun c215 => ?_)
            · have hw := hw.1 c215
              exact hw.elim
            · have hw := hw.2 c215
              refine lv_aload_n hx hb dL_law_489 rfl (lv_at hl 2 rfl) ?_
              refine lv_iload hx hb dL_law_490 (lv_at hl 15 rfl) ?_
              refine rc_H (As := [.ref w1, .int w17]) (rest := []) X h (meL_pages l hl9 G _ _ _ _ hw) gS_L_129 rfl rfl hdS_L_pages rfl ⟨Nat.le_of_ble_eq_true rfl, Nat.le_of_ble_eq_true rfl⟩ hl.1 rfl (Nat.le_of_ble_eq_true rfl) ⟨law_c (by omega), law_s (by omega)⟩ dL_law_492 (fun x217 S216 H locs hw h => ?_)
              refine lv_iload hx hb dL_law_495 (lv_at hl 0 rfl) ?_
              refine lv_icmp_ne (tgt := 504) hx hb dL_law_497 (by decide) (fun c218 => ?_) (fun c218 => ?_)
              · have hw := hw.1 c218
                exact hw.elim
              · have hw := hw.2 c218
                refine lv_iconst (v := (nI 1)) hx hb dL_law_500 (by decide) ?_
                refine lv_goto (tgt := 505) hx hb dL_law_501 (by decide) ?_
                refine lv_istore (lv' := [(10, .int (nI 1)), (19, .int (nI 0)), (0, .ref b), (1, .ref w1), (2, .ref w2), (3, .ref w3), (4, .ref w4), (5, .ref w5), (6, .long w6), (8, .long w8), (11, .int w11), (12, .int w12), (13, .long w13), (15, .int w15), (16, .int w16), (17, .int w17), (18, .int w18)]) hx hb dL_law_505 hl (by decide) rfl (fun ls hl => ?_)
                refine lv_aload_n hx hb dL_law_507 rfl (lv_at hl 5 rfl) ?_
                refine lv_iload hx hb dL_law_508 (lv_at hl 15 rfl) ?_
                refine lv_dup2_11 hx hb dL_law_510 rfl rfl ?_
                obtain ⟨k219, hw⟩ := hw
                obtain ⟨v220, hw⟩ := hw
                refine r_iald X h k219 v220 dL_law_511 ?_
                refine lv_iconst (v := (nI 1)) hx hb dL_law_512 (by decide) ?_
                refine lv_iadd hx hb dL_law_513 ?_
                refine lv_topi (fun x221 ex221 => ?_)
                have hw := hw x221 ex221
                obtain ⟨v222, hw⟩ := hw
                refine r_iast X h k219 v222 dL_law_514 (fun H locs h => ?_)
                obtain ⟨S223, eS223⟩ : ∃ z : Mem, z = (sI S216 w3 w17.toNatClampNeg x221) := ⟨_, rfl⟩
                rw [← eS223] at h
                have hw := hw S223 eS223
                refine lv_goto (tgt := 824) hx hb dL_law_515 (by decide) ?_
                exact lcL_law_824 X hX hbl hbA hr hlk hl9 post hpost _ Bc Bs hJ _ _ _ _ _ _ _ _ _ _ _ _ _ hw _ _ _ _ _ (by omega) (by omega) h (lv_sub hl [2, 3, 4, 5, 6, 7, 8, 9, 0, 10, 11, 12, 1] rfl)
    · have hw := hw.2 c41
      refine lv_aload_n hx hb dL_law_361 rfl (lv_at hl 1 rfl) ?_
      obtain ⟨k225, hw⟩ := hw
      refine rc_V (As := []) (rest := []) X h k225 (by decide) rfl (meX6_waste l G _ _ _ hw) gV_L_121 rfl rfl hdV_X6_waste rfl ⟨Nat.le_of_ble_eq_true rfl, Nat.le_of_ble_eq_true rfl⟩ hl.1 rfl (Nat.le_of_ble_eq_true rfl) ⟨law_c (by omega), law_s (by omega)⟩ dL_law_362 (fun x226 S224 H locs hw h => ?_)
      refine lv_lstore (lv' := [(20, .long x226), (0, .ref b), (1, .ref w1), (2, .ref w2), (3, .ref w3), (4, .ref w4), (5, .ref w5), (6, .long w6), (8, .long w8), (10, .int w10), (11, .int w11), (12, .int w12), (13, .long w13), (15, .int w15), (16, .int w16), (17, .int w17), (18, .int w18)]) hx hb dL_law_365 hl (by decide) rfl (fun ls hl => ?_)
      refine lv_aload_n hx hb dL_law_367 rfl (lv_at hl 2 rfl) ?_
      refine lv_iload hx hb dL_law_368 (lv_at hl 14 rfl) ?_
      refine rc_H (As := [.ref w1, .int w16]) (rest := []) X h (meL_state l hl9 G _ _ _ _ hw) gS_L_125 rfl rfl hdS_L_state rfl ⟨Nat.le_of_ble_eq_true rfl, Nat.le_of_ble_eq_true rfl⟩ hl.1 rfl (Nat.le_of_ble_eq_true rfl) ⟨law_c (by omega), law_s (by omega)⟩ dL_law_370 (fun x228 S227 H locs hw h => ?_)
      refine lv_istore (lv' := [(22, .int x228), (20, .long x226), (0, .ref b), (1, .ref w1), (2, .ref w2), (3, .ref w3), (4, .ref w4), (5, .ref w5), (6, .long w6), (8, .long w8), (10, .int w10), (11, .int w11), (12, .int w12), (13, .long w13), (15, .int w15), (16, .int w16), (17, .int w17), (18, .int w18)]) hx hb dL_law_373 hl (by decide) rfl (fun ls hl => ?_)
      refine lv_aload_n hx hb dL_law_375 rfl (lv_at hl 3 rfl) ?_
      refine lv_iload hx hb dL_law_376 (lv_at hl 15 rfl) ?_
      refine rc_H (As := [.ref w1, .int w16]) (rest := []) X h (meL_correct l hl9 G _ _ _ _ hw) gS_L_127 rfl rfl hdS_L_correct rfl ⟨Nat.le_of_ble_eq_true rfl, Nat.le_of_ble_eq_true rfl⟩ hl.1 rfl (Nat.le_of_ble_eq_true rfl) ⟨law_c (by omega), law_s (by omega)⟩ dL_law_378 (fun x230 S229 H locs hw h => ?_)
      refine lv_istore (lv' := [(19, .int x230), (22, .int x228), (20, .long x226), (0, .ref b), (1, .ref w1), (2, .ref w2), (3, .ref w3), (4, .ref w4), (5, .ref w5), (6, .long w6), (8, .long w8), (10, .int w10), (11, .int w11), (12, .int w12), (13, .long w13), (15, .int w15), (16, .int w16), (17, .int w17), (18, .int w18)]) hx hb dL_law_381 hl (by decide) rfl (fun ls hl => ?_)
      refine lv_iload hx hb dL_law_383 (lv_at hl 0 rfl) ?_
      refine lv_if_lt (tgt := 424) hx hb dL_law_385 (by decide) (fun c231 => ?_) (fun c231 => ?_)
      · have hw := hw.1 c231
        refine lv_iconst (v := (nI 1)) hx hb dL_law_424 (by decide) ?_
        refine lv_goto (tgt := 429) hx hb dL_law_425 (by decide) ?_
        refine lv_istore (lv' := [(10, .int (nI 1)), (19, .int x230), (22, .int x228), (20, .long x226), (0, .ref b), (1, .ref w1), (2, .ref w2), (3, .ref w3), (4, .ref w4), (5, .ref w5), (6, .long w6), (8, .long w8), (11, .int w11), (12, .int w12), (13, .long w13), (15, .int w15), (16, .int w16), (17, .int w17), (18, .int w18)]) hx hb dL_law_429 hl (by decide) rfl (fun ls hl => ?_)
        refine lv_goto (tgt := 824) hx hb dL_law_431 (by decide) ?_
        exact lcL_law_824 X hX hbl hbA hr hlk hl9 post hpost _ Bc Bs hJ _ _ _ _ _ _ _ _ _ _ _ _ _ hw _ _ _ _ _ (by omega) (by omega) h (lv_sub hl [4, 5, 6, 7, 8, 9, 10, 11, 0, 12, 13, 14, 1] rfl)
      · have hw := hw.2 c231
        refine lv_aload_n hx hb dL_law_388 rfl (lv_at hl 4 rfl) ?_
        refine lv_iload hx hb dL_law_389 (lv_at hl 16 rfl) ?_
        refine rc_H (As := [.ref w1, .int w16]) (rest := []) X h (meL_state l hl9 G _ _ _ _ hw) gS_L_125 rfl rfl hdS_L_state rfl ⟨Nat.le_of_ble_eq_true rfl, Nat.le_of_ble_eq_true rfl⟩ hl.1 rfl (Nat.le_of_ble_eq_true rfl) ⟨law_c (by omega), law_s (by omega)⟩ dL_law_391 (fun x233 S232 H locs hw h => ?_)
        refine lv_iload hx hb dL_law_394 (lv_at hl 1 rfl) ?_
        refine lv_iconst (v := (nI 1)) hx hb dL_law_396 (by decide) ?_
        refine lv_iadd hx hb dL_law_397 ?_
        refine lv_icmp_ne (tgt := 428) hx hb dL_law_398 (by decide) (fun c234 => ?_) (fun c234 => ?_)
        · have hw := hw.1 c234
          exact hw.elim
        · have hw := hw.2 c234
          refine lv_aload_n hx hb dL_law_401 rfl (lv_at hl 4 rfl) ?_
          obtain ⟨k236, hw⟩ := hw
          refine rc_V (As := []) (rest := []) X h k236 (by decide) rfl (meX6_waste l G _ _ _ hw) gV_L_121 rfl rfl hdV_X6_waste rfl ⟨Nat.le_of_ble_eq_true rfl, Nat.le_of_ble_eq_true rfl⟩ hl.1 rfl (Nat.le_of_ble_eq_true rfl) ⟨law_c (by omega), law_s (by omega)⟩ dL_law_402 (fun x237 S235 H locs hw h => ?_)
          refine lv_lload hx hb dL_law_405 (lv_at hl 2 rfl) ?_
          refine lv_iload hx hb dL_law_407 (lv_at hl 0 rfl) ?_
          refine lv_i2l (v := x230.toInt64) hx hb dL_law_409 rfl ?_
          refine lv_ladd hx hb dL_law_410 ?_
          refine W.lcmp hx hb dL_law_411 ?_
          refine lv_if_ne (tgt := 428) hx hb dL_law_412 (by decide) (fun c238 => ?_) (fun c238 => ?_)
          · have hw := hw.1 c238
            exact hw.elim
          · have hw := hw.2 c238
            refine lv_aload_n hx hb dL_law_415 rfl (lv_at hl 4 rfl) ?_
            refine lv_iload hx hb dL_law_416 (lv_at hl 16 rfl) ?_
            refine rc_H (As := [.ref w1, .int w16]) (rest := []) X h (meL_approve l hl9 G _ _ _ _ hw) gS_L_118 rfl rfl hdS_L_approve rfl ⟨Nat.le_of_ble_eq_true rfl, Nat.le_of_ble_eq_true rfl⟩ hl.1 rfl (Nat.le_of_ble_eq_true rfl) ⟨law_c (by omega), law_s (by omega)⟩ dL_law_418 (fun x240 S239 H locs hw h => ?_)
            refine lv_if_ne (tgt := 428) hx hb dL_law_421 (by decide) (fun c241 => ?_) (fun c241 => ?_)
            · have hw := hw.1 c241
              exact hw.elim
            · have hw := hw.2 c241
              refine lv_iconst (v := (nI 1)) hx hb dL_law_424 (by decide) ?_
              refine lv_goto (tgt := 429) hx hb dL_law_425 (by decide) ?_
              refine lv_istore (lv' := [(10, .int (nI 1)), (19, .int x230), (22, .int x228), (20, .long x226), (0, .ref b), (1, .ref w1), (2, .ref w2), (3, .ref w3), (4, .ref w4), (5, .ref w5), (6, .long w6), (8, .long w8), (11, .int w11), (12, .int w12), (13, .long w13), (15, .int w15), (16, .int w16), (17, .int w17), (18, .int w18)]) hx hb dL_law_429 hl (by decide) rfl (fun ls hl => ?_)
              refine lv_goto (tgt := 824) hx hb dL_law_431 (by decide) ?_
              exact lcL_law_824 X hX hbl hbA hr hlk hl9 post hpost _ Bc Bs hJ _ _ _ _ _ _ _ _ _ _ _ _ _ hw _ _ _ _ _ (by omega) (by omega) h (lv_sub hl [4, 5, 6, 7, 8, 9, 10, 11, 0, 12, 13, 14, 1] rfl)
  · have hw := hw.2 c40
    refine lv_aload_n hx hb dL_law_343 rfl (lv_at hl 1 rfl) ?_
    refine lv_iload hx hb dL_law_344 (lv_at hl 13 rfl) ?_
    refine rc_H (As := [.ref w1, .int w16]) (rest := []) X h (meL_approve l hl9 G _ _ _ _ hw) gS_L_118 rfl rfl hdS_L_approve rfl ⟨Nat.le_of_ble_eq_true rfl, Nat.le_of_ble_eq_true rfl⟩ hl.1 rfl (Nat.le_of_ble_eq_true rfl) ⟨law_c (by omega), law_s (by omega)⟩ dL_law_346 (fun x243 S242 H locs hw h => ?_)
    refine lv_istore (lv' := [(19, .int x243), (0, .ref b), (1, .ref w1), (2, .ref w2), (3, .ref w3), (4, .ref w4), (5, .ref w5), (6, .long w6), (8, .long w8), (10, .int w10), (11, .int w11), (12, .int w12), (13, .long w13), (15, .int w15), (16, .int w16), (17, .int w17), (18, .int w18)]) hx hb dL_law_349 hl (by decide) rfl (fun ls hl => ?_)
    refine lv_goto (tgt := 824) hx hb dL_law_351 (by decide) ?_
    exact lcL_law_824 X hX hbl hbA hr hlk hl9 post hpost _ Bc Bs hJ _ _ _ _ _ _ _ _ _ _ _ _ _ hw _ _ _ _ _ (by omega) (by omega) h (lv_sub hl [1, 2, 3, 4, 5, 6, 7, 8, 9, 10, 11, 12, 0] rfl)
def wlL_law_237  (L : Nat) (xs : Nat → Int32) (post : Int32 → Mem → Prop) : Nat → Nat → Nat → Nat → Nat → Nat → Int64 → Int64 → Int32 → Int32 → Int32 → Mem → Prop
  | 0 => fun _ _ _ _ _ _ _ _ _ _ _ => False
  | n + 1 => fun w1 w2 w3 w4 w5 w6 w8 w10 w11 w12 S => ((nI 100) ≤ w12 → ((w10 = 0 → (False)) ∧ (¬ w10 = 0 → (wpL_areLeast S w1 w3 w4 (fun x21 S20 => (x21 = 0 → (False)) ∧ (¬ x21 = 0 → (post (nI 1) S20))))))) ∧ (¬ (nI 100) ≤ w12 → ((w10 = 0 → (False)) ∧ (¬ w10 = 0 → (wpL_sum S w1 (fun x25 S24 => wpL_pick S24 L xs w11 (nI 24) (fun x27 S26 => wpL_pick S26 L xs (w11 + (nI 1)) (nI 40) (fun x29 S28 => (¬ x29 = 0 → (wpL_pick S28 L xs (w11 + (nI 1)) (nI 4) (fun x32 S31 => wpL_pick S31 L xs (w11 + (nI 2)) (nI 40) (fun x34 S33 => (¬ x34 = 0 → (wpL_pick S33 L xs (w11 + (nI 2)) (nI 3) (fun x37 S36 => wpL_pick S36 L xs (w11 + (nI 3)) (nI 1000) (fun x39 S38 => wcL_law_337 L xs post (wlL_law_237 L xs post n) w1 w2 w3 w4 w5 w6 w8 w10 w11 w12 x25 x27 x32 x37 x39 S38)))) ∧ (x34 = 0 → (wpL_pick S33 L xs (w11 + (nI 3)) (nI 1000) (fun x245 S244 => wcL_law_337 L xs post (wlL_law_237 L xs post n) w1 w2 w3 w4 w5 w6 w8 w10 w11 w12 x25 x27 x32 (nI 3) x245 S244))))))) ∧ (x29 = 0 → (wpL_pick S28 L xs (w11 + (nI 2)) (nI 40) (fun x247 S246 => (¬ x247 = 0 → (wpL_pick S246 L xs (w11 + (nI 2)) (nI 3) (fun x250 S249 => wpL_pick S249 L xs (w11 + (nI 3)) (nI 1000) (fun x252 S251 => wcL_law_337 L xs post (wlL_law_237 L xs post n) w1 w2 w3 w4 w5 w6 w8 w10 w11 w12 x25 x27 (nI 4) x250 x252 S251)))) ∧ (x247 = 0 → (wpL_pick S246 L xs (w11 + (nI 3)) (nI 1000) (fun x254 S253 => wcL_law_337 L xs post (wlL_law_237 L xs post n) w1 w2 w3 w4 w5 w6 w8 w10 w11 w12 x25 x27 (nI 4) (nI 3) x254 S253)))))))))))))
set_option maxHeartbeats 8000000 in
set_option maxRecDepth 100000 in
theorem llL_law_237 {p : Program} {l : Launch} {e : Env} {s : State} {m : MethodId} {below : List Frame} {meth : Method} {c : Code} {G : GT} {b L : Nat} {xs : Nat → Int32} (X : Cx p s m #[Value.ref b] meth c cL_law 27 RL G (fun q : Nat => s.heap.size ≤ q)) (hX : va_X b L xs s s.heap) (hbl : b < s.heap.size) (hbA : ¬ (fun q : Nat => s.heap.size ≤ q) b) (hr : meth.sig.returnType = ret) (hlk : meth.locks = false) (hl9 : l.stackTraces = false) (post : Int32 → Mem → Prop) (hpost : ∀ r S, post r S → r = 1) : ∀ (n : Nat) (w1 : Nat) (w2 : Nat) (w3 : Nat) (w4 : Nat) (w5 : Nat) (w6 : Int64) (w8 : Int64) (w10 : Int32) (w11 : Int32) (w12 : Int32) (S : Mem) (hw : wlL_law_237 L xs post n w1 w2 w3 w4 w5 w6 w8 w10 w11 w12 S) (H : Heap) (locs : List Loc) (ls : Array Slot) (kc ks : Nat), kc + (136 + n * 5744) ≤ 678795 → ks + (816 + n * 34304) ≤ 7054424 → Hx G (fun q : Nat => s.heap.size ≤ q) s.heap H locs S → lv_has ls 27 [(0, .ref b), (1, .ref w1), (2, .ref w2), (3, .ref w3), (4, .ref w4), (5, .ref w5), (6, .long w6), (8, .long w8), (10, .int w10), (11, .int w11), (12, .int w12)] → W p l e room_1 s m #[Value.ref b] below meth c H locs kc ks (lw_Z below #[Value.ref b] s) (F0 m 237 ls []) := by
  have hx := X.1
  have hb := X.2.1
  have hown := X.2.2.2.1
  intro n
  induction n with
  | zero =>
    intro _ _ _ _ _ _ _ _ _ _ _ hw
    exact hw.elim
  | succ n ih =>
    intro w1 w2 w3 w4 w5 w6 w8 w10 w11 w12 S hw H locs ls kc ks hkc hks h hl
    refine lv_iload hx hb dL_law_237 (lv_at hl 10 rfl) ?_
    refine lv_bipush (v := (nI 100)) hx hb dL_law_239 (by decide) ?_
    refine lv_icmp_ge (tgt := 893) hx hb dL_law_241 (by decide) (fun c18 => ?_) (fun c18 => ?_)
    · have hw := hw.1 c18
      refine lv_iload hx hb dL_law_893 (lv_at hl 8 rfl) ?_
      refine lv_if_eq (tgt := 912) hx hb dL_law_895 (by decide) (fun c19 => ?_) (fun c19 => ?_)
      · have hw := hw.1 c19
        exact hw.elim
      · have hw := hw.2 c19
        refine lv_aload_n hx hb dL_law_898 rfl (lv_at hl 1 rfl) ?_
        refine lv_aload_n hx hb dL_law_899 rfl (lv_at hl 3 rfl) ?_
        refine lv_aload hx hb dL_law_900 (lv_at hl 4 rfl) ?_
        refine rc_S (As := [.ref w1, .ref w3, .ref w4]) (rest := []) X h (meL_areLeast l hl9 G _ _ _ _ _ hw) gS_L_162 rfl rfl hdS_L_areLeast rfl ⟨Nat.le_of_ble_eq_true rfl, Nat.le_of_ble_eq_true rfl⟩ hl.1 rfl (Nat.le_of_ble_eq_true rfl) ⟨law_c (by omega), law_s (by omega)⟩ dL_law_902 (fun x21 S20 H locs hw h => ?_)
        refine lv_if_eq (tgt := 912) hx hb dL_law_905 (by decide) (fun c22 => ?_) (fun c22 => ?_)
        · have hw := hw.1 c22
          exact hw.elim
        · have hw := hw.2 c22
          refine lv_iconst (v := (nI 1)) hx hb dL_law_908 (by decide) ?_
          refine lv_goto (tgt := 913) hx hb dL_law_909 (by decide) ?_
          exact law_end X h hr hlk (hpost _ _ hw) (by omega) (by omega) dL_law_913
    · have hw := hw.2 c18
      refine lv_iload hx hb dL_law_244 (lv_at hl 8 rfl) ?_
      refine lv_if_eq (tgt := 893) hx hb dL_law_246 (by decide) (fun c23 => ?_) (fun c23 => ?_)
      · have hw := hw.1 c23
        exact hw.elim
      · have hw := hw.2 c23
        refine lv_aload_n hx hb dL_law_249 rfl (lv_at hl 1 rfl) ?_
        refine rc_S (As := [.ref w1]) (rest := []) X h (meL_sum l hl9 G _ _ _ hw) gS_L_114 rfl rfl hdS_L_sum rfl ⟨Nat.le_of_ble_eq_true rfl, Nat.le_of_ble_eq_true rfl⟩ hl.1 rfl (Nat.le_of_ble_eq_true rfl) ⟨law_c (by omega), law_s (by omega)⟩ dL_law_250 (fun x25 S24 H locs hw h => ?_)
        refine lv_lstore (lv' := [(13, .long x25), (0, .ref b), (1, .ref w1), (2, .ref w2), (3, .ref w3), (4, .ref w4), (5, .ref w5), (6, .long w6), (8, .long w8), (10, .int w10), (11, .int w11), (12, .int w12)]) hx hb dL_law_253 hl (by decide) rfl (fun ls hl => ?_)
        refine lv_aload_n hx hb dL_law_255 rfl (lv_at hl 1 rfl) ?_
        refine lv_iload hx hb dL_law_256 (lv_at hl 10 rfl) ?_
        refine lv_bipush (v := (nI 24)) hx hb dL_law_258 (by decide) ?_
        refine rc_Ss (As := [.ref b, .int w11, .int (nI 24)]) (rest := []) X h hX hbl hbA (meL_pick l G _ _ _ _ _ _ hw) gS_L_104 rfl rfl hdS_L_pick rfl ⟨Nat.le_of_ble_eq_true rfl, Nat.le_of_ble_eq_true rfl⟩ hl.1 rfl (Nat.le_of_ble_eq_true rfl) ⟨law_c (by omega), law_s (by omega)⟩ dL_law_260 (fun x27 S26 H locs hw h => ?_)
        refine lv_istore (lv' := [(15, .int x27), (13, .long x25), (0, .ref b), (1, .ref w1), (2, .ref w2), (3, .ref w3), (4, .ref w4), (5, .ref w5), (6, .long w6), (8, .long w8), (10, .int w10), (11, .int w11), (12, .int w12)]) hx hb dL_law_263 hl (by decide) rfl (fun ls hl => ?_)
        refine lv_aload_n hx hb dL_law_265 rfl (lv_at hl 2 rfl) ?_
        refine lv_iload hx hb dL_law_266 (lv_at hl 11 rfl) ?_
        refine lv_iconst (v := (nI 1)) hx hb dL_law_268 (by decide) ?_
        refine lv_iadd hx hb dL_law_269 ?_
        refine lv_bipush (v := (nI 40)) hx hb dL_law_270 (by decide) ?_
        refine rc_Ss (As := [.ref b, .int (w11 + (nI 1)), .int (nI 40)]) (rest := []) X h hX hbl hbA (meL_pick l G _ _ _ _ _ _ hw) gS_L_104 rfl rfl hdS_L_pick rfl ⟨Nat.le_of_ble_eq_true rfl, Nat.le_of_ble_eq_true rfl⟩ hl.1 rfl (Nat.le_of_ble_eq_true rfl) ⟨law_c (by omega), law_s (by omega)⟩ dL_law_272 (fun x29 S28 H locs hw h => ?_)
        refine lv_if_ne (tgt := 282) hx hb dL_law_275 (by decide) (fun c30 => ?_) (fun c30 => ?_)
        · have hw := hw.1 c30
          refine lv_aload_n hx hb dL_law_282 rfl (lv_at hl 2 rfl) ?_
          refine lv_iload hx hb dL_law_283 (lv_at hl 11 rfl) ?_
          refine lv_iconst (v := (nI 1)) hx hb dL_law_285 (by decide) ?_
          refine lv_iadd hx hb dL_law_286 ?_
          refine lv_iconst (v := (nI 4)) hx hb dL_law_287 (by decide) ?_
          refine rc_Ss (As := [.ref b, .int (w11 + (nI 1)), .int (nI 4)]) (rest := []) X h hX hbl hbA (meL_pick l G _ _ _ _ _ _ hw) gS_L_104 rfl rfl hdS_L_pick rfl ⟨Nat.le_of_ble_eq_true rfl, Nat.le_of_ble_eq_true rfl⟩ hl.1 rfl (Nat.le_of_ble_eq_true rfl) ⟨law_c (by omega), law_s (by omega)⟩ dL_law_288 (fun x32 S31 H locs hw h => ?_)
          refine lv_istore (lv' := [(16, .int x32), (15, .int x27), (13, .long x25), (0, .ref b), (1, .ref w1), (2, .ref w2), (3, .ref w3), (4, .ref w4), (5, .ref w5), (6, .long w6), (8, .long w8), (10, .int w10), (11, .int w11), (12, .int w12)]) hx hb dL_law_291 hl (by decide) rfl (fun ls hl => ?_)
          refine lv_aload_n hx hb dL_law_293 rfl (lv_at hl 3 rfl) ?_
          refine lv_iload hx hb dL_law_294 (lv_at hl 12 rfl) ?_
          refine lv_iconst (v := (nI 2)) hx hb dL_law_296 (by decide) ?_
          refine lv_iadd hx hb dL_law_297 ?_
          refine lv_bipush (v := (nI 40)) hx hb dL_law_298 (by decide) ?_
          refine rc_Ss (As := [.ref b, .int (w11 + (nI 2)), .int (nI 40)]) (rest := []) X h hX hbl hbA (meL_pick l G _ _ _ _ _ _ hw) gS_L_104 rfl rfl hdS_L_pick rfl ⟨Nat.le_of_ble_eq_true rfl, Nat.le_of_ble_eq_true rfl⟩ hl.1 rfl (Nat.le_of_ble_eq_true rfl) ⟨law_c (by omega), law_s (by omega)⟩ dL_law_300 (fun x34 S33 H locs hw h => ?_)
          refine lv_if_ne (tgt := 310) hx hb dL_law_303 (by decide) (fun c35 => ?_) (fun c35 => ?_)
          · have hw := hw.1 c35
            refine lv_aload_n hx hb dL_law_310 rfl (lv_at hl 3 rfl) ?_
            refine lv_iload hx hb dL_law_311 (lv_at hl 12 rfl) ?_
            refine lv_iconst (v := (nI 2)) hx hb dL_law_313 (by decide) ?_
            refine lv_iadd hx hb dL_law_314 ?_
            refine lv_iconst (v := (nI 3)) hx hb dL_law_315 (by decide) ?_
            refine rc_Ss (As := [.ref b, .int (w11 + (nI 2)), .int (nI 3)]) (rest := []) X h hX hbl hbA (meL_pick l G _ _ _ _ _ _ hw) gS_L_104 rfl rfl hdS_L_pick rfl ⟨Nat.le_of_ble_eq_true rfl, Nat.le_of_ble_eq_true rfl⟩ hl.1 rfl (Nat.le_of_ble_eq_true rfl) ⟨law_c (by omega), law_s (by omega)⟩ dL_law_316 (fun x37 S36 H locs hw h => ?_)
            refine lv_istore (lv' := [(17, .int x37), (16, .int x32), (15, .int x27), (13, .long x25), (0, .ref b), (1, .ref w1), (2, .ref w2), (3, .ref w3), (4, .ref w4), (5, .ref w5), (6, .long w6), (8, .long w8), (10, .int w10), (11, .int w11), (12, .int w12)]) hx hb dL_law_319 hl (by decide) rfl (fun ls hl => ?_)
            refine lv_aload_n hx hb dL_law_321 rfl (lv_at hl 4 rfl) ?_
            refine lv_iload hx hb dL_law_322 (lv_at hl 13 rfl) ?_
            refine lv_iconst (v := (nI 3)) hx hb dL_law_324 (by decide) ?_
            refine lv_iadd hx hb dL_law_325 ?_
            refine lv_sipush (v := (nI 1000)) hx hb dL_law_326 (by decide) ?_
            refine rc_Ss (As := [.ref b, .int (w11 + (nI 3)), .int (nI 1000)]) (rest := []) X h hX hbl hbA (meL_pick l G _ _ _ _ _ _ hw) gS_L_104 rfl rfl hdS_L_pick rfl ⟨Nat.le_of_ble_eq_true rfl, Nat.le_of_ble_eq_true rfl⟩ hl.1 rfl (Nat.le_of_ble_eq_true rfl) ⟨law_c (by omega), law_s (by omega)⟩ dL_law_329 (fun x39 S38 H locs hw h => ?_)
            refine lv_istore (lv' := [(18, .int x39), (17, .int x37), (16, .int x32), (15, .int x27), (13, .long x25), (0, .ref b), (1, .ref w1), (2, .ref w2), (3, .ref w3), (4, .ref w4), (5, .ref w5), (6, .long w6), (8, .long w8), (10, .int w10), (11, .int w11), (12, .int w12)]) hx hb dL_law_332 hl (by decide) rfl (fun ls hl => ?_)
            refine lv_iconst (v := (nI 0)) hx hb dL_law_334 (by decide) ?_
            refine lv_istore (lv' := [(19, .int (nI 0)), (18, .int x39), (17, .int x37), (16, .int x32), (15, .int x27), (13, .long x25), (0, .ref b), (1, .ref w1), (2, .ref w2), (3, .ref w3), (4, .ref w4), (5, .ref w5), (6, .long w6), (8, .long w8), (10, .int w10), (11, .int w11), (12, .int w12)]) hx hb dL_law_335 hl (by decide) rfl (fun ls hl => ?_)
            exact lcL_law_337 X hX hbl hbA hr hlk hl9 post hpost _ (136 + n * 5744) (816 + n * 34304) (fun w1 w2 w3 w4 w5 w6 w8 w10 w11 w12 S hw H locs ls kc ks h1 h2 h hl => ih w1 w2 w3 w4 w5 w6 w8 w10 w11 w12 S hw H locs ls kc ks (by omega) (by omega) h hl) _ _ _ _ _ _ _ _ _ _ _ _ _ _ _ _ hw _ _ _ _ _ (by omega) (by omega) h (lv_sub hl [6, 7, 8, 9, 10, 11, 12, 13, 14, 15, 16, 5, 4, 3, 2, 1] rfl)
          · have hw := hw.2 c35
            refine lv_iconst (v := (nI 3)) hx hb dL_law_306 (by decide) ?_
            refine lv_goto (tgt := 319) hx hb dL_law_307 (by decide) ?_
            refine lv_istore (lv' := [(17, .int (nI 3)), (16, .int x32), (15, .int x27), (13, .long x25), (0, .ref b), (1, .ref w1), (2, .ref w2), (3, .ref w3), (4, .ref w4), (5, .ref w5), (6, .long w6), (8, .long w8), (10, .int w10), (11, .int w11), (12, .int w12)]) hx hb dL_law_319 hl (by decide) rfl (fun ls hl => ?_)
            refine lv_aload_n hx hb dL_law_321 rfl (lv_at hl 4 rfl) ?_
            refine lv_iload hx hb dL_law_322 (lv_at hl 13 rfl) ?_
            refine lv_iconst (v := (nI 3)) hx hb dL_law_324 (by decide) ?_
            refine lv_iadd hx hb dL_law_325 ?_
            refine lv_sipush (v := (nI 1000)) hx hb dL_law_326 (by decide) ?_
            refine rc_Ss (As := [.ref b, .int (w11 + (nI 3)), .int (nI 1000)]) (rest := []) X h hX hbl hbA (meL_pick l G _ _ _ _ _ _ hw) gS_L_104 rfl rfl hdS_L_pick rfl ⟨Nat.le_of_ble_eq_true rfl, Nat.le_of_ble_eq_true rfl⟩ hl.1 rfl (Nat.le_of_ble_eq_true rfl) ⟨law_c (by omega), law_s (by omega)⟩ dL_law_329 (fun x245 S244 H locs hw h => ?_)
            refine lv_istore (lv' := [(18, .int x245), (17, .int (nI 3)), (16, .int x32), (15, .int x27), (13, .long x25), (0, .ref b), (1, .ref w1), (2, .ref w2), (3, .ref w3), (4, .ref w4), (5, .ref w5), (6, .long w6), (8, .long w8), (10, .int w10), (11, .int w11), (12, .int w12)]) hx hb dL_law_332 hl (by decide) rfl (fun ls hl => ?_)
            refine lv_iconst (v := (nI 0)) hx hb dL_law_334 (by decide) ?_
            refine lv_istore (lv' := [(19, .int (nI 0)), (18, .int x245), (17, .int (nI 3)), (16, .int x32), (15, .int x27), (13, .long x25), (0, .ref b), (1, .ref w1), (2, .ref w2), (3, .ref w3), (4, .ref w4), (5, .ref w5), (6, .long w6), (8, .long w8), (10, .int w10), (11, .int w11), (12, .int w12)]) hx hb dL_law_335 hl (by decide) rfl (fun ls hl => ?_)
            exact lcL_law_337 X hX hbl hbA hr hlk hl9 post hpost _ (136 + n * 5744) (816 + n * 34304) (fun w1 w2 w3 w4 w5 w6 w8 w10 w11 w12 S hw H locs ls kc ks h1 h2 h hl => ih w1 w2 w3 w4 w5 w6 w8 w10 w11 w12 S hw H locs ls kc ks (by omega) (by omega) h hl) _ _ _ _ _ _ _ _ _ _ _ _ _ _ _ _ hw _ _ _ _ _ (by omega) (by omega) h (lv_sub hl [6, 7, 8, 9, 10, 11, 12, 13, 14, 15, 16, 5, 4, 3, 2, 1] rfl)
        · have hw := hw.2 c30
          refine lv_iconst (v := (nI 4)) hx hb dL_law_278 (by decide) ?_
          refine lv_goto (tgt := 291) hx hb dL_law_279 (by decide) ?_
          refine lv_istore (lv' := [(16, .int (nI 4)), (15, .int x27), (13, .long x25), (0, .ref b), (1, .ref w1), (2, .ref w2), (3, .ref w3), (4, .ref w4), (5, .ref w5), (6, .long w6), (8, .long w8), (10, .int w10), (11, .int w11), (12, .int w12)]) hx hb dL_law_291 hl (by decide) rfl (fun ls hl => ?_)
          refine lv_aload_n hx hb dL_law_293 rfl (lv_at hl 3 rfl) ?_
          refine lv_iload hx hb dL_law_294 (lv_at hl 12 rfl) ?_
          refine lv_iconst (v := (nI 2)) hx hb dL_law_296 (by decide) ?_
          refine lv_iadd hx hb dL_law_297 ?_
          refine lv_bipush (v := (nI 40)) hx hb dL_law_298 (by decide) ?_
          refine rc_Ss (As := [.ref b, .int (w11 + (nI 2)), .int (nI 40)]) (rest := []) X h hX hbl hbA (meL_pick l G _ _ _ _ _ _ hw) gS_L_104 rfl rfl hdS_L_pick rfl ⟨Nat.le_of_ble_eq_true rfl, Nat.le_of_ble_eq_true rfl⟩ hl.1 rfl (Nat.le_of_ble_eq_true rfl) ⟨law_c (by omega), law_s (by omega)⟩ dL_law_300 (fun x247 S246 H locs hw h => ?_)
          refine lv_if_ne (tgt := 310) hx hb dL_law_303 (by decide) (fun c248 => ?_) (fun c248 => ?_)
          · have hw := hw.1 c248
            refine lv_aload_n hx hb dL_law_310 rfl (lv_at hl 3 rfl) ?_
            refine lv_iload hx hb dL_law_311 (lv_at hl 12 rfl) ?_
            refine lv_iconst (v := (nI 2)) hx hb dL_law_313 (by decide) ?_
            refine lv_iadd hx hb dL_law_314 ?_
            refine lv_iconst (v := (nI 3)) hx hb dL_law_315 (by decide) ?_
            refine rc_Ss (As := [.ref b, .int (w11 + (nI 2)), .int (nI 3)]) (rest := []) X h hX hbl hbA (meL_pick l G _ _ _ _ _ _ hw) gS_L_104 rfl rfl hdS_L_pick rfl ⟨Nat.le_of_ble_eq_true rfl, Nat.le_of_ble_eq_true rfl⟩ hl.1 rfl (Nat.le_of_ble_eq_true rfl) ⟨law_c (by omega), law_s (by omega)⟩ dL_law_316 (fun x250 S249 H locs hw h => ?_)
            refine lv_istore (lv' := [(17, .int x250), (16, .int (nI 4)), (15, .int x27), (13, .long x25), (0, .ref b), (1, .ref w1), (2, .ref w2), (3, .ref w3), (4, .ref w4), (5, .ref w5), (6, .long w6), (8, .long w8), (10, .int w10), (11, .int w11), (12, .int w12)]) hx hb dL_law_319 hl (by decide) rfl (fun ls hl => ?_)
            refine lv_aload_n hx hb dL_law_321 rfl (lv_at hl 4 rfl) ?_
            refine lv_iload hx hb dL_law_322 (lv_at hl 13 rfl) ?_
            refine lv_iconst (v := (nI 3)) hx hb dL_law_324 (by decide) ?_
            refine lv_iadd hx hb dL_law_325 ?_
            refine lv_sipush (v := (nI 1000)) hx hb dL_law_326 (by decide) ?_
            refine rc_Ss (As := [.ref b, .int (w11 + (nI 3)), .int (nI 1000)]) (rest := []) X h hX hbl hbA (meL_pick l G _ _ _ _ _ _ hw) gS_L_104 rfl rfl hdS_L_pick rfl ⟨Nat.le_of_ble_eq_true rfl, Nat.le_of_ble_eq_true rfl⟩ hl.1 rfl (Nat.le_of_ble_eq_true rfl) ⟨law_c (by omega), law_s (by omega)⟩ dL_law_329 (fun x252 S251 H locs hw h => ?_)
            refine lv_istore (lv' := [(18, .int x252), (17, .int x250), (16, .int (nI 4)), (15, .int x27), (13, .long x25), (0, .ref b), (1, .ref w1), (2, .ref w2), (3, .ref w3), (4, .ref w4), (5, .ref w5), (6, .long w6), (8, .long w8), (10, .int w10), (11, .int w11), (12, .int w12)]) hx hb dL_law_332 hl (by decide) rfl (fun ls hl => ?_)
            refine lv_iconst (v := (nI 0)) hx hb dL_law_334 (by decide) ?_
            refine lv_istore (lv' := [(19, .int (nI 0)), (18, .int x252), (17, .int x250), (16, .int (nI 4)), (15, .int x27), (13, .long x25), (0, .ref b), (1, .ref w1), (2, .ref w2), (3, .ref w3), (4, .ref w4), (5, .ref w5), (6, .long w6), (8, .long w8), (10, .int w10), (11, .int w11), (12, .int w12)]) hx hb dL_law_335 hl (by decide) rfl (fun ls hl => ?_)
            exact lcL_law_337 X hX hbl hbA hr hlk hl9 post hpost _ (136 + n * 5744) (816 + n * 34304) (fun w1 w2 w3 w4 w5 w6 w8 w10 w11 w12 S hw H locs ls kc ks h1 h2 h hl => ih w1 w2 w3 w4 w5 w6 w8 w10 w11 w12 S hw H locs ls kc ks (by omega) (by omega) h hl) _ _ _ _ _ _ _ _ _ _ _ _ _ _ _ _ hw _ _ _ _ _ (by omega) (by omega) h (lv_sub hl [6, 7, 8, 9, 10, 11, 12, 13, 14, 15, 16, 5, 4, 3, 2, 1] rfl)
          · have hw := hw.2 c248
            refine lv_iconst (v := (nI 3)) hx hb dL_law_306 (by decide) ?_
            refine lv_goto (tgt := 319) hx hb dL_law_307 (by decide) ?_
            refine lv_istore (lv' := [(17, .int (nI 3)), (16, .int (nI 4)), (15, .int x27), (13, .long x25), (0, .ref b), (1, .ref w1), (2, .ref w2), (3, .ref w3), (4, .ref w4), (5, .ref w5), (6, .long w6), (8, .long w8), (10, .int w10), (11, .int w11), (12, .int w12)]) hx hb dL_law_319 hl (by decide) rfl (fun ls hl => ?_)
            refine lv_aload_n hx hb dL_law_321 rfl (lv_at hl 4 rfl) ?_
            refine lv_iload hx hb dL_law_322 (lv_at hl 13 rfl) ?_
            refine lv_iconst (v := (nI 3)) hx hb dL_law_324 (by decide) ?_
            refine lv_iadd hx hb dL_law_325 ?_
            refine lv_sipush (v := (nI 1000)) hx hb dL_law_326 (by decide) ?_
            refine rc_Ss (As := [.ref b, .int (w11 + (nI 3)), .int (nI 1000)]) (rest := []) X h hX hbl hbA (meL_pick l G _ _ _ _ _ _ hw) gS_L_104 rfl rfl hdS_L_pick rfl ⟨Nat.le_of_ble_eq_true rfl, Nat.le_of_ble_eq_true rfl⟩ hl.1 rfl (Nat.le_of_ble_eq_true rfl) ⟨law_c (by omega), law_s (by omega)⟩ dL_law_329 (fun x254 S253 H locs hw h => ?_)
            refine lv_istore (lv' := [(18, .int x254), (17, .int (nI 3)), (16, .int (nI 4)), (15, .int x27), (13, .long x25), (0, .ref b), (1, .ref w1), (2, .ref w2), (3, .ref w3), (4, .ref w4), (5, .ref w5), (6, .long w6), (8, .long w8), (10, .int w10), (11, .int w11), (12, .int w12)]) hx hb dL_law_332 hl (by decide) rfl (fun ls hl => ?_)
            refine lv_iconst (v := (nI 0)) hx hb dL_law_334 (by decide) ?_
            refine lv_istore (lv' := [(19, .int (nI 0)), (18, .int x254), (17, .int (nI 3)), (16, .int (nI 4)), (15, .int x27), (13, .long x25), (0, .ref b), (1, .ref w1), (2, .ref w2), (3, .ref w3), (4, .ref w4), (5, .ref w5), (6, .long w6), (8, .long w8), (10, .int w10), (11, .int w11), (12, .int w12)]) hx hb dL_law_335 hl (by decide) rfl (fun ls hl => ?_)
            exact lcL_law_337 X hX hbl hbA hr hlk hl9 post hpost _ (136 + n * 5744) (816 + n * 34304) (fun w1 w2 w3 w4 w5 w6 w8 w10 w11 w12 S hw H locs ls kc ks h1 h2 h hl => ih w1 w2 w3 w4 w5 w6 w8 w10 w11 w12 S hw H locs ls kc ks (by omega) (by omega) h hl) _ _ _ _ _ _ _ _ _ _ _ _ _ _ _ _ hw _ _ _ _ _ (by omega) (by omega) h (lv_sub hl [6, 7, 8, 9, 10, 11, 12, 13, 14, 15, 16, 5, 4, 3, 2, 1] rfl)
def wlL_law_154  (L : Nat) (xs : Nat → Int32) (post : Int32 → Mem → Prop) (J : Nat → Nat → Nat → Nat → Nat → Int64 → Int64 → Int32 → Int32 → Int32 → Mem → Prop) : Nat → Nat → Nat → Nat → Nat → Nat → Int64 → Int64 → Int32 → Int32 → Int32 → Int32 → Mem → Prop
  | 0 => fun _ _ _ _ _ _ _ _ _ _ _ _ => False
  | n + 1 => fun w1 w2 w3 w4 w5 w6 w8 w10 w11 w12 w13 S => (((nI 4) * ((nI 1) + (w12 - w12 / (nI 2) * (nI 2)))) ≤ w13 → (∀ x273 : Int32, x273 = (w12 + (nI 1)) → (J w1 w2 w3 w4 w5 w6 w8 w10 w11 x273 S))) ∧ (¬ ((nI 4) * ((nI 1) + (w12 - w12 / (nI 2) * (nI 2)))) ≤ w13 → (isK S w2 12 ∧ (vp_in w12 (mN S w2) ∧ (∃ o276, mR S w2 w12.toNatClampNeg = some o276 ∧ (wpL_pick S L xs w11 (nI 4) (fun x278 S277 => isK S277 o276 8 ∧ (vp_in w13 (mN S277 o276) ∧ (∀ S281 : Mem, S281 = (sI S277 o276 w13.toNatClampNeg x278) → (isK S281 w2 12 ∧ (vp_in w12 (mN S281 w2) ∧ (∃ o284, mR S281 w2 w12.toNatClampNeg = some o284 ∧ (isK S281 o284 8 ∧ (vp_in w13 (mN S281 o284) ∧ (wpL_addPage S281 w1 w12 (mI S281 o284 w13.toNatClampNeg) (fun x288 S287 => (¬ x288 = (w13 + (nI 1)) → (False)) ∧ (x288 = (w13 + (nI 1)) → (∀ x290 : Int32, x290 = (w10 &&& (nI 1)) → (isK S287 w3 8 ∧ (vp_in w12 (mN S287 w3) ∧ (∀ x293 : Int32, x293 = ((mI S287 w3 w12.toNatClampNeg) + (nI 1)) → (vp_in w12 (mN S287 w3) ∧ (∀ S295 : Mem, S295 = (sI S287 w3 w12.toNatClampNeg x293) → (∀ x296 : Int32, x296 = (w11 + (nI 1)) → (∀ x297 : Int32, x297 = (w13 + (nI 1)) → (wlL_law_154 L xs post J n w1 w2 w3 w4 w5 w6 w8 x290 x296 w12 x297 S295)))))))))))))))))))))))))
set_option maxHeartbeats 8000000 in
set_option maxRecDepth 100000 in
theorem llL_law_154 {p : Program} {l : Launch} {e : Env} {s : State} {m : MethodId} {below : List Frame} {meth : Method} {c : Code} {G : GT} {b L : Nat} {xs : Nat → Int32} (X : Cx p s m #[Value.ref b] meth c cL_law 27 RL G (fun q : Nat => s.heap.size ≤ q)) (hX : va_X b L xs s s.heap) (hbl : b < s.heap.size) (hbA : ¬ (fun q : Nat => s.heap.size ≤ q) b) (hr : meth.sig.returnType = ret) (hlk : meth.locks = false) (hl9 : l.stackTraces = false) (post : Int32 → Mem → Prop) (hpost : ∀ r S, post r S → r = 1) (J : Nat → Nat → Nat → Nat → Nat → Int64 → Int64 → Int32 → Int32 → Int32 → Mem → Prop) (Bc Bs : Nat) (hJ : ∀ (w1 : Nat) (w2 : Nat) (w3 : Nat) (w4 : Nat) (w5 : Nat) (w6 : Int64) (w8 : Int64) (w10 : Int32) (w11 : Int32) (w12 : Int32) (S : Mem), J w1 w2 w3 w4 w5 w6 w8 w10 w11 w12 S → ∀ (H : Heap) (locs : List Loc) (ls : Array Slot) (kc ks : Nat), kc + Bc ≤ 678795 → ks + Bs ≤ 7054424 → Hx G (fun q : Nat => s.heap.size ≤ q) s.heap H locs S → lv_has ls 27 [(0, .ref b), (1, .ref w1), (2, .ref w2), (3, .ref w3), (4, .ref w4), (5, .ref w5), (6, .long w6), (8, .long w8), (10, .int w10), (11, .int w11), (12, .int w12)] → W p l e room_1 s m #[Value.ref b] below meth c H locs kc ks (lw_Z below #[Value.ref b] s) (F0 m 80 ls [])) : ∀ (n : Nat) (w1 : Nat) (w2 : Nat) (w3 : Nat) (w4 : Nat) (w5 : Nat) (w6 : Int64) (w8 : Int64) (w10 : Int32) (w11 : Int32) (w12 : Int32) (w13 : Int32) (S : Mem) (hw : wlL_law_154 L xs post J n w1 w2 w3 w4 w5 w6 w8 w10 w11 w12 w13 S) (H : Heap) (locs : List Loc) (ls : Array Slot) (kc ks : Nat), kc + (0 + n * 3 + Bc) ≤ 678795 → ks + (0 + n * 18 + Bs) ≤ 7054424 → Hx G (fun q : Nat => s.heap.size ≤ q) s.heap H locs S → lv_has ls 27 [(0, .ref b), (1, .ref w1), (2, .ref w2), (3, .ref w3), (4, .ref w4), (5, .ref w5), (6, .long w6), (8, .long w8), (10, .int w10), (11, .int w11), (12, .int w12), (13, .int w13)] → W p l e room_1 s m #[Value.ref b] below meth c H locs kc ks (lw_Z below #[Value.ref b] s) (F0 m 154 ls []) := by
  have hx := X.1
  have hb := X.2.1
  have hown := X.2.2.2.1
  intro n
  induction n with
  | zero =>
    intro _ _ _ _ _ _ _ _ _ _ _ _ hw
    exact hw.elim
  | succ n ih =>
    intro w1 w2 w3 w4 w5 w6 w8 w10 w11 w12 w13 S hw H locs ls kc ks hkc hks h hl
    refine lv_iload hx hb dL_law_154 (lv_at hl 11 rfl) ?_
    refine lv_iconst (v := (nI 4)) hx hb dL_law_156 (by decide) ?_
    refine lv_iconst (v := (nI 1)) hx hb dL_law_157 (by decide) ?_
    refine lv_iload hx hb dL_law_158 (lv_at hl 10 rfl) ?_
    refine lv_iconst (v := (nI 2)) hx hb dL_law_160 (by decide) ?_
    refine lv_irem hx hb dL_law_161 (by decide) ?_
    refine lv_iadd hx hb dL_law_162 ?_
    refine lv_imul hx hb dL_law_163 ?_
    refine lv_icmp_ge (tgt := 228) hx hb dL_law_164 (by decide) (fun c272 => ?_) (fun c272 => ?_)
    · have hw := hw.1 c272
      obtain ⟨x273, ex273⟩ : ∃ y : Int32, y = (w12 + (nI 1)) := ⟨_, rfl⟩
      have hw := hw x273 ex273
      refine lv_iinc (v := x273) (lv' := [(12, .int x273), (0, .ref b), (1, .ref w1), (2, .ref w2), (3, .ref w3), (4, .ref w4), (5, .ref w5), (6, .long w6), (8, .long w8), (10, .int w10), (11, .int w11), (13, .int w13)]) hx hb dL_law_228 hl (k := 10) rfl (by rw [ex273]; rfl) (by decide) rfl (fun ls hl => ?_)
      refine lv_goto (tgt := 80) hx hb dL_law_231 (by decide) ?_
      exact hJ _ _ _ _ _ _ _ _ _ _ _ hw _ _ _ _ _ (by omega) (by omega) h (lv_sub hl [1, 2, 3, 4, 5, 6, 7, 8, 9, 10, 0] rfl)
    · have hw := hw.2 c272
      refine lv_aload_n hx hb dL_law_167 rfl (lv_at hl 2 rfl) ?_
      refine lv_iload hx hb dL_law_168 (lv_at hl 10 rfl) ?_
      obtain ⟨k274, hw⟩ := hw
      obtain ⟨v275, hw⟩ := hw
      obtain ⟨o276, eo276, hw⟩ := hw
      refine r_aldA X h k274 v275 eo276 dL_law_170 ?_
      refine lv_iload hx hb dL_law_171 (lv_at hl 11 rfl) ?_
      refine lv_aload_n hx hb dL_law_173 rfl (lv_at hl 0 rfl) ?_
      refine lv_iload hx hb dL_law_174 (lv_at hl 9 rfl) ?_
      refine lv_iconst (v := (nI 4)) hx hb dL_law_176 (by decide) ?_
      refine rc_Ss (As := [.ref b, .int w11, .int (nI 4)]) (rest := [.int w13, .ref o276]) X h hX hbl hbA (meL_pick l G _ _ _ _ _ _ hw) gS_L_104 rfl rfl hdS_L_pick rfl ⟨Nat.le_of_ble_eq_true rfl, Nat.le_of_ble_eq_true rfl⟩ hl.1 rfl (Nat.le_of_ble_eq_true rfl) ⟨law_c (by omega), law_s (by omega)⟩ dL_law_177 (fun x278 S277 H locs hw h => ?_)
      obtain ⟨k279, hw⟩ := hw
      obtain ⟨v280, hw⟩ := hw
      refine r_iast X h k279 v280 dL_law_180 (fun H locs h => ?_)
      obtain ⟨S281, eS281⟩ : ∃ z : Mem, z = (sI S277 o276 w13.toNatClampNeg x278) := ⟨_, rfl⟩
      rw [← eS281] at h
      have hw := hw S281 eS281
      refine lv_iload hx hb dL_law_181 (lv_at hl 8 rfl) ?_
      refine lv_aload_n hx hb dL_law_183 rfl (lv_at hl 1 rfl) ?_
      refine lv_iload hx hb dL_law_184 (lv_at hl 10 rfl) ?_
      refine lv_aload_n hx hb dL_law_186 rfl (lv_at hl 2 rfl) ?_
      refine lv_iload hx hb dL_law_187 (lv_at hl 10 rfl) ?_
      obtain ⟨k282, hw⟩ := hw
      obtain ⟨v283, hw⟩ := hw
      obtain ⟨o284, eo284, hw⟩ := hw
      refine r_aldA X h k282 v283 eo284 dL_law_189 ?_
      refine lv_iload hx hb dL_law_190 (lv_at hl 11 rfl) ?_
      obtain ⟨k285, hw⟩ := hw
      obtain ⟨v286, hw⟩ := hw
      refine r_iald X h k285 v286 dL_law_192 ?_
      refine rc_H (As := [.ref w1, .int w12, .int (mI S281 o284 w13.toNatClampNeg)]) (rest := [.int w10]) X h (meL_addPage l hl9 G _ _ _ _ _ hw) gS_L_111 rfl rfl hdS_L_addPage rfl ⟨Nat.le_of_ble_eq_true rfl, Nat.le_of_ble_eq_true rfl⟩ hl.1 rfl (Nat.le_of_ble_eq_true rfl) ⟨law_c (by omega), law_s (by omega)⟩ dL_law_193 (fun x288 S287 H locs hw h => ?_)
      refine lv_iload hx hb dL_law_196 (lv_at hl 11 rfl) ?_
      refine lv_iconst (v := (nI 1)) hx hb dL_law_198 (by decide) ?_
      refine lv_iadd hx hb dL_law_199 ?_
      refine lv_icmp_ne (tgt := 207) hx hb dL_law_200 (by decide) (fun c289 => ?_) (fun c289 => ?_)
      · have hw := hw.1 c289
        exact hw.elim
      · have hw := hw.2 c289
        refine lv_iconst (v := (nI 1)) hx hb dL_law_203 (by decide) ?_
        refine lv_goto (tgt := 208) hx hb dL_law_204 (by decide) ?_
        refine lv_iand hx hb dL_law_208 ?_
        refine lv_topi (fun x290 ex290 => ?_)
        have hw := hw x290 ex290
        refine lv_istore (lv' := [(10, .int x290), (0, .ref b), (1, .ref w1), (2, .ref w2), (3, .ref w3), (4, .ref w4), (5, .ref w5), (6, .long w6), (8, .long w8), (11, .int w11), (12, .int w12), (13, .int w13)]) hx hb dL_law_209 hl (by decide) rfl (fun ls hl => ?_)
        refine lv_aload_n hx hb dL_law_211 rfl (lv_at hl 4 rfl) ?_
        refine lv_iload hx hb dL_law_212 (lv_at hl 10 rfl) ?_
        refine lv_dup2_11 hx hb dL_law_214 rfl rfl ?_
        obtain ⟨k291, hw⟩ := hw
        obtain ⟨v292, hw⟩ := hw
        refine r_iald X h k291 v292 dL_law_215 ?_
        refine lv_iconst (v := (nI 1)) hx hb dL_law_216 (by decide) ?_
        refine lv_iadd hx hb dL_law_217 ?_
        refine lv_topi (fun x293 ex293 => ?_)
        have hw := hw x293 ex293
        obtain ⟨v294, hw⟩ := hw
        refine r_iast X h k291 v294 dL_law_218 (fun H locs h => ?_)
        obtain ⟨S295, eS295⟩ : ∃ z : Mem, z = (sI S287 w3 w12.toNatClampNeg x293) := ⟨_, rfl⟩
        rw [← eS295] at h
        have hw := hw S295 eS295
        obtain ⟨x296, ex296⟩ : ∃ y : Int32, y = (w11 + (nI 1)) := ⟨_, rfl⟩
        have hw := hw x296 ex296
        refine lv_iinc (v := x296) (lv' := [(11, .int x296), (10, .int x290), (0, .ref b), (1, .ref w1), (2, .ref w2), (3, .ref w3), (4, .ref w4), (5, .ref w5), (6, .long w6), (8, .long w8), (12, .int w12), (13, .int w13)]) hx hb dL_law_219 hl (k := 9) rfl (by rw [ex296]; rfl) (by decide) rfl (fun ls hl => ?_)
        obtain ⟨x297, ex297⟩ : ∃ y : Int32, y = (w13 + (nI 1)) := ⟨_, rfl⟩
        have hw := hw x297 ex297
        refine lv_iinc (v := x297) (lv' := [(13, .int x297), (11, .int x296), (10, .int x290), (0, .ref b), (1, .ref w1), (2, .ref w2), (3, .ref w3), (4, .ref w4), (5, .ref w5), (6, .long w6), (8, .long w8), (12, .int w12)]) hx hb dL_law_222 hl (k := 11) rfl (by rw [ex297]; rfl) (by decide) rfl (fun ls hl => ?_)
        refine lv_goto (tgt := 154) hx hb dL_law_225 (by decide) ?_
        exact ih _ _ _ _ _ _ _ _ _ _ _ _ hw _ _ _ _ _ (by omega) (by omega) h (lv_sub hl [3, 4, 5, 6, 7, 8, 9, 10, 2, 1, 11, 0] rfl)
def wcL_law_124  (L : Nat) (xs : Nat → Int32) (post : Int32 → Mem → Prop) (J : Nat → Nat → Nat → Nat → Nat → Int64 → Int64 → Int32 → Int32 → Int32 → Mem → Prop) (w1 : Nat) (w2 : Nat) (w3 : Nat) (w4 : Nat) (w5 : Nat) (w6 : Int64) (w8 : Int64) (w10 : Int32) (w11 : Int32) (w12 : Int32) (S : Mem) : Prop := isK S w4 9 ∧ (vp_in w12 (mN S w4) ∧ (wpL_addJob S w1 (mI S w4 w12.toNatClampNeg) (fun x268 S267 => (¬ x268 = w12 → (False)) ∧ (x268 = w12 → (∀ x270 : Int32, x270 = (w10 &&& (nI 1)) → (∀ x271 : Int32, x271 = (w11 + (nI 1)) → (∃ m, m ≤ 9 ∧ wlL_law_154 L xs post J m w1 w2 w3 w4 w5 w6 w8 x270 x271 w12 (nI 0) S267)))))))
set_option maxHeartbeats 8000000 in
set_option maxRecDepth 100000 in
theorem lcL_law_124 {p : Program} {l : Launch} {e : Env} {s : State} {m : MethodId} {below : List Frame} {meth : Method} {c : Code} {G : GT} {b L : Nat} {xs : Nat → Int32} (X : Cx p s m #[Value.ref b] meth c cL_law 27 RL G (fun q : Nat => s.heap.size ≤ q)) (hX : va_X b L xs s s.heap) (hbl : b < s.heap.size) (hbA : ¬ (fun q : Nat => s.heap.size ≤ q) b) (hr : meth.sig.returnType = ret) (hlk : meth.locks = false) (hl9 : l.stackTraces = false) (post : Int32 → Mem → Prop) (hpost : ∀ r S, post r S → r = 1) (J : Nat → Nat → Nat → Nat → Nat → Int64 → Int64 → Int32 → Int32 → Int32 → Mem → Prop) (Bc Bs : Nat) (hJ : ∀ (w1 : Nat) (w2 : Nat) (w3 : Nat) (w4 : Nat) (w5 : Nat) (w6 : Int64) (w8 : Int64) (w10 : Int32) (w11 : Int32) (w12 : Int32) (S : Mem), J w1 w2 w3 w4 w5 w6 w8 w10 w11 w12 S → ∀ (H : Heap) (locs : List Loc) (ls : Array Slot) (kc ks : Nat), kc + Bc ≤ 678795 → ks + Bs ≤ 7054424 → Hx G (fun q : Nat => s.heap.size ≤ q) s.heap H locs S → lv_has ls 27 [(0, .ref b), (1, .ref w1), (2, .ref w2), (3, .ref w3), (4, .ref w4), (5, .ref w5), (6, .long w6), (8, .long w8), (10, .int w10), (11, .int w11), (12, .int w12)] → W p l e room_1 s m #[Value.ref b] below meth c H locs kc ks (lw_Z below #[Value.ref b] s) (F0 m 80 ls [])) : ∀ (w1 : Nat) (w2 : Nat) (w3 : Nat) (w4 : Nat) (w5 : Nat) (w6 : Int64) (w8 : Int64) (w10 : Int32) (w11 : Int32) (w12 : Int32) (S : Mem) (hw : wcL_law_124 L xs post J w1 w2 w3 w4 w5 w6 w8 w10 w11 w12 S) (H : Heap) (locs : List Loc) (ls : Array Slot) (kc ks : Nat), kc + (30 + Bc) ≤ 678795 → ks + (190 + Bs) ≤ 7054424 → Hx G (fun q : Nat => s.heap.size ≤ q) s.heap H locs S → lv_has ls 27 [(0, .ref b), (1, .ref w1), (2, .ref w2), (3, .ref w3), (4, .ref w4), (5, .ref w5), (6, .long w6), (8, .long w8), (10, .int w10), (11, .int w11), (12, .int w12)] → W p l e room_1 s m #[Value.ref b] below meth c H locs kc ks (lw_Z below #[Value.ref b] s) (F0 m 124 ls []) := by
  have hx := X.1
  have hb := X.2.1
  have hown := X.2.2.2.1
  intro w1 w2 w3 w4 w5 w6 w8 w10 w11 w12 S hw H locs ls kc ks hkc hks h hl
  unfold wcL_law_124 at hw
  refine lv_iload hx hb dL_law_124 (lv_at hl 8 rfl) ?_
  refine lv_aload_n hx hb dL_law_126 rfl (lv_at hl 1 rfl) ?_
  refine lv_aload hx hb dL_law_127 (lv_at hl 4 rfl) ?_
  refine lv_iload hx hb dL_law_129 (lv_at hl 10 rfl) ?_
  obtain ⟨k265, hw⟩ := hw
  obtain ⟨v266, hw⟩ := hw
  refine r_cald X h k265 v266 dL_law_131 ?_
  refine rc_H (As := [.ref w1, .int (mI S w4 w12.toNatClampNeg)]) (rest := [.int w10]) X h (meL_addJob l hl9 G _ _ _ _ hw) gS_L_108 rfl rfl hdS_L_addJob rfl ⟨Nat.le_of_ble_eq_true rfl, Nat.le_of_ble_eq_true rfl⟩ hl.1 rfl (Nat.le_of_ble_eq_true rfl) ⟨law_c (by omega), law_s (by omega)⟩ dL_law_132 (fun x268 S267 H locs hw h => ?_)
  refine lv_iload hx hb dL_law_135 (lv_at hl 10 rfl) ?_
  refine lv_icmp_ne (tgt := 144) hx hb dL_law_137 (by decide) (fun c269 => ?_) (fun c269 => ?_)
  · have hw := hw.1 c269
    exact hw.elim
  · have hw := hw.2 c269
    refine lv_iconst (v := (nI 1)) hx hb dL_law_140 (by decide) ?_
    refine lv_goto (tgt := 145) hx hb dL_law_141 (by decide) ?_
    refine lv_iand hx hb dL_law_145 ?_
    refine lv_topi (fun x270 ex270 => ?_)
    have hw := hw x270 ex270
    refine lv_istore (lv' := [(10, .int x270), (0, .ref b), (1, .ref w1), (2, .ref w2), (3, .ref w3), (4, .ref w4), (5, .ref w5), (6, .long w6), (8, .long w8), (11, .int w11), (12, .int w12)]) hx hb dL_law_146 hl (by decide) rfl (fun ls hl => ?_)
    obtain ⟨x271, ex271⟩ : ∃ y : Int32, y = (w11 + (nI 1)) := ⟨_, rfl⟩
    have hw := hw x271 ex271
    refine lv_iinc (v := x271) (lv' := [(11, .int x271), (10, .int x270), (0, .ref b), (1, .ref w1), (2, .ref w2), (3, .ref w3), (4, .ref w4), (5, .ref w5), (6, .long w6), (8, .long w8), (12, .int w12)]) hx hb dL_law_148 hl (k := 9) rfl (by rw [ex271]; rfl) (by decide) rfl (fun ls hl => ?_)
    refine lv_iconst (v := (nI 0)) hx hb dL_law_151 (by decide) ?_
    refine lv_istore (lv' := [(13, .int (nI 0)), (11, .int x271), (10, .int x270), (0, .ref b), (1, .ref w1), (2, .ref w2), (3, .ref w3), (4, .ref w4), (5, .ref w5), (6, .long w6), (8, .long w8), (12, .int w12)]) hx hb dL_law_152 hl (by decide) rfl (fun ls hl => ?_)
    obtain ⟨n298, hn298, hw⟩ := hw
    exact llL_law_154 X hX hbl hbA hr hlk hl9 post hpost _ Bc Bs hJ n298 _ _ _ _ _ _ _ _ _ _ _ _ hw _ _ _ _ _ (by omega) (by omega) h (lv_sub hl [3, 4, 5, 6, 7, 8, 9, 10, 2, 1, 11, 0] rfl)
def wlL_law_80  (L : Nat) (xs : Nat → Int32) (post : Int32 → Mem → Prop) : Nat → Nat → Nat → Nat → Nat → Nat → Int64 → Int64 → Int32 → Int32 → Int32 → Mem → Prop
  | 0 => fun _ _ _ _ _ _ _ _ _ _ _ => False
  | n + 1 => fun w1 w2 w3 w4 w5 w6 w8 w10 w11 w12 S => ((nI 3) ≤ w12 → (∃ m, m ≤ 101 ∧ wlL_law_237 L xs post m w1 w2 w3 w4 w5 w6 w8 w10 w11 (nI 0) S)) ∧ (¬ (nI 3) ≤ w12 → (wpL_pick S L xs w11 (nI 3) (fun x257 S256 => (¬ x257 = 0 → (wpL_pick S256 L xs w11 (nI 3) (fun x260 S259 => (¬ x260 = (nI 1) → (isK S259 w4 9 ∧ (vp_in w12 (mN S259 w4) ∧ (∀ S264 : Mem, S264 = (sI S259 w4 w12.toNatClampNeg (vp_nar .char (nI 119))) → (wcL_law_124 L xs post (wlL_law_80 L xs post n) w1 w2 w3 w4 w5 w6 w8 w10 w11 w12 S264))))) ∧ (x260 = (nI 1) → (isK S259 w4 9 ∧ (vp_in w12 (mN S259 w4) ∧ (∀ S301 : Mem, S301 = (sI S259 w4 w12.toNatClampNeg (vp_nar .char (nI 112))) → (wcL_law_124 L xs post (wlL_law_80 L xs post n) w1 w2 w3 w4 w5 w6 w8 w10 w11 w12 S301)))))))) ∧ (x257 = 0 → (isK S256 w4 9 ∧ (vp_in w12 (mN S256 w4) ∧ (∀ S304 : Mem, S304 = (sI S256 w4 w12.toNatClampNeg (vp_nar .char (nI 115))) → (wcL_law_124 L xs post (wlL_law_80 L xs post n) w1 w2 w3 w4 w5 w6 w8 w10 w11 w12 S304))))))))
set_option maxHeartbeats 8000000 in
set_option maxRecDepth 100000 in
theorem llL_law_80 {p : Program} {l : Launch} {e : Env} {s : State} {m : MethodId} {below : List Frame} {meth : Method} {c : Code} {G : GT} {b L : Nat} {xs : Nat → Int32} (X : Cx p s m #[Value.ref b] meth c cL_law 27 RL G (fun q : Nat => s.heap.size ≤ q)) (hX : va_X b L xs s s.heap) (hbl : b < s.heap.size) (hbA : ¬ (fun q : Nat => s.heap.size ≤ q) b) (hr : meth.sig.returnType = ret) (hlk : meth.locks = false) (hl9 : l.stackTraces = false) (post : Int32 → Mem → Prop) (hpost : ∀ r S, post r S → r = 1) : ∀ (n : Nat) (w1 : Nat) (w2 : Nat) (w3 : Nat) (w4 : Nat) (w5 : Nat) (w6 : Int64) (w8 : Int64) (w10 : Int32) (w11 : Int32) (w12 : Int32) (S : Mem) (hw : wlL_law_80 L xs post n w1 w2 w3 w4 w5 w6 w8 w10 w11 w12 S) (H : Heap) (locs : List Loc) (ls : Array Slot) (kc ks : Nat), kc + (580280 + n * 30) ≤ 678795 → ks + (3465520 + n * 190) ≤ 7054424 → Hx G (fun q : Nat => s.heap.size ≤ q) s.heap H locs S → lv_has ls 27 [(0, .ref b), (1, .ref w1), (2, .ref w2), (3, .ref w3), (4, .ref w4), (5, .ref w5), (6, .long w6), (8, .long w8), (10, .int w10), (11, .int w11), (12, .int w12)] → W p l e room_1 s m #[Value.ref b] below meth c H locs kc ks (lw_Z below #[Value.ref b] s) (F0 m 80 ls []) := by
  have hx := X.1
  have hb := X.2.1
  have hown := X.2.2.2.1
  intro n
  induction n with
  | zero =>
    intro _ _ _ _ _ _ _ _ _ _ _ hw
    exact hw.elim
  | succ n ih =>
    intro w1 w2 w3 w4 w5 w6 w8 w10 w11 w12 S hw H locs ls kc ks hkc hks h hl
    refine lv_iload hx hb dL_law_80 (lv_at hl 10 rfl) ?_
    refine lv_iconst (v := (nI 3)) hx hb dL_law_82 (by decide) ?_
    refine lv_icmp_ge (tgt := 234) hx hb dL_law_83 (by decide) (fun c17 => ?_) (fun c17 => ?_)
    · have hw := hw.1 c17
      refine lv_iconst (v := (nI 0)) hx hb dL_law_234 (by decide) ?_
      refine lv_istore (lv' := [(12, .int (nI 0)), (0, .ref b), (1, .ref w1), (2, .ref w2), (3, .ref w3), (4, .ref w4), (5, .ref w5), (6, .long w6), (8, .long w8), (10, .int w10), (11, .int w11)]) hx hb dL_law_235 hl (by decide) rfl (fun ls hl => ?_)
      obtain ⟨n255, hn255, hw⟩ := hw
      exact llL_law_237 X hX hbl hbA hr hlk hl9 post hpost n255 _ _ _ _ _ _ _ _ _ _ _ hw _ _ _ _ _ (by omega) (by omega) h (lv_sub hl [1, 2, 3, 4, 5, 6, 7, 8, 9, 10, 0] rfl)
    · have hw := hw.2 c17
      refine lv_aload hx hb dL_law_86 (lv_at hl 4 rfl) ?_
      refine lv_iload hx hb dL_law_88 (lv_at hl 10 rfl) ?_
      refine lv_aload_n hx hb dL_law_90 rfl (lv_at hl 0 rfl) ?_
      refine lv_iload hx hb dL_law_91 (lv_at hl 9 rfl) ?_
      refine lv_iconst (v := (nI 3)) hx hb dL_law_93 (by decide) ?_
      refine rc_Ss (As := [.ref b, .int w11, .int (nI 3)]) (rest := [.int w12, .ref w4]) X h hX hbl hbA (meL_pick l G _ _ _ _ _ _ hw) gS_L_104 rfl rfl hdS_L_pick rfl ⟨Nat.le_of_ble_eq_true rfl, Nat.le_of_ble_eq_true rfl⟩ hl.1 rfl (Nat.le_of_ble_eq_true rfl) ⟨law_c (by omega), law_s (by omega)⟩ dL_law_94 (fun x257 S256 H locs hw h => ?_)
      refine lv_if_ne (tgt := 105) hx hb dL_law_97 (by decide) (fun c258 => ?_) (fun c258 => ?_)
      · have hw := hw.1 c258
        refine lv_aload_n hx hb dL_law_105 rfl (lv_at hl 0 rfl) ?_
        refine lv_iload hx hb dL_law_106 (lv_at hl 9 rfl) ?_
        refine lv_iconst (v := (nI 3)) hx hb dL_law_108 (by decide) ?_
        refine rc_Ss (As := [.ref b, .int w11, .int (nI 3)]) (rest := [.int w12, .ref w4]) X h hX hbl hbA (meL_pick l G _ _ _ _ _ _ hw) gS_L_104 rfl rfl hdS_L_pick rfl ⟨Nat.le_of_ble_eq_true rfl, Nat.le_of_ble_eq_true rfl⟩ hl.1 rfl (Nat.le_of_ble_eq_true rfl) ⟨law_c (by omega), law_s (by omega)⟩ dL_law_109 (fun x260 S259 H locs hw h => ?_)
        refine lv_iconst (v := (nI 1)) hx hb dL_law_112 (by decide) ?_
        refine lv_icmp_ne (tgt := 121) hx hb dL_law_113 (by decide) (fun c261 => ?_) (fun c261 => ?_)
        · have hw := hw.1 c261
          refine lv_bipush (v := (nI 119)) hx hb dL_law_121 (by decide) ?_
          obtain ⟨k262, hw⟩ := hw
          obtain ⟨v263, hw⟩ := hw
          refine r_cast X h k262 v263 dL_law_123 (fun H locs h => ?_)
          obtain ⟨S264, eS264⟩ : ∃ z : Mem, z = (sI S259 w4 w12.toNatClampNeg (vp_nar .char (nI 119))) := ⟨_, rfl⟩
          rw [← eS264] at h
          have hw := hw S264 eS264
          exact lcL_law_124 X hX hbl hbA hr hlk hl9 post hpost _ (580280 + n * 30) (3465520 + n * 190) (fun w1 w2 w3 w4 w5 w6 w8 w10 w11 w12 S hw H locs ls kc ks h1 h2 h hl => ih w1 w2 w3 w4 w5 w6 w8 w10 w11 w12 S hw H locs ls kc ks (by omega) (by omega) h hl) _ _ _ _ _ _ _ _ _ _ _ hw _ _ _ _ _ (by omega) (by omega) h (lv_sub hl [0, 1, 2, 3, 4, 5, 6, 7, 8, 9, 10] rfl)
        · have hw := hw.2 c261
          refine lv_bipush (v := (nI 112)) hx hb dL_law_116 (by decide) ?_
          refine lv_goto (tgt := 123) hx hb dL_law_118 (by decide) ?_
          obtain ⟨k299, hw⟩ := hw
          obtain ⟨v300, hw⟩ := hw
          refine r_cast X h k299 v300 dL_law_123 (fun H locs h => ?_)
          obtain ⟨S301, eS301⟩ : ∃ z : Mem, z = (sI S259 w4 w12.toNatClampNeg (vp_nar .char (nI 112))) := ⟨_, rfl⟩
          rw [← eS301] at h
          have hw := hw S301 eS301
          exact lcL_law_124 X hX hbl hbA hr hlk hl9 post hpost _ (580280 + n * 30) (3465520 + n * 190) (fun w1 w2 w3 w4 w5 w6 w8 w10 w11 w12 S hw H locs ls kc ks h1 h2 h hl => ih w1 w2 w3 w4 w5 w6 w8 w10 w11 w12 S hw H locs ls kc ks (by omega) (by omega) h hl) _ _ _ _ _ _ _ _ _ _ _ hw _ _ _ _ _ (by omega) (by omega) h (lv_sub hl [0, 1, 2, 3, 4, 5, 6, 7, 8, 9, 10] rfl)
      · have hw := hw.2 c258
        refine lv_bipush (v := (nI 115)) hx hb dL_law_100 (by decide) ?_
        refine lv_goto (tgt := 123) hx hb dL_law_102 (by decide) ?_
        obtain ⟨k302, hw⟩ := hw
        obtain ⟨v303, hw⟩ := hw
        refine r_cast X h k302 v303 dL_law_123 (fun H locs h => ?_)
        obtain ⟨S304, eS304⟩ : ∃ z : Mem, z = (sI S256 w4 w12.toNatClampNeg (vp_nar .char (nI 115))) := ⟨_, rfl⟩
        rw [← eS304] at h
        have hw := hw S304 eS304
        exact lcL_law_124 X hX hbl hbA hr hlk hl9 post hpost _ (580280 + n * 30) (3465520 + n * 190) (fun w1 w2 w3 w4 w5 w6 w8 w10 w11 w12 S hw H locs ls kc ks h1 h2 h hl => ih w1 w2 w3 w4 w5 w6 w8 w10 w11 w12 S hw H locs ls kc ks (by omega) (by omega) h hl) _ _ _ _ _ _ _ _ _ _ _ hw _ _ _ _ _ (by omega) (by omega) h (lv_sub hl [0, 1, 2, 3, 4, 5, 6, 7, 8, 9, 10] rfl)
def wlL_law_46  (L : Nat) (xs : Nat → Int32) (post : Int32 → Mem → Prop) : Nat → Nat → Nat → Nat → Nat → Nat → Int64 → Int64 → Int32 → Int32 → Int32 → Mem → Prop
  | 0 => fun _ _ _ _ _ _ _ _ _ _ _ => False
  | n + 1 => fun w1 w2 w3 w4 w5 w6 w8 w10 w11 w12 S => ((nI 4) ≤ w12 → (∃ m, m ≤ 4 ∧ wlL_law_80 L xs post m w1 w2 w3 w4 w5 w6 w8 w10 w11 (nI 0) S)) ∧ (¬ (nI 4) ≤ w12 → (wpL_addContent S w1 (fun x307 S306 => (¬ x307 = w12 → (False)) ∧ (x307 = w12 → (∀ x309 : Int32, x309 = (w10 &&& (nI 1)) → (∀ x310 : Int32, x310 = (w12 + (nI 1)) → (wlL_law_46 L xs post n w1 w2 w3 w4 w5 w6 w8 x309 w11 x310 S306)))))))
set_option maxHeartbeats 8000000 in
set_option maxRecDepth 100000 in
theorem llL_law_46 {p : Program} {l : Launch} {e : Env} {s : State} {m : MethodId} {below : List Frame} {meth : Method} {c : Code} {G : GT} {b L : Nat} {xs : Nat → Int32} (X : Cx p s m #[Value.ref b] meth c cL_law 27 RL G (fun q : Nat => s.heap.size ≤ q)) (hX : va_X b L xs s s.heap) (hbl : b < s.heap.size) (hbA : ¬ (fun q : Nat => s.heap.size ≤ q) b) (hr : meth.sig.returnType = ret) (hlk : meth.locks = false) (hl9 : l.stackTraces = false) (post : Int32 → Mem → Prop) (hpost : ∀ r S, post r S → r = 1) : ∀ (n : Nat) (w1 : Nat) (w2 : Nat) (w3 : Nat) (w4 : Nat) (w5 : Nat) (w6 : Int64) (w8 : Int64) (w10 : Int32) (w11 : Int32) (w12 : Int32) (S : Mem) (hw : wlL_law_46 L xs post n w1 w2 w3 w4 w5 w6 w8 w10 w11 w12 S) (H : Heap) (locs : List Loc) (ls : Array Slot) (kc ks : Nat), kc + (580400 + n * 1) ≤ 678795 → ks + (3466280 + n * 6) ≤ 7054424 → Hx G (fun q : Nat => s.heap.size ≤ q) s.heap H locs S → lv_has ls 27 [(0, .ref b), (1, .ref w1), (2, .ref w2), (3, .ref w3), (4, .ref w4), (5, .ref w5), (6, .long w6), (8, .long w8), (10, .int w10), (11, .int w11), (12, .int w12)] → W p l e room_1 s m #[Value.ref b] below meth c H locs kc ks (lw_Z below #[Value.ref b] s) (F0 m 46 ls []) := by
  have hx := X.1
  have hb := X.2.1
  have hown := X.2.2.2.1
  intro n
  induction n with
  | zero =>
    intro _ _ _ _ _ _ _ _ _ _ _ hw
    exact hw.elim
  | succ n ih =>
    intro w1 w2 w3 w4 w5 w6 w8 w10 w11 w12 S hw H locs ls kc ks hkc hks h hl
    refine lv_iload hx hb dL_law_46 (lv_at hl 10 rfl) ?_
    refine lv_iconst (v := (nI 4)) hx hb dL_law_48 (by decide) ?_
    refine lv_icmp_ge (tgt := 77) hx hb dL_law_49 (by decide) (fun c16 => ?_) (fun c16 => ?_)
    · have hw := hw.1 c16
      refine lv_iconst (v := (nI 0)) hx hb dL_law_77 (by decide) ?_
      refine lv_istore (lv' := [(12, .int (nI 0)), (0, .ref b), (1, .ref w1), (2, .ref w2), (3, .ref w3), (4, .ref w4), (5, .ref w5), (6, .long w6), (8, .long w8), (10, .int w10), (11, .int w11)]) hx hb dL_law_78 hl (by decide) rfl (fun ls hl => ?_)
      obtain ⟨n305, hn305, hw⟩ := hw
      exact llL_law_80 X hX hbl hbA hr hlk hl9 post hpost n305 _ _ _ _ _ _ _ _ _ _ _ hw _ _ _ _ _ (by omega) (by omega) h (lv_sub hl [1, 2, 3, 4, 5, 6, 7, 8, 9, 10, 0] rfl)
    · have hw := hw.2 c16
      refine lv_iload hx hb dL_law_52 (lv_at hl 8 rfl) ?_
      refine lv_aload_n hx hb dL_law_54 rfl (lv_at hl 1 rfl) ?_
      refine rc_H (As := [.ref w1]) (rest := [.int w10]) X h (meL_addContent l hl9 G _ _ _ hw) gS_L_101 rfl rfl hdS_L_addContent rfl ⟨Nat.le_of_ble_eq_true rfl, Nat.le_of_ble_eq_true rfl⟩ hl.1 rfl (Nat.le_of_ble_eq_true rfl) ⟨law_c (by omega), law_s (by omega)⟩ dL_law_55 (fun x307 S306 H locs hw h => ?_)
      refine lv_iload hx hb dL_law_58 (lv_at hl 10 rfl) ?_
      refine lv_icmp_ne (tgt := 67) hx hb dL_law_60 (by decide) (fun c308 => ?_) (fun c308 => ?_)
      · have hw := hw.1 c308
        exact hw.elim
      · have hw := hw.2 c308
        refine lv_iconst (v := (nI 1)) hx hb dL_law_63 (by decide) ?_
        refine lv_goto (tgt := 68) hx hb dL_law_64 (by decide) ?_
        refine lv_iand hx hb dL_law_68 ?_
        refine lv_topi (fun x309 ex309 => ?_)
        have hw := hw x309 ex309
        refine lv_istore (lv' := [(10, .int x309), (0, .ref b), (1, .ref w1), (2, .ref w2), (3, .ref w3), (4, .ref w4), (5, .ref w5), (6, .long w6), (8, .long w8), (11, .int w11), (12, .int w12)]) hx hb dL_law_69 hl (by decide) rfl (fun ls hl => ?_)
        obtain ⟨x310, ex310⟩ : ∃ y : Int32, y = (w12 + (nI 1)) := ⟨_, rfl⟩
        have hw := hw x310 ex310
        refine lv_iinc (v := x310) (lv' := [(12, .int x310), (10, .int x309), (0, .ref b), (1, .ref w1), (2, .ref w2), (3, .ref w3), (4, .ref w4), (5, .ref w5), (6, .long w6), (8, .long w8), (11, .int w11)]) hx hb dL_law_71 hl (k := 10) rfl (by rw [ex310]; rfl) (by decide) rfl (fun ls hl => ?_)
        refine lv_goto (tgt := 46) hx hb dL_law_74 (by decide) ?_
        exact ih _ _ _ _ _ _ _ _ _ _ _ hw _ _ _ _ _ (by omega) (by omega) h (lv_sub hl [2, 3, 4, 5, 6, 7, 8, 9, 1, 10, 0] rfl)
def wpL_law (S : Mem) (L : Nat) (xs : Nat → Int32) (post : Int32 → Mem → Prop) : Prop := ∀ o1 : Nat, o1 ∉ mL S → (∀ S2 : Mem, S2 = (nA S o1 6 0) → (wpX6_init S2 o1 (fun u4 S3 => ∀ o5 o6 o7 o8 : Nat, MNf S3 o5 o6 o7 o8 → (∀ S9 : Mem, S9 = (nM S3 o5 o6 o7 o8 16) → (∀ o10 : Nat, o10 ∉ mL S9 → (∀ S11 : Mem, S11 = (nA S9 o10 8 3) → (∀ o12 : Nat, o12 ∉ mL S11 → (∀ S13 : Mem, S13 = (nA S11 o12 9 3) → (∀ o14 : Nat, o14 ∉ mL S13 → (∀ S15 : Mem, S15 = (nA S13 o14 8 100) → (∃ m, m ≤ 5 ∧ wlL_law_46 L xs post m o1 o5 o10 o12 o14 (0 : Int64) (0 : Int64) (nI 1) (nI 0) (nI 0) S15)))))))))))
set_option maxHeartbeats 8000000 in
set_option maxRecDepth 100000 in
theorem meL_law {p : Program} {l : Launch} {e : Env} {s : State} {m : MethodId} {below : List Frame} {meth : Method} {c : Code} {G : GT} {b L : Nat} {xs : Nat → Int32} (X : Cx p s m #[Value.ref b] meth c cL_law 27 RL G (fun q : Nat => s.heap.size ≤ q)) (hX : va_X b L xs s s.heap) (hbl : b < s.heap.size) (hbA : ¬ (fun q : Nat => s.heap.size ≤ q) b) (hr : meth.sig.returnType = ret) (hlk : meth.locks = false) (hl9 : l.stackTraces = false) (hMN : ∀ (H : Heap) (locs : List Loc) (ls : Array Slot) (S : Mem) (kc ks : Nat), Hx G (fun q : Nat => s.heap.size ≤ q) s.heap H locs S → kc + 4 ≤ 678795 → ks + 51 ≤ 7054424 → (∀ (q a1 a2 a3 : Nat) (H1 : Heap), MNf S q a1 a2 a3 → Hx G (fun q : Nat => s.heap.size ≤ q) s.heap H1 locs (nM S q a1 a2 a3 16) → W p l e room_1 s m #[Value.ref b] below meth c H1 locs (kc + 4) (ks + 51) (lw_Z below #[Value.ref b] s) (F0 m (11 + 4) ls [.ref q])) → W p l e room_1 s m #[Value.ref b] below meth c H locs kc ks (lw_Z below #[Value.ref b] s) (F0 m 11 ls [.int (nI 16), .int (nI 3)])) (post : Int32 → Mem → Prop) (hpost : ∀ r S, post r S → r = 1) {S : Mem} (hw : wpL_law S L xs post) {H : Heap} {locs : List Loc} {ls : Array Slot} (h : Hx G (fun q : Nat => s.heap.size ≤ q) s.heap H locs S) (hl : lv_has ls 27 [(0, .ref b)]) : W p l e room_1 s m #[Value.ref b] below meth c H locs 0 0 (lw_Z below #[Value.ref b] s) (F0 m 0 ls []) := by
  have hx := X.1
  have hb := X.2.1
  have hown := X.2.2.2.1
  unfold wpL_law at hw
  refine r_new X h 6 (by decide) rfl inX6 tyX6 tyX6_ok q32 q33 q14 (by decide +kernel) ⟨law_c (by omega), law_s (by omega)⟩ dL_law_0 (fun o1 H ho1 h => ?_)
  have hw := hw o1 ho1
  obtain ⟨S2, eS2⟩ : ∃ z : Mem, z = (nA S o1 6 0) := ⟨_, rfl⟩
  rw [← eS2] at h
  have hw := hw S2 eS2
  refine lv_dup hx hb dL_law_3 rfl ?_
  refine rc_I (As := []) (rest := [.ref o1]) X h (meX6_init l G _ _ _ hw) gU_L_98 q14 q34 q35 rfl rfl rfl hdS_X6_init rfl ⟨Nat.le_of_ble_eq_true rfl, Nat.le_of_ble_eq_true rfl⟩ hl.1 rfl (Nat.le_of_ble_eq_true rfl) ⟨law_c (by omega), law_s (by omega)⟩ dL_law_4 (fun u4 S3 H locs hw h => ?_)
  refine lv_astore_n (lv' := [(1, .ref o1), (0, .ref b)]) hx hb dL_law_7 rfl hl (by decide) rfl (fun ls hl => ?_)
  refine lv_iconst (v := (nI 3)) hx hb dL_law_8 (by decide) ?_
  refine lv_bipush (v := (nI 16)) hx hb dL_law_9 (by decide) ?_
  refine hMN _ _ _ _ _ _ h (by omega) (by omega) (fun o5 o6 o7 o8 H hn9 h => ?_)
  have hw := hw o5 o6 o7 o8 hn9
  obtain ⟨S9, eS9⟩ : ∃ z : Mem, z = (nM S3 o5 o6 o7 o8 16) := ⟨_, rfl⟩
  rw [← eS9] at h
  have hw := hw S9 eS9
  refine lv_astore_n (lv' := [(2, .ref o5), (1, .ref o1), (0, .ref b)]) hx hb dL_law_15 rfl hl (by decide) rfl (fun ls hl => ?_)
  refine lv_iconst (v := (nI 3)) hx hb dL_law_16 (by decide) ?_
  refine r_newI X h 3 q64 (by decide) ⟨law_c (by omega), law_s (by omega)⟩ dL_law_17 (fun o10 H ho10 h => ?_)
  have hw := hw o10 ho10
  obtain ⟨S11, eS11⟩ : ∃ z : Mem, z = (nA S9 o10 8 3) := ⟨_, rfl⟩
  rw [← eS11] at h
  have hw := hw S11 eS11
  refine lv_astore_n (lv' := [(3, .ref o10), (2, .ref o5), (1, .ref o1), (0, .ref b)]) hx hb dL_law_19 rfl hl (by decide) rfl (fun ls hl => ?_)
  refine lv_iconst (v := (nI 3)) hx hb dL_law_20 (by decide) ?_
  refine r_newC X h 3 q815 (by decide) ⟨law_c (by omega), law_s (by omega)⟩ dL_law_21 (fun o12 H ho12 h => ?_)
  have hw := hw o12 ho12
  obtain ⟨S13, eS13⟩ : ∃ z : Mem, z = (nA S11 o12 9 3) := ⟨_, rfl⟩
  rw [← eS13] at h
  have hw := hw S13 eS13
  refine lv_astore (lv' := [(4, .ref o12), (3, .ref o10), (2, .ref o5), (1, .ref o1), (0, .ref b)]) hx hb dL_law_23 hl (by decide) rfl (fun ls hl => ?_)
  refine lv_bipush (v := (nI 100)) hx hb dL_law_25 (by decide) ?_
  refine r_newI X h 100 q64 (by decide) ⟨law_c (by omega), law_s (by omega)⟩ dL_law_27 (fun o14 H ho14 h => ?_)
  have hw := hw o14 ho14
  obtain ⟨S15, eS15⟩ : ∃ z : Mem, z = (nA S13 o14 8 100) := ⟨_, rfl⟩
  rw [← eS15] at h
  have hw := hw S15 eS15
  refine lv_astore (lv' := [(5, .ref o14), (4, .ref o12), (3, .ref o10), (2, .ref o5), (1, .ref o1), (0, .ref b)]) hx hb dL_law_29 hl (by decide) rfl (fun ls hl => ?_)
  refine lv_lconst (v := 0) hx hb dL_law_31 (by decide) ?_
  refine lv_lstore (lv' := [(6, .long (0 : Int64)), (5, .ref o14), (4, .ref o12), (3, .ref o10), (2, .ref o5), (1, .ref o1), (0, .ref b)]) hx hb dL_law_32 hl (by decide) rfl (fun ls hl => ?_)
  refine lv_lconst (v := 0) hx hb dL_law_34 (by decide) ?_
  refine lv_lstore (lv' := [(8, .long (0 : Int64)), (6, .long (0 : Int64)), (5, .ref o14), (4, .ref o12), (3, .ref o10), (2, .ref o5), (1, .ref o1), (0, .ref b)]) hx hb dL_law_35 hl (by decide) rfl (fun ls hl => ?_)
  refine lv_iconst (v := (nI 1)) hx hb dL_law_37 (by decide) ?_
  refine lv_istore (lv' := [(10, .int (nI 1)), (8, .long (0 : Int64)), (6, .long (0 : Int64)), (5, .ref o14), (4, .ref o12), (3, .ref o10), (2, .ref o5), (1, .ref o1), (0, .ref b)]) hx hb dL_law_38 hl (by decide) rfl (fun ls hl => ?_)
  refine lv_iconst (v := (nI 0)) hx hb dL_law_40 (by decide) ?_
  refine lv_istore (lv' := [(11, .int (nI 0)), (10, .int (nI 1)), (8, .long (0 : Int64)), (6, .long (0 : Int64)), (5, .ref o14), (4, .ref o12), (3, .ref o10), (2, .ref o5), (1, .ref o1), (0, .ref b)]) hx hb dL_law_41 hl (by decide) rfl (fun ls hl => ?_)
  refine lv_iconst (v := (nI 0)) hx hb dL_law_43 (by decide) ?_
  refine lv_istore (lv' := [(12, .int (nI 0)), (11, .int (nI 0)), (10, .int (nI 1)), (8, .long (0 : Int64)), (6, .long (0 : Int64)), (5, .ref o14), (4, .ref o12), (3, .ref o10), (2, .ref o5), (1, .ref o1), (0, .ref b)]) hx hb dL_law_44 hl (by decide) rfl (fun ls hl => ?_)
  obtain ⟨n311, hn311, hw⟩ := hw
  exact llL_law_46 X hX hbl hbA hr hlk hl9 post hpost n311 _ _ _ _ _ _ _ _ _ _ _ hw _ _ _ _ _ (by omega) (by omega) h (lv_sub hl [10, 9, 8, 7, 6, 5, 4, 3, 2, 1, 0] rfl)
