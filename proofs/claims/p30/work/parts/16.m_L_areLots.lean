abbrev rmL_areLots : Room := { frames := 9, cells := 3743, slots := 22254, locals := 158 }
theorem rcL_areLots {a : Nat} (h : a ≤ 3743) : a ≤ rmL_areLots.cells := h
theorem rsL_areLots {a : Nat} (h : a ≤ 22254) : a ≤ rmL_areLots.slots := h
def wlL_areLots_221 (a0 : Nat) (a1 : Nat) (a2 : Nat) (post : Int32 → Mem → Prop) : Nat → Nat → Int32 → Int32 → Mem → Prop
  | 0 => fun _ _ _ _ => False
  | n + 1 => fun w3 w4 w5 S => ((nI 4) ≤ w5 → (vz_nar w4 ∧ (post w4 S))) ∧ (¬ (nI 4) ≤ w5 → (wpL_outdated S a0 w5 (fun x10 S9 => isK S9 w3 8 ∧ (vp_in w5 (mN S9 w3) ∧ ((¬ x10 = (mI S9 w3 w5.toNatClampNeg) → (False)) ∧ (x10 = (mI S9 w3 w5.toNatClampNeg) → (∀ x14 : Int32, x14 = (w4 &&& (nI 1)) → (∀ x15 : Int32, x15 = (w5 + (nI 1)) → (wlL_areLots_221 a0 a1 a2 post n w3 x14 x15 S9)))))))))
set_option maxHeartbeats 8000000 in
set_option maxRecDepth 100000 in
theorem llL_areLots_221 {p : Program} {l : Launch} {e : Env} {s : State} {m : MethodId} {args : Array Value} {below : List Frame} {meth : Method} {c : Code} {G : GT} {A : Nat → Prop} (X : Cx p s m args meth c cL_areLots 11 RL G A) (hr : meth.sig.returnType = (some .boolean)) (hl9 : l.stackTraces = false) (a0 : Nat) (a1 : Nat) (a2 : Nat) (post : Int32 → Mem → Prop) : ∀ (n : Nat) (w3 : Nat) (w4 : Int32) (w5 : Int32) (S : Mem) (hw : wlL_areLots_221 a0 a1 a2 post n w3 w4 w5 S) (H : Heap) (locs : List Loc) (ls : Array Slot) (kc ks : Nat), kc + (n * 1 + 0) ≤ 3743 → ks + (n * 6 + 0) ≤ 22254 → Hx G A s.heap H locs S → lv_has ls 11 [(0, .ref a0), (1, .ref a1), (2, .ref a2), (3, .ref w3), (4, .int w4), (5, .int w5)] → W p l e rmL_areLots s m args below meth c H locs kc ks (MQ below (QN emI post G A) args s 3743 22254 A) (F0 m 221 ls []) := by
  have hx := X.1
  have hb := X.2.1
  have hown := X.2.2.2.1
  intro n
  induction n with
  | zero =>
    intro _ _ _ _ hw
    exact hw.elim
  | succ n ih =>
    intro w3 w4 w5 S hw H locs ls kc ks hkc hks h hl
    refine lv_iload hx hb dL_areLots_221 (lv_at hl 5 rfl) ?_
    refine lv_iconst (v := (nI 4)) hx hb dL_areLots_223 (by decide) ?_
    refine lv_icmp_ge (tgt := 256) hx hb dL_areLots_224 (by decide) (fun c7 => ?_) (fun c7 => ?_)
    · have hw := hw.1 c7
      refine lv_iload hx hb dL_areLots_256 (lv_at hl 4 rfl) ?_
      obtain ⟨b8, hw⟩ := hw
      exact (en_z X h hr b8 hw (by omega) (by omega) dL_areLots_258)
    · have hw := hw.2 c7
      refine lv_iload hx hb dL_areLots_227 (lv_at hl 4 rfl) ?_
      refine lv_aload_n hx hb dL_areLots_229 rfl (lv_at hl 0 rfl) ?_
      refine lv_iload hx hb dL_areLots_230 (lv_at hl 5 rfl) ?_
      refine rc_H (As := [.ref a0, .int w5]) (rest := [.int w4]) X h (meL_outdated l hl9 G _ _ _ _ hw) gS_L_174 rfl rfl hdS_L_outdated rfl ⟨Nat.le_of_ble_eq_true rfl, Nat.le_of_ble_eq_true rfl⟩ hl.1 rfl (Nat.le_of_ble_eq_true rfl) ⟨rcL_areLots (by omega), rsL_areLots (by omega)⟩ dL_areLots_232 (fun x10 S9 H locs hw h => ?_)
      refine lv_aload_n hx hb dL_areLots_235 rfl (lv_at hl 3 rfl) ?_
      refine lv_iload hx hb dL_areLots_236 (lv_at hl 5 rfl) ?_
      obtain ⟨k11, hw⟩ := hw
      obtain ⟨v12, hw⟩ := hw
      refine r_iald X h k11 v12 dL_areLots_238 ?_
      refine lv_icmp_ne (tgt := 246) hx hb dL_areLots_239 (by decide) (fun c13 => ?_) (fun c13 => ?_)
      · have hw := hw.1 c13
        exact hw.elim
      · have hw := hw.2 c13
        refine lv_iconst (v := (nI 1)) hx hb dL_areLots_242 (by decide) ?_
        refine lv_goto (tgt := 247) hx hb dL_areLots_243 (by decide) ?_
        refine lv_iand hx hb dL_areLots_247 ?_
        refine lv_topi (fun x14 ex14 => ?_)
        have hw := hw x14 ex14
        refine lv_istore (lv' := [(4, .int x14), (0, .ref a0), (1, .ref a1), (2, .ref a2), (3, .ref w3), (5, .int w5)]) hx hb dL_areLots_248 hl (by decide) rfl (fun ls hl => ?_)
        obtain ⟨x15, ex15⟩ : ∃ y : Int32, y = (w5 + (nI 1)) := ⟨_, rfl⟩
        have hw := hw x15 ex15
        refine lv_iinc (v := x15) (lv' := [(5, .int x15), (4, .int x14), (0, .ref a0), (1, .ref a1), (2, .ref a2), (3, .ref w3)]) hx hb dL_areLots_250 hl (k := 5) rfl (by rw [ex15]; rfl) (by decide) rfl (fun ls hl => ?_)
        refine lv_goto (tgt := 221) hx hb dL_areLots_253 (by decide) ?_
        exact ih _ _ _ _ hw _ _ _ _ _ (by omega) (by omega) h (lv_sub hl [2, 3, 4, 5, 1, 0] rfl)
def wcL_areLots_206 (a0 : Nat) (a1 : Nat) (a2 : Nat) (post : Int32 → Mem → Prop) (J : Nat → Int32 → Int32 → Int32 → Int32 → Mem → Prop) (w3 : Nat) (w4 : Int32) (w5 : Int32) (w7 : Int32) (w8 : Int32) (S : Mem) : Prop := ∀ x38 : Int32, x38 = (w8 + (nI 1)) → (J w3 w4 w5 w7 x38 S)
set_option maxHeartbeats 8000000 in
set_option maxRecDepth 100000 in
theorem lcL_areLots_206 {p : Program} {l : Launch} {e : Env} {s : State} {m : MethodId} {args : Array Value} {below : List Frame} {meth : Method} {c : Code} {G : GT} {A : Nat → Prop} (X : Cx p s m args meth c cL_areLots 11 RL G A) (hr : meth.sig.returnType = (some .boolean)) (hl9 : l.stackTraces = false) (a0 : Nat) (a1 : Nat) (a2 : Nat) (post : Int32 → Mem → Prop) (J : Nat → Int32 → Int32 → Int32 → Int32 → Mem → Prop) (Bc Bs : Nat) (hJ : ∀ (w3 : Nat) (w4 : Int32) (w5 : Int32) (w7 : Int32) (w8 : Int32) (S : Mem), J w3 w4 w5 w7 w8 S → ∀ (H : Heap) (locs : List Loc) (ls : Array Slot) (kc ks : Nat), kc + Bc ≤ 3743 → ks + Bs ≤ 22254 → Hx G A s.heap H locs S → lv_has ls 11 [(0, .ref a0), (1, .ref a1), (2, .ref a2), (3, .ref w3), (4, .int w4), (5, .int w5), (7, .int w7), (8, .int w8)] → W p l e rmL_areLots s m args below meth c H locs kc ks (MQ below (QN emI post G A) args s 3743 22254 A) (F0 m 172 ls [])) : ∀ (w3 : Nat) (w4 : Int32) (w5 : Int32) (w7 : Int32) (w8 : Int32) (S : Mem) (hw : wcL_areLots_206 a0 a1 a2 post J w3 w4 w5 w7 w8 S) (H : Heap) (locs : List Loc) (ls : Array Slot) (kc ks : Nat), kc + (0 + Bc) ≤ 3743 → ks + (0 + Bs) ≤ 22254 → Hx G A s.heap H locs S → lv_has ls 11 [(0, .ref a0), (1, .ref a1), (2, .ref a2), (3, .ref w3), (4, .int w4), (5, .int w5), (7, .int w7), (8, .int w8)] → W p l e rmL_areLots s m args below meth c H locs kc ks (MQ below (QN emI post G A) args s 3743 22254 A) (F0 m 206 ls []) := by
  have hx := X.1
  have hb := X.2.1
  have hown := X.2.2.2.1
  intro w3 w4 w5 w7 w8 S hw H locs ls kc ks hkc hks h hl
  unfold wcL_areLots_206 at hw
  obtain ⟨x38, ex38⟩ : ∃ y : Int32, y = (w8 + (nI 1)) := ⟨_, rfl⟩
  have hw := hw x38 ex38
  refine lv_iinc (v := x38) (lv' := [(8, .int x38), (0, .ref a0), (1, .ref a1), (2, .ref a2), (3, .ref w3), (4, .int w4), (5, .int w5), (7, .int w7)]) hx hb dL_areLots_206 hl (k := 7) rfl (by rw [ex38]; rfl) (by decide) rfl (fun ls hl => ?_)
  refine lv_goto (tgt := 172) hx hb dL_areLots_209 (by decide) ?_
  exact hJ _ _ _ _ _ _ hw _ _ _ _ _ (by omega) (by omega) h (lv_sub hl [1, 2, 3, 4, 5, 6, 7, 0] rfl)
def wlL_areLots_172 (a0 : Nat) (a1 : Nat) (a2 : Nat) (post : Int32 → Mem → Prop) (J : Nat → Int32 → Int32 → Mem → Prop) : Nat → Nat → Int32 → Int32 → Int32 → Int32 → Mem → Prop
  | 0 => fun _ _ _ _ _ _ => False
  | n + 1 => fun w3 w4 w5 w7 w8 S => ((nI 4) ≤ w8 → (∀ x31 : Int32, x31 = (w5 + (nI 1)) → (J w3 w4 x31 S))) ∧ (¬ (nI 4) ≤ w8 → (isK S w3 8 ∧ (vp_in w8 (mN S w3) ∧ ((¬ ((w7 >>> (w8 &&& 31)) &&& (nI 1)) = (nI 1) → (∀ x35 : Int32, x35 = ((mI S w3 w8.toNatClampNeg) + (nI 0)) → (vp_in w8 (mN S w3) ∧ (∀ S37 : Mem, S37 = (sI S w3 w8.toNatClampNeg x35) → (wcL_areLots_206 a0 a1 a2 post (wlL_areLots_172 a0 a1 a2 post J n) w3 w4 w5 w7 w8 S37))))) ∧ (((w7 >>> (w8 &&& 31)) &&& (nI 1)) = (nI 1) → (wpL_copiesn S a0 w5 (fun x40 S39 => ∀ x41 : Int32, x41 = ((mI S w3 w8.toNatClampNeg) + x40) → (isK S39 w3 8 ∧ (vp_in w8 (mN S39 w3) ∧ (∀ S44 : Mem, S44 = (sI S39 w3 w8.toNatClampNeg x41) → (wcL_areLots_206 a0 a1 a2 post (wlL_areLots_172 a0 a1 a2 post J n) w3 w4 w5 w7 w8 S44)))))))))))
set_option maxHeartbeats 8000000 in
set_option maxRecDepth 100000 in
theorem llL_areLots_172 {p : Program} {l : Launch} {e : Env} {s : State} {m : MethodId} {args : Array Value} {below : List Frame} {meth : Method} {c : Code} {G : GT} {A : Nat → Prop} (X : Cx p s m args meth c cL_areLots 11 RL G A) (hr : meth.sig.returnType = (some .boolean)) (hl9 : l.stackTraces = false) (a0 : Nat) (a1 : Nat) (a2 : Nat) (post : Int32 → Mem → Prop) (J : Nat → Int32 → Int32 → Mem → Prop) (Bc Bs : Nat) (hJ : ∀ (w3 : Nat) (w4 : Int32) (w5 : Int32) (S : Mem), J w3 w4 w5 S → ∀ (H : Heap) (locs : List Loc) (ls : Array Slot) (kc ks : Nat), kc + Bc ≤ 3743 → ks + Bs ≤ 22254 → Hx G A s.heap H locs S → lv_has ls 11 [(0, .ref a0), (1, .ref a1), (2, .ref a2), (3, .ref w3), (4, .int w4), (5, .int w5)] → W p l e rmL_areLots s m args below meth c H locs kc ks (MQ below (QN emI post G A) args s 3743 22254 A) (F0 m 10 ls [])) : ∀ (n : Nat) (w3 : Nat) (w4 : Int32) (w5 : Int32) (w7 : Int32) (w8 : Int32) (S : Mem) (hw : wlL_areLots_172 a0 a1 a2 post J n w3 w4 w5 w7 w8 S) (H : Heap) (locs : List Loc) (ls : Array Slot) (kc ks : Nat), kc + (n * 0 + 0 + Bc) ≤ 3743 → ks + (n * 0 + 0 + Bs) ≤ 22254 → Hx G A s.heap H locs S → lv_has ls 11 [(0, .ref a0), (1, .ref a1), (2, .ref a2), (3, .ref w3), (4, .int w4), (5, .int w5), (7, .int w7), (8, .int w8)] → W p l e rmL_areLots s m args below meth c H locs kc ks (MQ below (QN emI post G A) args s 3743 22254 A) (F0 m 172 ls []) := by
  have hx := X.1
  have hb := X.2.1
  have hown := X.2.2.2.1
  intro n
  induction n with
  | zero =>
    intro _ _ _ _ _ _ hw
    exact hw.elim
  | succ n ih =>
    intro w3 w4 w5 w7 w8 S hw H locs ls kc ks hkc hks h hl
    refine lv_iload hx hb dL_areLots_172 (lv_at hl 7 rfl) ?_
    refine lv_iconst (v := (nI 4)) hx hb dL_areLots_174 (by decide) ?_
    refine lv_icmp_ge (tgt := 212) hx hb dL_areLots_175 (by decide) (fun c30 => ?_) (fun c30 => ?_)
    · have hw := hw.1 c30
      obtain ⟨x31, ex31⟩ : ∃ y : Int32, y = (w5 + (nI 1)) := ⟨_, rfl⟩
      have hw := hw x31 ex31
      refine lv_iinc (v := x31) (lv' := [(5, .int x31), (0, .ref a0), (1, .ref a1), (2, .ref a2), (3, .ref w3), (4, .int w4), (7, .int w7), (8, .int w8)]) hx hb dL_areLots_212 hl (k := 5) rfl (by rw [ex31]; rfl) (by decide) rfl (fun ls hl => ?_)
      refine lv_goto (tgt := 10) hx hb dL_areLots_215 (by decide) ?_
      exact hJ _ _ _ _ hw _ _ _ _ _ (by omega) (by omega) h (lv_sub hl [1, 2, 3, 4, 5, 0] rfl)
    · have hw := hw.2 c30
      refine lv_aload_n hx hb dL_areLots_178 rfl (lv_at hl 3 rfl) ?_
      refine lv_iload hx hb dL_areLots_179 (lv_at hl 7 rfl) ?_
      refine lv_dup2_11 hx hb dL_areLots_181 rfl rfl ?_
      obtain ⟨k32, hw⟩ := hw
      obtain ⟨v33, hw⟩ := hw
      refine r_iald X h k32 v33 dL_areLots_182 ?_
      refine lv_iload hx hb dL_areLots_183 (lv_at hl 6 rfl) ?_
      refine lv_iload hx hb dL_areLots_185 (lv_at hl 7 rfl) ?_
      refine lv_ishr hx hb dL_areLots_187 ?_
      refine lv_iconst (v := (nI 1)) hx hb dL_areLots_188 (by decide) ?_
      refine lv_iand hx hb dL_areLots_189 ?_
      refine lv_iconst (v := (nI 1)) hx hb dL_areLots_190 (by decide) ?_
      refine lv_icmp_ne (tgt := 203) hx hb dL_areLots_191 (by decide) (fun c34 => ?_) (fun c34 => ?_)
      · have hw := hw.1 c34
        refine lv_iconst (v := (nI 0)) hx hb dL_areLots_203 (by decide) ?_
        refine lv_iadd hx hb dL_areLots_204 ?_
        refine lv_topi (fun x35 ex35 => ?_)
        have hw := hw x35 ex35
        obtain ⟨v36, hw⟩ := hw
        refine r_iast X h k32 v36 dL_areLots_205 (fun H locs h => ?_)
        obtain ⟨S37, eS37⟩ : ∃ z : Mem, z = (sI S w3 w8.toNatClampNeg x35) := ⟨_, rfl⟩
        rw [← eS37] at h
        have hw := hw S37 eS37
        exact lcL_areLots_206 X hr hl9 _ _ _ _ _ (n * 0 + 0 + Bc) (n * 0 + 0 + Bs) (fun w3 w4 w5 w7 w8 S hw H locs ls kc ks h1 h2 h hl => ih w3 w4 w5 w7 w8 S hw H locs ls kc ks (by omega) (by omega) h hl) _ _ _ _ _ _ hw _ _ _ _ _ (by omega) (by omega) h (lv_sub hl [0, 1, 2, 3, 4, 5, 6, 7] rfl)
      · have hw := hw.2 c34
        refine lv_aload_n hx hb dL_areLots_194 rfl (lv_at hl 0 rfl) ?_
        refine lv_iload hx hb dL_areLots_195 (lv_at hl 5 rfl) ?_
        refine rc_H (As := [.ref a0, .int w5]) (rest := [.int (mI S w3 w8.toNatClampNeg), .int w8, .ref w3]) X h (meL_copiesn l hl9 G _ _ _ _ hw) gS_L_150 rfl rfl hdS_L_copies rfl ⟨Nat.le_of_ble_eq_true rfl, Nat.le_of_ble_eq_true rfl⟩ hl.1 rfl (Nat.le_of_ble_eq_true rfl) ⟨rcL_areLots (by omega), rsL_areLots (by omega)⟩ dL_areLots_197 (fun x40 S39 H locs hw h => ?_)
        refine lv_goto (tgt := 204) hx hb dL_areLots_200 (by decide) ?_
        refine lv_iadd hx hb dL_areLots_204 ?_
        refine lv_topi (fun x41 ex41 => ?_)
        have hw := hw x41 ex41
        obtain ⟨k42, hw⟩ := hw
        obtain ⟨v43, hw⟩ := hw
        refine r_iast X h k42 v43 dL_areLots_205 (fun H locs h => ?_)
        obtain ⟨S44, eS44⟩ : ∃ z : Mem, z = (sI S39 w3 w8.toNatClampNeg x41) := ⟨_, rfl⟩
        rw [← eS44] at h
        have hw := hw S44 eS44
        exact lcL_areLots_206 X hr hl9 _ _ _ _ _ (n * 0 + 0 + Bc) (n * 0 + 0 + Bs) (fun w3 w4 w5 w7 w8 S hw H locs ls kc ks h1 h2 h hl => ih w3 w4 w5 w7 w8 S hw H locs ls kc ks (by omega) (by omega) h hl) _ _ _ _ _ _ hw _ _ _ _ _ (by omega) (by omega) h (lv_sub hl [0, 1, 2, 3, 4, 5, 6, 7] rfl)
def wcL_areLots_163 (a0 : Nat) (a1 : Nat) (a2 : Nat) (post : Int32 → Mem → Prop) (J : Nat → Int32 → Int32 → Nat → Int32 → Int32 → Mem → Prop) (w3 : Nat) (w4 : Int32) (w5 : Int32) (w6 : Nat) (w7 : Int32) (w8 : Int32) (S : Mem) : Prop := ∀ x73 : Int32, x73 = (w8 + (nI 1)) → (J w3 w4 w5 w6 w7 x73 S)
set_option maxHeartbeats 8000000 in
set_option maxRecDepth 100000 in
theorem lcL_areLots_163 {p : Program} {l : Launch} {e : Env} {s : State} {m : MethodId} {args : Array Value} {below : List Frame} {meth : Method} {c : Code} {G : GT} {A : Nat → Prop} (X : Cx p s m args meth c cL_areLots 11 RL G A) (hr : meth.sig.returnType = (some .boolean)) (hl9 : l.stackTraces = false) (a0 : Nat) (a1 : Nat) (a2 : Nat) (post : Int32 → Mem → Prop) (J : Nat → Int32 → Int32 → Nat → Int32 → Int32 → Mem → Prop) (Bc Bs : Nat) (hJ : ∀ (w3 : Nat) (w4 : Int32) (w5 : Int32) (w6 : Nat) (w7 : Int32) (w8 : Int32) (S : Mem), J w3 w4 w5 w6 w7 w8 S → ∀ (H : Heap) (locs : List Loc) (ls : Array Slot) (kc ks : Nat), kc + Bc ≤ 3743 → ks + Bs ≤ 22254 → Hx G A s.heap H locs S → lv_has ls 11 [(0, .ref a0), (1, .ref a1), (2, .ref a2), (3, .ref w3), (4, .int w4), (5, .int w5), (6, .ref w6), (7, .int w7), (8, .int w8)] → W p l e rmL_areLots s m args below meth c H locs kc ks (MQ below (QN emI post G A) args s 3743 22254 A) (F0 m 46 ls [])) : ∀ (w3 : Nat) (w4 : Int32) (w5 : Int32) (w6 : Nat) (w7 : Int32) (w8 : Int32) (S : Mem) (hw : wcL_areLots_163 a0 a1 a2 post J w3 w4 w5 w6 w7 w8 S) (H : Heap) (locs : List Loc) (ls : Array Slot) (kc ks : Nat), kc + (0 + Bc) ≤ 3743 → ks + (0 + Bs) ≤ 22254 → Hx G A s.heap H locs S → lv_has ls 11 [(0, .ref a0), (1, .ref a1), (2, .ref a2), (3, .ref w3), (4, .int w4), (5, .int w5), (6, .ref w6), (7, .int w7), (8, .int w8)] → W p l e rmL_areLots s m args below meth c H locs kc ks (MQ below (QN emI post G A) args s 3743 22254 A) (F0 m 163 ls []) := by
  have hx := X.1
  have hb := X.2.1
  have hown := X.2.2.2.1
  intro w3 w4 w5 w6 w7 w8 S hw H locs ls kc ks hkc hks h hl
  unfold wcL_areLots_163 at hw
  obtain ⟨x73, ex73⟩ : ∃ y : Int32, y = (w8 + (nI 1)) := ⟨_, rfl⟩
  have hw := hw x73 ex73
  refine lv_iinc (v := x73) (lv' := [(8, .int x73), (0, .ref a0), (1, .ref a1), (2, .ref a2), (3, .ref w3), (4, .int w4), (5, .int w5), (6, .ref w6), (7, .int w7)]) hx hb dL_areLots_163 hl (k := 8) rfl (by rw [ex73]; rfl) (by decide) rfl (fun ls hl => ?_)
  refine lv_goto (tgt := 46) hx hb dL_areLots_166 (by decide) ?_
  exact hJ _ _ _ _ _ _ _ hw _ _ _ _ _ (by omega) (by omega) h (lv_sub hl [1, 2, 3, 4, 5, 6, 7, 8, 0] rfl)
def wcL_areLots_132 (a0 : Nat) (a1 : Nat) (a2 : Nat) (post : Int32 → Mem → Prop) (J : Nat → Int32 → Int32 → Nat → Int32 → Int32 → Mem → Prop) (w3 : Nat) (w4 : Int32) (w5 : Int32) (w6 : Nat) (w7 : Int32) (w8 : Int32) (w9 : Int32) (w10 : Int32) (S : Mem) : Prop := isK S w6 8 ∧ (vp_in w9 (mN S w6) ∧ (∀ S68 : Mem, S68 = (sI S w6 w9.toNatClampNeg w10) → (wpL_staten S68 a0 w9 (fun x70 S69 => (x70 ≤ w10 → (∀ x72 : Int32, x72 = (w7 ||| (nI 0)) → (wcL_areLots_163 a0 a1 a2 post J w3 w4 w5 w6 x72 w8 S69))) ∧ (¬ x70 ≤ w10 → (∀ x74 : Int32, x74 = (w7 ||| ((nI 1) <<< (w9 &&& 31))) → (wcL_areLots_163 a0 a1 a2 post J w3 w4 w5 w6 x74 w8 S69)))))))
set_option maxHeartbeats 8000000 in
set_option maxRecDepth 100000 in
theorem lcL_areLots_132 {p : Program} {l : Launch} {e : Env} {s : State} {m : MethodId} {args : Array Value} {below : List Frame} {meth : Method} {c : Code} {G : GT} {A : Nat → Prop} (X : Cx p s m args meth c cL_areLots 11 RL G A) (hr : meth.sig.returnType = (some .boolean)) (hl9 : l.stackTraces = false) (a0 : Nat) (a1 : Nat) (a2 : Nat) (post : Int32 → Mem → Prop) (J : Nat → Int32 → Int32 → Nat → Int32 → Int32 → Mem → Prop) (Bc Bs : Nat) (hJ : ∀ (w3 : Nat) (w4 : Int32) (w5 : Int32) (w6 : Nat) (w7 : Int32) (w8 : Int32) (S : Mem), J w3 w4 w5 w6 w7 w8 S → ∀ (H : Heap) (locs : List Loc) (ls : Array Slot) (kc ks : Nat), kc + Bc ≤ 3743 → ks + Bs ≤ 22254 → Hx G A s.heap H locs S → lv_has ls 11 [(0, .ref a0), (1, .ref a1), (2, .ref a2), (3, .ref w3), (4, .int w4), (5, .int w5), (6, .ref w6), (7, .int w7), (8, .int w8)] → W p l e rmL_areLots s m args below meth c H locs kc ks (MQ below (QN emI post G A) args s 3743 22254 A) (F0 m 46 ls [])) : ∀ (w3 : Nat) (w4 : Int32) (w5 : Int32) (w6 : Nat) (w7 : Int32) (w8 : Int32) (w9 : Int32) (w10 : Int32) (S : Mem) (hw : wcL_areLots_132 a0 a1 a2 post J w3 w4 w5 w6 w7 w8 w9 w10 S) (H : Heap) (locs : List Loc) (ls : Array Slot) (kc ks : Nat), kc + (0 + Bc) ≤ 3743 → ks + (0 + Bs) ≤ 22254 → Hx G A s.heap H locs S → lv_has ls 11 [(0, .ref a0), (1, .ref a1), (2, .ref a2), (3, .ref w3), (4, .int w4), (5, .int w5), (6, .ref w6), (7, .int w7), (8, .int w8), (9, .int w9), (10, .int w10)] → W p l e rmL_areLots s m args below meth c H locs kc ks (MQ below (QN emI post G A) args s 3743 22254 A) (F0 m 132 ls []) := by
  have hx := X.1
  have hb := X.2.1
  have hown := X.2.2.2.1
  intro w3 w4 w5 w6 w7 w8 w9 w10 S hw H locs ls kc ks hkc hks h hl
  unfold wcL_areLots_132 at hw
  refine lv_aload hx hb dL_areLots_132 (lv_at hl 6 rfl) ?_
  refine lv_iload hx hb dL_areLots_134 (lv_at hl 9 rfl) ?_
  refine lv_iload hx hb dL_areLots_136 (lv_at hl 10 rfl) ?_
  obtain ⟨k66, hw⟩ := hw
  obtain ⟨v67, hw⟩ := hw
  refine r_iast X h k66 v67 dL_areLots_138 (fun H locs h => ?_)
  obtain ⟨S68, eS68⟩ : ∃ z : Mem, z = (sI S w6 w9.toNatClampNeg w10) := ⟨_, rfl⟩
  rw [← eS68] at h
  have hw := hw S68 eS68
  refine lv_iload hx hb dL_areLots_139 (lv_at hl 7 rfl) ?_
  refine lv_iload hx hb dL_areLots_141 (lv_at hl 10 rfl) ?_
  refine lv_aload_n hx hb dL_areLots_143 rfl (lv_at hl 0 rfl) ?_
  refine lv_iload hx hb dL_areLots_144 (lv_at hl 9 rfl) ?_
  refine rc_H (As := [.ref a0, .int w9]) (rest := [.int w10, .int w7]) X h (meL_staten l hl9 G _ _ _ _ hw) gS_L_125 rfl rfl hdS_L_state rfl ⟨Nat.le_of_ble_eq_true rfl, Nat.le_of_ble_eq_true rfl⟩ hl.1 rfl (Nat.le_of_ble_eq_true rfl) ⟨rcL_areLots (by omega), rsL_areLots (by omega)⟩ dL_areLots_146 (fun x70 S69 H locs hw h => ?_)
  refine lv_icmp_ge (tgt := 159) hx hb dL_areLots_149 (by decide) (fun c71 => ?_) (fun c71 => ?_)
  · have hw := hw.1 c71
    refine lv_iconst (v := (nI 0)) hx hb dL_areLots_159 (by decide) ?_
    refine lv_ior hx hb dL_areLots_160 ?_
    refine lv_topi (fun x72 ex72 => ?_)
    have hw := hw x72 ex72
    refine lv_istore (lv' := [(7, .int x72), (0, .ref a0), (1, .ref a1), (2, .ref a2), (3, .ref w3), (4, .int w4), (5, .int w5), (6, .ref w6), (8, .int w8), (9, .int w9), (10, .int w10)]) hx hb dL_areLots_161 hl (by decide) rfl (fun ls hl => ?_)
    exact lcL_areLots_163 X hr hl9 _ _ _ _ _ Bc Bs hJ _ _ _ _ _ _ _ hw _ _ _ _ _ (by omega) (by omega) h (lv_sub hl [1, 2, 3, 4, 5, 6, 7, 0, 8] rfl)
  · have hw := hw.2 c71
    refine lv_iconst (v := (nI 1)) hx hb dL_areLots_152 (by decide) ?_
    refine lv_iload hx hb dL_areLots_153 (lv_at hl 9 rfl) ?_
    refine lv_ishl hx hb dL_areLots_155 ?_
    refine lv_goto (tgt := 160) hx hb dL_areLots_156 (by decide) ?_
    refine lv_ior hx hb dL_areLots_160 ?_
    refine lv_topi (fun x74 ex74 => ?_)
    have hw := hw x74 ex74
    refine lv_istore (lv' := [(7, .int x74), (0, .ref a0), (1, .ref a1), (2, .ref a2), (3, .ref w3), (4, .int w4), (5, .int w5), (6, .ref w6), (8, .int w8), (9, .int w9), (10, .int w10)]) hx hb dL_areLots_161 hl (by decide) rfl (fun ls hl => ?_)
    exact lcL_areLots_163 X hr hl9 _ _ _ _ _ Bc Bs hJ _ _ _ _ _ _ _ hw _ _ _ _ _ (by omega) (by omega) h (lv_sub hl [1, 2, 3, 4, 5, 6, 7, 0, 8] rfl)
def wlL_areLots_46 (a0 : Nat) (a1 : Nat) (a2 : Nat) (post : Int32 → Mem → Prop) (J : Nat → Int32 → Int32 → Mem → Prop) : Nat → Nat → Int32 → Int32 → Nat → Int32 → Int32 → Mem → Prop
  | 0 => fun _ _ _ _ _ _ _ => False
  | n + 1 => fun w3 w4 w5 w6 w7 w8 S => wpL_stateIn S a0 w5 w8 (fun x28 S27 => (x28 < 0 → (∃ m, m ≤ 5 ∧ wlL_areLots_172 a0 a1 a2 post J m w3 w4 w5 w7 (nI 0) S27)) ∧ (¬ x28 < 0 → (isK S27 a2 8 ∧ (vp_in w5 (mN S27 a2) ∧ (isK S27 a1 12 ∧ (vp_in (mI S27 a2 w5.toNatClampNeg) (mN S27 a1) ∧ (∃ o50, mR S27 a1 (mI S27 a2 w5.toNatClampNeg).toNatClampNeg = some o50 ∧ (isK S27 o50 8 ∧ (vp_in (w8 - (nI 1)) (mN S27 o50) ∧ (∀ x53 : Int32, x53 = (mI S27 o50 (w8 - (nI 1)).toNatClampNeg) → (wpL_stateInn S27 a0 w5 w8 (fun x55 S54 => wpL_stateByReplayn S54 a0 w5 w8 (fun x57 S56 => (¬ x55 = x57 → (False)) ∧ (x55 = x57 → (wpL_staten S56 a0 x53 (fun x60 S59 => (x60 < x55 → (False)) ∧ (¬ x60 < x55 → (isK S59 w6 8 ∧ (vp_in x53 (mN S59 w6) ∧ (((mI S59 w6 x53.toNatClampNeg) < 0 → (∀ x65 : Int32, x65 = (w4 &&& (nI 1)) → (wcL_areLots_132 a0 a1 a2 post (wlL_areLots_46 a0 a1 a2 post J n) w3 x65 w5 w6 w7 w8 x53 x55 S59))) ∧ (¬ (mI S59 w6 x53.toNatClampNeg) < 0 → (vp_in x53 (mN S59 w6) ∧ ((¬ (mI S59 w6 x53.toNatClampNeg) = x55 → (False)) ∧ ((mI S59 w6 x53.toNatClampNeg) = x55 → (∀ x77 : Int32, x77 = (w4 &&& (nI 1)) → (wcL_areLots_132 a0 a1 a2 post (wlL_areLots_46 a0 a1 a2 post J n) w3 x77 w5 w6 w7 w8 x53 x55 S59))))))))))))))))))))))))))
set_option maxHeartbeats 8000000 in
set_option maxRecDepth 100000 in
theorem llL_areLots_46 {p : Program} {l : Launch} {e : Env} {s : State} {m : MethodId} {args : Array Value} {below : List Frame} {meth : Method} {c : Code} {G : GT} {A : Nat → Prop} (X : Cx p s m args meth c cL_areLots 11 RL G A) (hr : meth.sig.returnType = (some .boolean)) (hl9 : l.stackTraces = false) (a0 : Nat) (a1 : Nat) (a2 : Nat) (post : Int32 → Mem → Prop) (J : Nat → Int32 → Int32 → Mem → Prop) (Bc Bs : Nat) (hJ : ∀ (w3 : Nat) (w4 : Int32) (w5 : Int32) (S : Mem), J w3 w4 w5 S → ∀ (H : Heap) (locs : List Loc) (ls : Array Slot) (kc ks : Nat), kc + Bc ≤ 3743 → ks + Bs ≤ 22254 → Hx G A s.heap H locs S → lv_has ls 11 [(0, .ref a0), (1, .ref a1), (2, .ref a2), (3, .ref w3), (4, .int w4), (5, .int w5)] → W p l e rmL_areLots s m args below meth c H locs kc ks (MQ below (QN emI post G A) args s 3743 22254 A) (F0 m 10 ls [])) : ∀ (n : Nat) (w3 : Nat) (w4 : Int32) (w5 : Int32) (w6 : Nat) (w7 : Int32) (w8 : Int32) (S : Mem) (hw : wlL_areLots_46 a0 a1 a2 post J n w3 w4 w5 w6 w7 w8 S) (H : Heap) (locs : List Loc) (ls : Array Slot) (kc ks : Nat), kc + (n * 2 + 2 + Bc) ≤ 3743 → ks + (n * 12 + 12 + Bs) ≤ 22254 → Hx G A s.heap H locs S → lv_has ls 11 [(0, .ref a0), (1, .ref a1), (2, .ref a2), (3, .ref w3), (4, .int w4), (5, .int w5), (6, .ref w6), (7, .int w7), (8, .int w8)] → W p l e rmL_areLots s m args below meth c H locs kc ks (MQ below (QN emI post G A) args s 3743 22254 A) (F0 m 46 ls []) := by
  have hx := X.1
  have hb := X.2.1
  have hown := X.2.2.2.1
  intro n
  induction n with
  | zero =>
    intro _ _ _ _ _ _ _ hw
    exact hw.elim
  | succ n ih =>
    intro w3 w4 w5 w6 w7 w8 S hw H locs ls kc ks hkc hks h hl
    refine lv_aload_n hx hb dL_areLots_46 rfl (lv_at hl 0 rfl) ?_
    refine lv_iload hx hb dL_areLots_47 (lv_at hl 5 rfl) ?_
    refine lv_iload hx hb dL_areLots_49 (lv_at hl 8 rfl) ?_
    refine rc_H (As := [.ref a0, .int w5, .int w8]) (rest := []) X h (meL_stateIn l hl9 G _ _ _ _ _ hw) gS_L_180 rfl rfl hdS_L_stateIn rfl ⟨Nat.le_of_ble_eq_true rfl, Nat.le_of_ble_eq_true rfl⟩ hl.1 rfl (Nat.le_of_ble_eq_true rfl) ⟨rcL_areLots (by omega), rsL_areLots (by omega)⟩ dL_areLots_51 (fun x28 S27 H locs hw h => ?_)
    refine lv_if_lt (tgt := 169) hx hb dL_areLots_54 (by decide) (fun c29 => ?_) (fun c29 => ?_)
    · have hw := hw.1 c29
      refine lv_iconst (v := (nI 0)) hx hb dL_areLots_169 (by decide) ?_
      refine lv_istore (lv' := [(8, .int (nI 0)), (0, .ref a0), (1, .ref a1), (2, .ref a2), (3, .ref w3), (4, .int w4), (5, .int w5), (6, .ref w6), (7, .int w7)]) hx hb dL_areLots_170 hl (by decide) rfl (fun ls hl => ?_)
      obtain ⟨n45, hn45, hw⟩ := hw
      exact llL_areLots_172 X hr hl9 _ _ _ _ _ Bc Bs hJ n45 _ _ _ _ _ _ hw _ _ _ _ _ (by omega) (by omega) h (lv_sub hl [1, 2, 3, 4, 5, 6, 8, 0] rfl)
    · have hw := hw.2 c29
      refine lv_aload_n hx hb dL_areLots_57 rfl (lv_at hl 1 rfl) ?_
      refine lv_aload_n hx hb dL_areLots_58 rfl (lv_at hl 2 rfl) ?_
      refine lv_iload hx hb dL_areLots_59 (lv_at hl 5 rfl) ?_
      obtain ⟨k46, hw⟩ := hw
      obtain ⟨v47, hw⟩ := hw
      refine r_iald X h k46 v47 dL_areLots_61 ?_
      obtain ⟨k48, hw⟩ := hw
      obtain ⟨v49, hw⟩ := hw
      obtain ⟨o50, eo50, hw⟩ := hw
      refine r_aldA X h k48 v49 eo50 dL_areLots_62 ?_
      refine lv_iload hx hb dL_areLots_63 (lv_at hl 8 rfl) ?_
      refine lv_iconst (v := (nI 1)) hx hb dL_areLots_65 (by decide) ?_
      refine lv_isub hx hb dL_areLots_66 ?_
      obtain ⟨k51, hw⟩ := hw
      obtain ⟨v52, hw⟩ := hw
      refine r_iald X h k51 v52 dL_areLots_67 ?_
      refine lv_topi (fun x53 ex53 => ?_)
      have hw := hw x53 ex53
      refine lv_istore (lv' := [(9, .int x53), (0, .ref a0), (1, .ref a1), (2, .ref a2), (3, .ref w3), (4, .int w4), (5, .int w5), (6, .ref w6), (7, .int w7), (8, .int w8)]) hx hb dL_areLots_68 hl (by decide) rfl (fun ls hl => ?_)
      refine lv_aload_n hx hb dL_areLots_70 rfl (lv_at hl 1 rfl) ?_
      refine lv_iload hx hb dL_areLots_71 (lv_at hl 6 rfl) ?_
      refine lv_iload hx hb dL_areLots_73 (lv_at hl 9 rfl) ?_
      refine rc_H (As := [.ref a0, .int w5, .int w8]) (rest := []) X h (meL_stateInn l hl9 G _ _ _ _ _ hw) gS_L_180 rfl rfl hdS_L_stateIn rfl ⟨Nat.le_of_ble_eq_true rfl, Nat.le_of_ble_eq_true rfl⟩ hl.1 rfl (Nat.le_of_ble_eq_true rfl) ⟨rcL_areLots (by omega), rsL_areLots (by omega)⟩ dL_areLots_75 (fun x55 S54 H locs hw h => ?_)
      refine lv_istore (lv' := [(10, .int x55), (9, .int x53), (0, .ref a0), (1, .ref a1), (2, .ref a2), (3, .ref w3), (4, .int w4), (5, .int w5), (6, .ref w6), (7, .int w7), (8, .int w8)]) hx hb dL_areLots_78 hl (by decide) rfl (fun ls hl => ?_)
      refine lv_iload hx hb dL_areLots_80 (lv_at hl 6 rfl) ?_
      refine lv_iload hx hb dL_areLots_82 (lv_at hl 0 rfl) ?_
      refine lv_aload_n hx hb dL_areLots_84 rfl (lv_at hl 2 rfl) ?_
      refine lv_iload hx hb dL_areLots_85 (lv_at hl 7 rfl) ?_
      refine lv_iload hx hb dL_areLots_87 (lv_at hl 10 rfl) ?_
      refine rc_H (As := [.ref a0, .int w5, .int w8]) (rest := [.int x55, .int w4]) X h (meL_stateByReplayn l hl9 G _ _ _ _ _ hw) gS_L_182 rfl rfl hdS_L_stateByReplay rfl ⟨Nat.le_of_ble_eq_true rfl, Nat.le_of_ble_eq_true rfl⟩ hl.1 rfl (Nat.le_of_ble_eq_true rfl) ⟨rcL_areLots (by omega), rsL_areLots (by omega)⟩ dL_areLots_89 (fun x57 S56 H locs hw h => ?_)
      refine lv_icmp_ne (tgt := 128) hx hb dL_areLots_92 (by decide) (fun c58 => ?_) (fun c58 => ?_)
      · have hw := hw.1 c58
        exact hw.elim
      · have hw := hw.2 c58
        refine lv_iload hx hb dL_areLots_95 (lv_at hl 0 rfl) ?_
        refine lv_aload_n hx hb dL_areLots_97 rfl (lv_at hl 2 rfl) ?_
        refine lv_iload hx hb dL_areLots_98 (lv_at hl 1 rfl) ?_
        refine rc_H (As := [.ref a0, .int x53]) (rest := [.int x55, .int w4]) X h (meL_staten l hl9 G _ _ _ _ hw) gS_L_125 rfl rfl hdS_L_state rfl ⟨Nat.le_of_ble_eq_true rfl, Nat.le_of_ble_eq_true rfl⟩ hl.1 rfl (Nat.le_of_ble_eq_true rfl) ⟨rcL_areLots (by omega), rsL_areLots (by omega)⟩ dL_areLots_100 (fun x60 S59 H locs hw h => ?_)
        refine lv_icmp_gt (tgt := 128) hx hb dL_areLots_103 (by decide) (fun c61 => ?_) (fun c61 => ?_)
        · have hw := hw.1 c61
          exact hw.elim
        · have hw := hw.2 c61
          refine lv_aload hx hb dL_areLots_106 (lv_at hl 8 rfl) ?_
          refine lv_iload hx hb dL_areLots_108 (lv_at hl 1 rfl) ?_
          obtain ⟨k62, hw⟩ := hw
          obtain ⟨v63, hw⟩ := hw
          refine r_iald X h k62 v63 dL_areLots_110 ?_
          refine lv_if_lt (tgt := 124) hx hb dL_areLots_111 (by decide) (fun c64 => ?_) (fun c64 => ?_)
          · have hw := hw.1 c64
            refine lv_iconst (v := (nI 1)) hx hb dL_areLots_124 (by decide) ?_
            refine lv_goto (tgt := 129) hx hb dL_areLots_125 (by decide) ?_
            refine lv_iand hx hb dL_areLots_129 ?_
            refine lv_topi (fun x65 ex65 => ?_)
            have hw := hw x65 ex65
            refine lv_istore (lv' := [(4, .int x65), (10, .int x55), (9, .int x53), (0, .ref a0), (1, .ref a1), (2, .ref a2), (3, .ref w3), (5, .int w5), (6, .ref w6), (7, .int w7), (8, .int w8)]) hx hb dL_areLots_130 hl (by decide) rfl (fun ls hl => ?_)
            exact lcL_areLots_132 X hr hl9 _ _ _ _ _ (n * 2 + 2 + Bc) (n * 12 + 12 + Bs) (fun w3 w4 w5 w6 w7 w8 S hw H locs ls kc ks h1 h2 h hl => ih w3 w4 w5 w6 w7 w8 S hw H locs ls kc ks (by omega) (by omega) h hl) _ _ _ _ _ _ _ _ _ hw _ _ _ _ _ (by omega) (by omega) h (lv_sub hl [3, 4, 5, 6, 0, 7, 8, 9, 10, 2, 1] rfl)
          · have hw := hw.2 c64
            refine lv_aload hx hb dL_areLots_114 (lv_at hl 8 rfl) ?_
            refine lv_iload hx hb dL_areLots_116 (lv_at hl 1 rfl) ?_
            obtain ⟨v75, hw⟩ := hw
            refine r_iald X h k62 v75 dL_areLots_118 ?_
            refine lv_iload hx hb dL_areLots_119 (lv_at hl 0 rfl) ?_
            refine lv_icmp_ne (tgt := 128) hx hb dL_areLots_121 (by decide) (fun c76 => ?_) (fun c76 => ?_)
            · have hw := hw.1 c76
              exact hw.elim
            · have hw := hw.2 c76
              refine lv_iconst (v := (nI 1)) hx hb dL_areLots_124 (by decide) ?_
              refine lv_goto (tgt := 129) hx hb dL_areLots_125 (by decide) ?_
              refine lv_iand hx hb dL_areLots_129 ?_
              refine lv_topi (fun x77 ex77 => ?_)
              have hw := hw x77 ex77
              refine lv_istore (lv' := [(4, .int x77), (10, .int x55), (9, .int x53), (0, .ref a0), (1, .ref a1), (2, .ref a2), (3, .ref w3), (5, .int w5), (6, .ref w6), (7, .int w7), (8, .int w8)]) hx hb dL_areLots_130 hl (by decide) rfl (fun ls hl => ?_)
              exact lcL_areLots_132 X hr hl9 _ _ _ _ _ (n * 2 + 2 + Bc) (n * 12 + 12 + Bs) (fun w3 w4 w5 w6 w7 w8 S hw H locs ls kc ks h1 h2 h hl => ih w3 w4 w5 w6 w7 w8 S hw H locs ls kc ks (by omega) (by omega) h hl) _ _ _ _ _ _ _ _ _ hw _ _ _ _ _ (by omega) (by omega) h (lv_sub hl [3, 4, 5, 6, 0, 7, 8, 9, 10, 2, 1] rfl)
def wlL_areLots_10 (a0 : Nat) (a1 : Nat) (a2 : Nat) (post : Int32 → Mem → Prop) : Nat → Nat → Int32 → Int32 → Mem → Prop
  | 0 => fun _ _ _ _ => False
  | n + 1 => fun w3 w4 w5 S => isK S a0 6 ∧ (wpX6_lots S a0 (fun x5 S3 => (x5 ≤ w5 → (∃ m, m ≤ 5 ∧ wlL_areLots_221 a0 a1 a2 post m w3 w4 (nI 0) S3)) ∧ (¬ x5 ≤ w5 → (∀ o17 : Nat, o17 ∉ mL S3 → (∀ S18 : Mem, S18 = (nA S3 o17 8 4) → (vp_in (nI 0) (mN S18 o17) ∧ (∀ S20 : Mem, S20 = (sI S18 o17 (nI 0).toNatClampNeg (-1 : Int32)) → (vp_in (nI 1) (mN S20 o17) ∧ (∀ S22 : Mem, S22 = (sI S20 o17 (nI 1).toNatClampNeg (-1 : Int32)) → (vp_in (nI 2) (mN S22 o17) ∧ (∀ S24 : Mem, S24 = (sI S22 o17 (nI 2).toNatClampNeg (-1 : Int32)) → (vp_in (nI 3) (mN S24 o17) ∧ (∀ S26 : Mem, S26 = (sI S24 o17 (nI 3).toNatClampNeg (-1 : Int32)) → (∃ m, m ≤ 17 ∧ wlL_areLots_46 a0 a1 a2 post (wlL_areLots_10 a0 a1 a2 post n) m w3 w4 w5 o17 (nI 0) (nI 1) S26))))))))))))))
set_option maxHeartbeats 8000000 in
set_option maxRecDepth 100000 in
theorem llL_areLots_10 {p : Program} {l : Launch} {e : Env} {s : State} {m : MethodId} {args : Array Value} {below : List Frame} {meth : Method} {c : Code} {G : GT} {A : Nat → Prop} (X : Cx p s m args meth c cL_areLots 11 RL G A) (hr : meth.sig.returnType = (some .boolean)) (hl9 : l.stackTraces = false) (a0 : Nat) (a1 : Nat) (a2 : Nat) (post : Int32 → Mem → Prop) : ∀ (n : Nat) (w3 : Nat) (w4 : Int32) (w5 : Int32) (S : Mem) (hw : wlL_areLots_10 a0 a1 a2 post n w3 w4 w5 S) (H : Heap) (locs : List Loc) (ls : Array Slot) (kc ks : Nat), kc + (n * 37 + 5) ≤ 3743 → ks + (n * 220 + 30) ≤ 22254 → Hx G A s.heap H locs S → lv_has ls 11 [(0, .ref a0), (1, .ref a1), (2, .ref a2), (3, .ref w3), (4, .int w4), (5, .int w5)] → W p l e rmL_areLots s m args below meth c H locs kc ks (MQ below (QN emI post G A) args s 3743 22254 A) (F0 m 10 ls []) := by
  have hx := X.1
  have hb := X.2.1
  have hown := X.2.2.2.1
  intro n
  induction n with
  | zero =>
    intro _ _ _ _ hw
    exact hw.elim
  | succ n ih =>
    intro w3 w4 w5 S hw H locs ls kc ks hkc hks h hl
    refine lv_iload hx hb dL_areLots_10 (lv_at hl 5 rfl) ?_
    refine lv_aload_n hx hb dL_areLots_12 rfl (lv_at hl 0 rfl) ?_
    obtain ⟨k4, hw⟩ := hw
    refine rc_V (As := []) (rest := [.int w5]) X h k4 (by decide) rfl (meX6_lots l G _ _ _ hw) gV_L_147 rfl rfl hdV_X6_lots rfl ⟨Nat.le_of_ble_eq_true rfl, Nat.le_of_ble_eq_true rfl⟩ hl.1 rfl (Nat.le_of_ble_eq_true rfl) ⟨rcL_areLots (by omega), rsL_areLots (by omega)⟩ dL_areLots_13 (fun x5 S3 H locs hw h => ?_)
    refine lv_icmp_ge (tgt := 218) hx hb dL_areLots_16 (by decide) (fun c6 => ?_) (fun c6 => ?_)
    · have hw := hw.1 c6
      refine lv_iconst (v := (nI 0)) hx hb dL_areLots_218 (by decide) ?_
      refine lv_istore (lv' := [(5, .int (nI 0)), (0, .ref a0), (1, .ref a1), (2, .ref a2), (3, .ref w3), (4, .int w4)]) hx hb dL_areLots_219 hl (by decide) rfl (fun ls hl => ?_)
      obtain ⟨n16, hn16, hw⟩ := hw
      exact llL_areLots_221 X hr hl9 _ _ _ _ n16 _ _ _ _ hw _ _ _ _ _ (by omega) (by omega) h (lv_sub hl [1, 2, 3, 4, 5, 0] rfl)
    · have hw := hw.2 c6
      refine lv_iconst (v := (nI 4)) hx hb dL_areLots_19 (by decide) ?_
      refine r_newI X h 4 q64 (by decide) ⟨rcL_areLots (by omega), rsL_areLots (by omega)⟩ dL_areLots_20 (fun o17 H ho17 h => ?_)
      have hw := hw o17 ho17
      obtain ⟨S18, eS18⟩ : ∃ z : Mem, z = (nA S3 o17 8 4) := ⟨_, rfl⟩
      rw [← eS18] at h
      have hw := hw S18 eS18
      refine lv_dup hx hb dL_areLots_22 rfl ?_
      refine lv_iconst (v := (nI 0)) hx hb dL_areLots_23 (by decide) ?_
      refine lv_iconst (v := (-1 : Int32)) hx hb dL_areLots_24 (by decide) ?_
      obtain ⟨v19, hw⟩ := hw
      refine r_iast X h (kE eS18 nA_kind) v19 dL_areLots_25 (fun H locs h => ?_)
      obtain ⟨S20, eS20⟩ : ∃ z : Mem, z = (sI S18 o17 (nI 0).toNatClampNeg (-1 : Int32)) := ⟨_, rfl⟩
      rw [← eS20] at h
      have hw := hw S20 eS20
      refine lv_dup hx hb dL_areLots_26 rfl ?_
      refine lv_iconst (v := (nI 1)) hx hb dL_areLots_27 (by decide) ?_
      refine lv_iconst (v := (-1 : Int32)) hx hb dL_areLots_28 (by decide) ?_
      obtain ⟨v21, hw⟩ := hw
      refine r_iast X h (kI eS20 (kE eS18 nA_kind)) v21 dL_areLots_29 (fun H locs h => ?_)
      obtain ⟨S22, eS22⟩ : ∃ z : Mem, z = (sI S20 o17 (nI 1).toNatClampNeg (-1 : Int32)) := ⟨_, rfl⟩
      rw [← eS22] at h
      have hw := hw S22 eS22
      refine lv_dup hx hb dL_areLots_30 rfl ?_
      refine lv_iconst (v := (nI 2)) hx hb dL_areLots_31 (by decide) ?_
      refine lv_iconst (v := (-1 : Int32)) hx hb dL_areLots_32 (by decide) ?_
      obtain ⟨v23, hw⟩ := hw
      refine r_iast X h (kI eS22 (kI eS20 (kE eS18 nA_kind))) v23 dL_areLots_33 (fun H locs h => ?_)
      obtain ⟨S24, eS24⟩ : ∃ z : Mem, z = (sI S22 o17 (nI 2).toNatClampNeg (-1 : Int32)) := ⟨_, rfl⟩
      rw [← eS24] at h
      have hw := hw S24 eS24
      refine lv_dup hx hb dL_areLots_34 rfl ?_
      refine lv_iconst (v := (nI 3)) hx hb dL_areLots_35 (by decide) ?_
      refine lv_iconst (v := (-1 : Int32)) hx hb dL_areLots_36 (by decide) ?_
      obtain ⟨v25, hw⟩ := hw
      refine r_iast X h (kI eS24 (kI eS22 (kI eS20 (kE eS18 nA_kind)))) v25 dL_areLots_37 (fun H locs h => ?_)
      obtain ⟨S26, eS26⟩ : ∃ z : Mem, z = (sI S24 o17 (nI 3).toNatClampNeg (-1 : Int32)) := ⟨_, rfl⟩
      rw [← eS26] at h
      have hw := hw S26 eS26
      refine lv_astore (lv' := [(6, .ref o17), (0, .ref a0), (1, .ref a1), (2, .ref a2), (3, .ref w3), (4, .int w4), (5, .int w5)]) hx hb dL_areLots_38 hl (by decide) rfl (fun ls hl => ?_)
      refine lv_iconst (v := (nI 0)) hx hb dL_areLots_40 (by decide) ?_
      refine lv_istore (lv' := [(7, .int (nI 0)), (6, .ref o17), (0, .ref a0), (1, .ref a1), (2, .ref a2), (3, .ref w3), (4, .int w4), (5, .int w5)]) hx hb dL_areLots_41 hl (by decide) rfl (fun ls hl => ?_)
      refine lv_iconst (v := (nI 1)) hx hb dL_areLots_43 (by decide) ?_
      refine lv_istore (lv' := [(8, .int (nI 1)), (7, .int (nI 0)), (6, .ref o17), (0, .ref a0), (1, .ref a1), (2, .ref a2), (3, .ref w3), (4, .int w4), (5, .int w5)]) hx hb dL_areLots_44 hl (by decide) rfl (fun ls hl => ?_)
      obtain ⟨n78, hn78, hw⟩ := hw
      exact llL_areLots_46 X hr hl9 _ _ _ _ _ (n * 37 + 5) (n * 220 + 30) (fun w3 w4 w5 S hw H locs ls kc ks h1 h2 h hl => ih w3 w4 w5 S hw H locs ls kc ks (by omega) (by omega) h hl) n78 _ _ _ _ _ _ _ hw _ _ _ _ _ (by omega) (by omega) h (lv_sub hl [3, 4, 5, 6, 7, 8, 2, 1, 0] rfl)
def wpL_areLots (S : Mem) (a0 : Nat) (a1 : Nat) (a2 : Nat) (post : Int32 → Mem → Prop) : Prop := ∀ o1 : Nat, o1 ∉ mL S → (∀ S2 : Mem, S2 = (nA S o1 8 4) → (∃ m, m ≤ 101 ∧ wlL_areLots_10 a0 a1 a2 post m o1 (nI 1) (nI 0) S2))
set_option maxHeartbeats 4000000 in
set_option maxRecDepth 100000 in
theorem meL_areLots (l : Launch) (hl9 : l.stackTraces = false) (G : GT) (S : Mem) (a0 : Nat) (a1 : Nat) (a2 : Nat) (post : Int32 → Mem → Prop) (hw : wpL_areLots S a0 a1 a2 post) : CN emI l yL_areLots (wsU yL_areLots cL_areLots 11 (some .boolean)) rmL_areLots 3743 22254 G [.ref a0, .ref a1, .ref a2] S post := by
  refine cn_open RL rfl (by decide +kernel) (Nat.le_of_ble_eq_true rfl) ?_
  intro p e s m args below meth c A X h hr hin ls hl
  have hl : lv_has ls 11 [(0, .ref a0), (1, .ref a1), (2, .ref a2)] := hl
  have hx := X.1
  have hb := X.2.1
  have hown := X.2.2.2.1
  unfold wpL_areLots at hw
  refine lv_iconst (v := (nI 4)) hx hb dL_areLots_0 (by decide) ?_
  refine r_newI X h 4 q64 (by decide) ⟨rcL_areLots (by omega), rsL_areLots (by omega)⟩ dL_areLots_1 (fun o1 H ho1 h => ?_)
  have hw := hw o1 ho1
  obtain ⟨S2, eS2⟩ : ∃ z : Mem, z = (nA S o1 8 4) := ⟨_, rfl⟩
  rw [← eS2] at h
  have hw := hw S2 eS2
  refine lv_astore_n (lv' := [(3, .ref o1), (0, .ref a0), (1, .ref a1), (2, .ref a2)]) hx hb dL_areLots_3 rfl hl (by decide) rfl (fun ls hl => ?_)
  refine lv_iconst (v := (nI 1)) hx hb dL_areLots_4 (by decide) ?_
  refine lv_istore (lv' := [(4, .int (nI 1)), (3, .ref o1), (0, .ref a0), (1, .ref a1), (2, .ref a2)]) hx hb dL_areLots_5 hl (by decide) rfl (fun ls hl => ?_)
  refine lv_iconst (v := (nI 0)) hx hb dL_areLots_7 (by decide) ?_
  refine lv_istore (lv' := [(5, .int (nI 0)), (4, .int (nI 1)), (3, .ref o1), (0, .ref a0), (1, .ref a1), (2, .ref a2)]) hx hb dL_areLots_8 hl (by decide) rfl (fun ls hl => ?_)
  obtain ⟨n79, hn79, hw⟩ := hw
  exact llL_areLots_10 X hr hl9 _ _ _ _ n79 _ _ _ _ hw _ _ _ _ _ (by omega) (by omega) h (lv_sub hl [3, 4, 5, 2, 1, 0] rfl)
abbrev rmX6_requireCount : Room := { frames := 6, cells := 1, slots := 6, locals := 90 }
def wpX6_requireCount (S : Mem) (p0 : Int32) (post : Unit → Mem → Prop) (px : Nat → Mem → Prop) : Prop := (p0 < (nI 1) → (px 4 S)) ∧ (¬ p0 < (nI 1) → ((p0 ≤ (nI 500) → (post () S)) ∧ (¬ p0 ≤ (nI 500) → (px 4 S))))
set_option maxHeartbeats 4000000 in
set_option maxRecDepth 100000 in
theorem meX6_requireCount (l : Launch) (hl9 : l.stackTraces = false) (G : GT) (S : Mem) (p0 : Int32) (post : Unit → Mem → Prop) (px : Nat → Mem → Prop) (hw : wpX6_requireCount S p0 post px) : CX emV l yX6_requireCount (wsU yX6_requireCount cX6_requireCount 1 none) rmX6_requireCount 1 6 G [.int p0] S post px := by
  refine cx_open RX6 rfl (by decide +kernel) (Nat.le_of_ble_eq_true rfl) ?_
  intro p e s m args below meth c A X h hr hno ls hl
  have hl : lv_has ls 1 [(0, .int p0)] := hl
  have hx := X.1
  have hb := X.2.1
  have hown := X.2.2.2.1
  unfold wpX6_requireCount at hw
  refine lv_iload_n hx hb dX6_requireCount_0 rfl (lv_at hl 0 rfl) ?_
  refine lv_iconst (v := (nI 1)) hx hb dX6_requireCount_1 (by decide) ?_
  refine lv_icmp_lt (tgt := 12) hx hb dX6_requireCount_2 (by decide) (fun c1 => ?_) (fun c1 => ?_)
  · have hw := hw.1 c1
    exact en_xW 4 X h hl9 th_X6_293 hl.1 hno dX6_requireCount_12 dX6_requireCount_15 dX6_requireCount_16 dX6_requireCount_19 dX6_requireCount_22 ⟨Nat.le_of_ble_eq_true rfl, Nat.le_of_ble_eq_true rfl⟩ ⟨Nat.le_of_ble_eq_true rfl, Nat.le_of_ble_eq_true rfl⟩ ⟨Nat.le_of_ble_eq_true rfl, Nat.le_of_ble_eq_true rfl⟩ hw
  · have hw := hw.2 c1
    refine lv_iload_n hx hb dX6_requireCount_5 rfl (lv_at hl 0 rfl) ?_
    refine lv_sipush (v := (nI 500)) hx hb dX6_requireCount_6 (by decide) ?_
    refine lv_icmp_le (tgt := 23) hx hb dX6_requireCount_9 (by decide) (fun c2 => ?_) (fun c2 => ?_)
    · have hw := hw.1 c2
      exact vx_ret (en_v X h hr hw (Nat.le_of_ble_eq_true rfl) (Nat.le_of_ble_eq_true rfl) dX6_requireCount_23)
    · have hw := hw.2 c2
      exact en_xW 4 X h hl9 th_X6_293 hl.1 hno dX6_requireCount_12 dX6_requireCount_15 dX6_requireCount_16 dX6_requireCount_19 dX6_requireCount_22 ⟨Nat.le_of_ble_eq_true rfl, Nat.le_of_ble_eq_true rfl⟩ ⟨Nat.le_of_ble_eq_true rfl, Nat.le_of_ble_eq_true rfl⟩ ⟨Nat.le_of_ble_eq_true rfl, Nat.le_of_ble_eq_true rfl⟩ hw
abbrev rmX1_lackFor : Room := { frames := 1, cells := 0, slots := 0, locals := 21 }
def wlX1_lackFor_10 (a0 : Nat) (p1 : Int32) (x3 : Int32) (post : Int32 → Mem → Prop)  : Nat → Int32 → Int32 → Mem → Prop
  | 0 => fun _ _ _ => False
  | n + 1 => fun w2 w4 S => (x3 ≤ w4 → (post w2 S)) ∧ (¬ x3 ≤ w4 → (isK S a0 1 ∧ (∃ o6, mR S a0 2 = some o6 ∧ (wpX6_at S o6 w4 (fun x8 S7 => ∀ x9 : Int32, x9 = (w2 + (if (nI 0) < (p1 - x8) then (p1 - x8) else (nI 0))) → (∀ x10 : Int32, x10 = (w4 + (nI 1)) → (wlX1_lackFor_10 a0 p1 x3 post n x9 x10 S7)))))))
set_option maxHeartbeats 4000000 in
set_option maxRecDepth 100000 in
theorem llX1_lackFor_10 {p : Program} {l : Launch} {e : Env} {s : State} {m : MethodId} {args : Array Value} {below : List Frame} {meth : Method} {c : Code} {G : GT} {A : Nat → Prop} (X : Cx p s m args meth c cX1_lackFor 5 RX1 G A) (hr : meth.sig.returnType = (some .int)) (a0 : Nat) (p1 : Int32) (x3 : Int32) (post : Int32 → Mem → Prop)   : ∀ (n : Nat) (w2 : Int32) (w4 : Int32) (S : Mem), wlX1_lackFor_10 a0 p1 x3 post n w2 w4 S → ∀ (H : Heap) (locs : List Loc) (ls : Array Slot), Hx G A s.heap H locs S → lv_has ls 5 [(0, .ref a0), (1, .int p1), (2, .int w2), (3, .int x3), (4, .int w4)] → W p l e rmX1_lackFor s m args below meth c H locs 0 0 (MQ below (QN emI post G A) args s 0 0 A) (F0 m 10 ls []) := by
  have hx := X.1
  have hb := X.2.1
  have hown := X.2.2.2.1
  intro n
  induction n with
  | zero =>
    intro _ _ _ hw
    exact hw.elim
  | succ n ih =>
    intro w2 w4 S hw H locs ls h hl
    refine lv_iload hx hb dX1_lackFor_10 (lv_at hl 4 rfl) ?_
    refine lv_iload_n hx hb dX1_lackFor_12 rfl (lv_at hl 3 rfl) ?_
    refine lv_icmp_ge (tgt := 40) hx hb dX1_lackFor_13 (by decide) (fun c4 => ?_) (fun c4 => ?_)
    · have hw := hw.1 c4
      refine lv_iload_n hx hb dX1_lackFor_40 rfl (lv_at hl 2 rfl) ?_
      exact (en_i X h hr hw (Nat.le_of_ble_eq_true rfl) (Nat.le_of_ble_eq_true rfl) dX1_lackFor_41)
    · have hw := hw.2 c4
      refine lv_iload_n hx hb dX1_lackFor_16 rfl (lv_at hl 2 rfl) ?_
      refine lv_iconst (v := (nI 0)) hx hb dX1_lackFor_17 (by decide) ?_
      refine lv_iload_n hx hb dX1_lackFor_18 rfl (lv_at hl 1 rfl) ?_
      refine lv_aload_n hx hb dX1_lackFor_19 rfl (lv_at hl 0 rfl) ?_
      obtain ⟨k5, hw⟩ := hw
      obtain ⟨o6, eo6, hw⟩ := hw
      refine r_getR X h k5 2 eo6  (by decide) rfl inX1 (by decide) rfl q417 rfl dX1_lackFor_20 ?_
      refine lv_iload hx hb dX1_lackFor_23 (lv_at hl 4 rfl) ?_
      refine rc_SN (As := [.ref o6, .int w4]) (rest := [.int p1, .int (nI 0), .int w2]) X h (meX6_at l G _ _ _ _ hw) gU_X1_30 q365 q14 q312 rfl rfl hdS_X6_at rfl ⟨Nat.le_of_ble_eq_true rfl, Nat.le_of_ble_eq_true rfl⟩ hl.1 rfl (Nat.le_of_ble_eq_true rfl) ⟨Nat.le_of_ble_eq_true rfl, Nat.le_of_ble_eq_true rfl⟩ dX1_lackFor_25 (fun x8 S7 H locs hw h => ?_)
      refine lv_isub hx hb dX1_lackFor_28 ?_
      refine r_max X hl.1 q608 q609 q30 q610 ⟨Nat.le_of_ble_eq_true rfl, Nat.le_of_ble_eq_true rfl⟩ ⟨Nat.le_of_ble_eq_true rfl, Nat.le_of_ble_eq_true rfl⟩ dX1_lackFor_29 ?_
      refine lv_iadd hx hb dX1_lackFor_32 ?_
      refine lv_topi (fun x9 ex9 => ?_)
      have hw := hw x9 ex9
      refine lv_istore_n (lv' := [(2, .int x9), (0, .ref a0), (1, .int p1), (3, .int x3), (4, .int w4)]) hx hb dX1_lackFor_33 rfl hl (by decide) rfl (fun ls hl => ?_)
      obtain ⟨x10, ex10⟩ : ∃ y : Int32, y = (w4 + (nI 1)) := ⟨_, rfl⟩
      have hw := hw x10 ex10
      refine lv_iinc (v := x10) (lv' := [(4, .int x10), (2, .int x9), (0, .ref a0), (1, .int p1), (3, .int x3)]) hx hb dX1_lackFor_34 hl (k := 4) rfl (by rw [ex10]; rfl) (by decide) rfl (fun ls hl => ?_)
      refine lv_goto (tgt := 10) hx hb dX1_lackFor_37 (by decide) ?_
      exact ih _ _ _ hw _ _ _ h (lv_sub hl [2, 3, 1, 4, 0] rfl)
def wpX1_lackFor (S : Mem) (a0 : Nat) (p1 : Int32) (post : Int32 → Mem → Prop) : Prop := isK S a0 1 ∧ (wpX1_sheetCount S a0 (fun x3 S1 => ∃ m, wlX1_lackFor_10 a0 p1 x3 post m (nI 0) (nI 0) S1))
set_option maxHeartbeats 4000000 in
set_option maxRecDepth 100000 in
theorem meX1_lackFor (l : Launch) (G : GT) (S : Mem) (a0 : Nat) (p1 : Int32) (post : Int32 → Mem → Prop) (hw : wpX1_lackFor S a0 p1 post) : CN emI l yX1_lackFor (wsU yX1_lackFor cX1_lackFor 5 (some .int)) rmX1_lackFor 0 0 G [.ref a0, .int p1] S post := by
  refine cn_open RX1 rfl (by decide +kernel) (Nat.le_of_ble_eq_true rfl) ?_
  intro p e s m args below meth c A X h hr hin ls hl
  have hl : lv_has ls 5 [(0, .ref a0), (1, .int p1)] := hl
  have hx := X.1
  have hb := X.2.1
  have hown := X.2.2.2.1
  unfold wpX1_lackFor at hw
  refine lv_iconst (v := (nI 0)) hx hb dX1_lackFor_0 (by decide) ?_
  refine lv_istore_n (lv' := [(2, .int (nI 0)), (0, .ref a0), (1, .int p1)]) hx hb dX1_lackFor_1 rfl hl (by decide) rfl (fun ls hl => ?_)
  refine lv_aload_n hx hb dX1_lackFor_2 rfl (lv_at hl 1 rfl) ?_
  obtain ⟨k2, hw⟩ := hw
  refine rc_V (As := []) (rest := []) X h k2 (by decide) rfl (meX1_sheetCount l G _ _ _ hw) gV_X1_46 rfl rfl hdV_X1_sheetCount rfl ⟨Nat.le_of_ble_eq_true rfl, Nat.le_of_ble_eq_true rfl⟩ hl.1 rfl (Nat.le_of_ble_eq_true rfl) ⟨Nat.le_of_ble_eq_true rfl, Nat.le_of_ble_eq_true rfl⟩ dX1_lackFor_3 (fun x3 S1 H locs hw h => ?_)
  refine lv_istore_n (lv' := [(3, .int x3), (2, .int (nI 0)), (0, .ref a0), (1, .int p1)]) hx hb dX1_lackFor_6 rfl hl (by decide) rfl (fun ls hl => ?_)
  refine lv_iconst (v := (nI 0)) hx hb dX1_lackFor_7 (by decide) ?_
  refine lv_istore (lv' := [(4, .int (nI 0)), (3, .int x3), (2, .int (nI 0)), (0, .ref a0), (1, .int p1)]) hx hb dX1_lackFor_8 hl (by decide) rfl (fun ls hl => ?_)
  obtain ⟨n11, hw⟩ := hw
  exact llX1_lackFor_10  X hr _ _ _ _ n11 _ _ _ hw _ _ _ h (lv_sub hl [3, 4, 2, 1, 0] rfl)
abbrev rmX1_addToStock : Room := { frames := 1, cells := 0, slots := 0, locals := 22 }
def wpX1_addToStock (S : Mem) (a0 : Nat) (p1 : Int32) (p2 : Int32) (post : Unit → Mem → Prop) : Prop := isK S a0 1 ∧ (∃ o2, mR S a0 2 = some o2 ∧ (wpX6_at S o2 p1 (fun x4 S3 => wpX6_put S3 o2 p1 (x4 + p2) (fun u6 S5 => post () S5))))
set_option maxHeartbeats 4000000 in
set_option maxRecDepth 100000 in
theorem meX1_addToStock (l : Launch) (G : GT) (S : Mem) (a0 : Nat) (p1 : Int32) (p2 : Int32) (post : Unit → Mem → Prop) (hw : wpX1_addToStock S a0 p1 p2 post) : CN emV l yX1_addToStock (wsU yX1_addToStock cX1_addToStock 3 none) rmX1_addToStock 0 0 G [.ref a0, .int p1, .int p2] S post := by
  refine cn_open RX1 rfl (by decide +kernel) (Nat.le_of_ble_eq_true rfl) ?_
  intro p e s m args below meth c A X h hr hin ls hl
  have hl : lv_has ls 3 [(0, .ref a0), (1, .int p1), (2, .int p2)] := hl
  have hx := X.1
  have hb := X.2.1
  have hown := X.2.2.2.1
  unfold wpX1_addToStock at hw
  refine lv_aload_n hx hb dX1_addToStock_0 rfl (lv_at hl 0 rfl) ?_
  obtain ⟨k1, hw⟩ := hw
  obtain ⟨o2, eo2, hw⟩ := hw
  refine r_getR X h k1 2 eo2  (by decide) rfl inX1 (by decide) rfl q417 rfl dX1_addToStock_1 ?_
  refine lv_iload_n hx hb dX1_addToStock_4 rfl (lv_at hl 1 rfl) ?_
  refine lv_aload_n hx hb dX1_addToStock_5 rfl (lv_at hl 0 rfl) ?_
  refine r_getR X h k1 2 eo2  (by decide) rfl inX1 (by decide) rfl q417 rfl dX1_addToStock_6 ?_
  refine lv_iload_n hx hb dX1_addToStock_9 rfl (lv_at hl 1 rfl) ?_
  refine rc_SN (As := [.ref o2, .int p1]) (rest := [.int p1, .ref o2]) X h (meX6_at l G _ _ _ _ hw) gU_X1_30 q365 q14 q312 rfl rfl hdS_X6_at rfl ⟨Nat.le_of_ble_eq_true rfl, Nat.le_of_ble_eq_true rfl⟩ hl.1 rfl (Nat.le_of_ble_eq_true rfl) ⟨Nat.le_of_ble_eq_true rfl, Nat.le_of_ble_eq_true rfl⟩ dX1_addToStock_10 (fun x4 S3 H locs hw h => ?_)
  refine lv_iload_n hx hb dX1_addToStock_13 rfl (lv_at hl 2 rfl) ?_
  refine lv_iadd hx hb dX1_addToStock_14 ?_
  refine rc_SN (As := [.ref o2, .int p1, .int (x4 + p2)]) (rest := []) X h (meX6_put l G _ _ _ _ _ hw) gU_X1_26 q370 q14 q319 rfl rfl hdS_X6_put rfl ⟨Nat.le_of_ble_eq_true rfl, Nat.le_of_ble_eq_true rfl⟩ hl.1 rfl (Nat.le_of_ble_eq_true rfl) ⟨Nat.le_of_ble_eq_true rfl, Nat.le_of_ble_eq_true rfl⟩ dX1_addToStock_15 (fun u6 S5 H locs hw h => ?_)
  exact (en_v X h hr hw (Nat.le_of_ble_eq_true rfl) (Nat.le_of_ble_eq_true rfl) dX1_addToStock_18)
abbrev rmX1_takeSheetsFor : Room := { frames := 2, cells := 0, slots := 0, locals := 44 }
def wlX1_takeSheetsFor_7 (a0 : Nat) (p1 : Int32) (x3 : Int32) (post : Unit → Mem → Prop)  : Nat → Int32 → Mem → Prop
  | 0 => fun _ _ => False
  | n + 1 => fun w3 S => (x3 ≤ w3 → (post () S)) ∧ (¬ x3 ≤ w3 → (isK S a0 1 ∧ (wpX1_addToStock S a0 w3 (-p1) (fun u7 S5 => ∀ x8 : Int32, x8 = (w3 + (nI 1)) → (wlX1_takeSheetsFor_7 a0 p1 x3 post n x8 S5)))))
set_option maxHeartbeats 4000000 in
set_option maxRecDepth 100000 in
theorem llX1_takeSheetsFor_7 {p : Program} {l : Launch} {e : Env} {s : State} {m : MethodId} {args : Array Value} {below : List Frame} {meth : Method} {c : Code} {G : GT} {A : Nat → Prop} (X : Cx p s m args meth c cX1_takeSheetsFor 4 RX1 G A) (hr : meth.sig.returnType = none) (a0 : Nat) (p1 : Int32) (x3 : Int32) (post : Unit → Mem → Prop)   : ∀ (n : Nat) (w3 : Int32) (S : Mem), wlX1_takeSheetsFor_7 a0 p1 x3 post n w3 S → ∀ (H : Heap) (locs : List Loc) (ls : Array Slot), Hx G A s.heap H locs S → lv_has ls 4 [(0, .ref a0), (1, .int p1), (2, .int x3), (3, .int w3)] → W p l e rmX1_takeSheetsFor s m args below meth c H locs 0 0 (MQ below (QN emV post G A) args s 0 0 A) (F0 m 7 ls []) := by
  have hx := X.1
  have hb := X.2.1
  have hown := X.2.2.2.1
  intro n
  induction n with
  | zero =>
    intro _ _ hw
    exact hw.elim
  | succ n ih =>
    intro w3 S hw H locs ls h hl
    refine lv_iload_n hx hb dX1_takeSheetsFor_7 rfl (lv_at hl 3 rfl) ?_
    refine lv_iload_n hx hb dX1_takeSheetsFor_8 rfl (lv_at hl 2 rfl) ?_
    refine lv_icmp_ge (tgt := 25) hx hb dX1_takeSheetsFor_9 (by decide) (fun c4 => ?_) (fun c4 => ?_)
    · have hw := hw.1 c4
      exact (en_v X h hr hw (Nat.le_of_ble_eq_true rfl) (Nat.le_of_ble_eq_true rfl) dX1_takeSheetsFor_25)
    · have hw := hw.2 c4
      refine lv_aload_n hx hb dX1_takeSheetsFor_12 rfl (lv_at hl 0 rfl) ?_
      refine lv_iload_n hx hb dX1_takeSheetsFor_13 rfl (lv_at hl 3 rfl) ?_
      refine lv_iload_n hx hb dX1_takeSheetsFor_14 rfl (lv_at hl 1 rfl) ?_
      refine lv_ineg hx hb dX1_takeSheetsFor_15 ?_
      obtain ⟨k6, hw⟩ := hw
      refine rc_V (As := [.int w3, .int (-p1)]) (rest := []) X h k6 (by decide) rfl (meX1_addToStock l G _ _ _ _ _ hw) gV_X1_67 rfl rfl hdV_X1_addToStock rfl ⟨Nat.le_of_ble_eq_true rfl, Nat.le_of_ble_eq_true rfl⟩ hl.1 rfl (Nat.le_of_ble_eq_true rfl) ⟨Nat.le_of_ble_eq_true rfl, Nat.le_of_ble_eq_true rfl⟩ dX1_takeSheetsFor_16 (fun u7 S5 H locs hw h => ?_)
      obtain ⟨x8, ex8⟩ : ∃ y : Int32, y = (w3 + (nI 1)) := ⟨_, rfl⟩
      have hw := hw x8 ex8
      refine lv_iinc (v := x8) (lv' := [(3, .int x8), (0, .ref a0), (1, .int p1), (2, .int x3)]) hx hb dX1_takeSheetsFor_19 hl (k := 3) rfl (by rw [ex8]; rfl) (by decide) rfl (fun ls hl => ?_)
      refine lv_goto (tgt := 7) hx hb dX1_takeSheetsFor_22 (by decide) ?_
      exact ih _ _ hw _ _ _ h (lv_sub hl [1, 2, 3, 0] rfl)
def wpX1_takeSheetsFor (S : Mem) (a0 : Nat) (p1 : Int32) (post : Unit → Mem → Prop) : Prop := isK S a0 1 ∧ (wpX1_sheetCount S a0 (fun x3 S1 => ∃ m, wlX1_takeSheetsFor_7 a0 p1 x3 post m (nI 0) S1))
set_option maxHeartbeats 4000000 in
set_option maxRecDepth 100000 in
theorem meX1_takeSheetsFor (l : Launch) (G : GT) (S : Mem) (a0 : Nat) (p1 : Int32) (post : Unit → Mem → Prop) (hw : wpX1_takeSheetsFor S a0 p1 post) : CN emV l yX1_takeSheetsFor (wsU yX1_takeSheetsFor cX1_takeSheetsFor 4 none) rmX1_takeSheetsFor 0 0 G [.ref a0, .int p1] S post := by
  refine cn_open RX1 rfl (by decide +kernel) (Nat.le_of_ble_eq_true rfl) ?_
  intro p e s m args below meth c A X h hr hin ls hl
  have hl : lv_has ls 4 [(0, .ref a0), (1, .int p1)] := hl
  have hx := X.1
  have hb := X.2.1
  have hown := X.2.2.2.1
  unfold wpX1_takeSheetsFor at hw
  refine lv_aload_n hx hb dX1_takeSheetsFor_0 rfl (lv_at hl 0 rfl) ?_
  obtain ⟨k2, hw⟩ := hw
  refine rc_V (As := []) (rest := []) X h k2 (by decide) rfl (meX1_sheetCount l G _ _ _ hw) gV_X1_46 rfl rfl hdV_X1_sheetCount rfl ⟨Nat.le_of_ble_eq_true rfl, Nat.le_of_ble_eq_true rfl⟩ hl.1 rfl (Nat.le_of_ble_eq_true rfl) ⟨Nat.le_of_ble_eq_true rfl, Nat.le_of_ble_eq_true rfl⟩ dX1_takeSheetsFor_1 (fun x3 S1 H locs hw h => ?_)
  refine lv_istore_n (lv' := [(2, .int x3), (0, .ref a0), (1, .int p1)]) hx hb dX1_takeSheetsFor_4 rfl hl (by decide) rfl (fun ls hl => ?_)
  refine lv_iconst (v := (nI 0)) hx hb dX1_takeSheetsFor_5 (by decide) ?_
  refine lv_istore_n (lv' := [(3, .int (nI 0)), (2, .int x3), (0, .ref a0), (1, .int p1)]) hx hb dX1_takeSheetsFor_6 rfl hl (by decide) rfl (fun ls hl => ?_)
  obtain ⟨n9, hw⟩ := hw
  exact llX1_takeSheetsFor_7  X hr _ _ _ _ n9 _ _ hw _ _ _ h (lv_sub hl [2, 3, 1, 0] rfl)
abbrev rmX2_init : Room := { frames := 1, cells := 2, slots := 32, locals := 20 }
def wpX2_init (S : Mem) (a0 : Nat) (p1 : Int32) (p2 : Int32) (p3 : Int32) (post : Unit → Mem → Prop) : Prop := isK S a0 2 ∧ (∀ S2 : Mem, S2 = (sI S a0 0 p1) → (∀ S3 : Mem, S3 = (sI S2 a0 1 p2) → (∀ S4 : Mem, S4 = (sI S3 a0 2 p3) → (∀ o5 : Nat, o5 ∉ mL S4 → (∀ S6 : Mem, S6 = (nA S4 o5 8 16) → (∀ S7 : Mem, S7 = (sR S6 a0 3 (some o5)) → (∀ o8 : Nat, o8 ∉ mL S7 → (∀ S9 : Mem, S9 = (nA S7 o8 8 16) → (∀ S10 : Mem, S10 = (sR S9 a0 4 (some o8)) → (post () S10))))))))))
set_option maxHeartbeats 4000000 in
set_option maxRecDepth 100000 in
theorem meX2_init (l : Launch) (G : GT) (S : Mem) (a0 : Nat) (p1 : Int32) (p2 : Int32) (p3 : Int32) (post : Unit → Mem → Prop) (hw : wpX2_init S a0 p1 p2 p3 post) : CN emV l yX2_init (wsU yX2_init cX2_init 4 none) rmX2_init 2 32 G [.ref a0, .int p1, .int p2, .int p3] S post := by
  refine cn_open RX2 rfl (by decide +kernel) (Nat.le_of_ble_eq_true rfl) ?_
  intro p e s m args below meth c A X h hr hin ls hl
  have hl : lv_has ls 4 [(0, .ref a0), (1, .int p1), (2, .int p2), (3, .int p3)] := hl
  have hx := X.1
  have hb := X.2.1
  have hown := X.2.2.2.1
  unfold wpX2_init at hw
  refine lv_aload_n hx hb dX2_init_0 rfl (lv_at hl 0 rfl) ?_
  refine r_obj X hl.1 q625 q38 q39 ⟨Nat.le_of_ble_eq_true rfl, Nat.le_of_ble_eq_true rfl⟩ ⟨Nat.le_of_ble_eq_true rfl, Nat.le_of_ble_eq_true rfl⟩ dX2_init_1 ?_
  refine lv_aload_n hx hb dX2_init_4 rfl (lv_at hl 0 rfl) ?_
  refine lv_iload_n hx hb dX2_init_5 rfl (lv_at hl 1 rfl) ?_
  obtain ⟨k1, hw⟩ := hw
  refine r_putIF X h k1 0 (by decide) rfl inX2 tyX2 tyX2_ok nmX2 (by decide) rfl (Nat.le_of_ble_eq_true rfl) q626 rfl rfl hin rfl (tyX2_ok 0 (by decide)) rfl rfl dX2_init_6 (fun H locs h => ?_)
  obtain ⟨S2, eS2⟩ : ∃ z : Mem, z = (sI S a0 0 p1) := ⟨_, rfl⟩
  rw [← eS2] at h
  have hw := hw S2 eS2
  refine lv_aload_n hx hb dX2_init_9 rfl (lv_at hl 0 rfl) ?_
  refine lv_iload_n hx hb dX2_init_10 rfl (lv_at hl 2 rfl) ?_
  refine r_putIF X h (kI eS2 k1) 1 (by decide) rfl inX2 tyX2 tyX2_ok nmX2 (by decide) rfl (Nat.le_of_ble_eq_true rfl) q628 rfl rfl hin rfl (tyX2_ok 1 (by decide)) rfl rfl dX2_init_11 (fun H locs h => ?_)
  obtain ⟨S3, eS3⟩ : ∃ z : Mem, z = (sI S2 a0 1 p2) := ⟨_, rfl⟩
  rw [← eS3] at h
  have hw := hw S3 eS3
  refine lv_aload_n hx hb dX2_init_14 rfl (lv_at hl 0 rfl) ?_
  refine lv_iload_n hx hb dX2_init_15 rfl (lv_at hl 3 rfl) ?_
  refine r_putIF X h (kI eS3 (kI eS2 k1)) 2 (by decide) rfl inX2 tyX2 tyX2_ok nmX2 (by decide) rfl (Nat.le_of_ble_eq_true rfl) q630 rfl rfl hin rfl (tyX2_ok 2 (by decide)) rfl rfl dX2_init_16 (fun H locs h => ?_)
  obtain ⟨S4, eS4⟩ : ∃ z : Mem, z = (sI S3 a0 2 p3) := ⟨_, rfl⟩
  rw [← eS4] at h
  have hw := hw S4 eS4
  refine lv_aload_n hx hb dX2_init_19 rfl (lv_at hl 0 rfl) ?_
  refine lv_bipush (v := (nI 16)) hx hb dX2_init_20 (by decide) ?_
  refine r_newI X h 16 q64 (by decide) ⟨Nat.le_of_ble_eq_true rfl, Nat.le_of_ble_eq_true rfl⟩ dX2_init_22 (fun o5 H ho5 h => ?_)
  have hw := hw o5 ho5
  obtain ⟨S6, eS6⟩ : ∃ z : Mem, z = (nA S4 o5 8 16) := ⟨_, rfl⟩
  rw [← eS6] at h
  have hw := hw S6 eS6
  refine r_putRF X h (kE eS6 (nA_keep (kI eS4 (kI eS3 (kI eS2 k1))) ho5)) 3 (by decide) rfl inX2 tyX2 tyX2_ok nmX2 (by decide) rfl (Nat.le_of_ble_eq_true rfl) q632 rfl rfl hin rfl (tyX2_ok 3 (by decide)) rfl rfl dX2_init_24 (fun H locs h => ?_)
  obtain ⟨S7, eS7⟩ : ∃ z : Mem, z = (sR S6 a0 3 (some o5)) := ⟨_, rfl⟩
  rw [← eS7] at h
  have hw := hw S7 eS7
  refine lv_aload_n hx hb dX2_init_27 rfl (lv_at hl 0 rfl) ?_
  refine lv_bipush (v := (nI 16)) hx hb dX2_init_28 (by decide) ?_
  refine r_newI X h 16 q64 (by decide) ⟨Nat.le_of_ble_eq_true rfl, Nat.le_of_ble_eq_true rfl⟩ dX2_init_30 (fun o8 H ho8 h => ?_)
  have hw := hw o8 ho8
  obtain ⟨S9, eS9⟩ : ∃ z : Mem, z = (nA S7 o8 8 16) := ⟨_, rfl⟩
  rw [← eS9] at h
  have hw := hw S9 eS9
  refine r_putRF X h (kE eS9 (nA_keep (kR eS7 (kE eS6 (nA_keep (kI eS4 (kI eS3 (kI eS2 k1))) ho5))) ho8)) 4 (by decide) rfl inX2 tyX2 tyX2_ok nmX2 (by decide) rfl (Nat.le_of_ble_eq_true rfl) q633 rfl rfl hin rfl (tyX2_ok 4 (by decide)) rfl rfl dX2_init_32 (fun H locs h => ?_)
  obtain ⟨S10, eS10⟩ : ∃ z : Mem, z = (sR S9 a0 4 (some o8)) := ⟨_, rfl⟩
  rw [← eS10] at h
  have hw := hw S10 eS10
  exact (en_v X h hr hw (Nat.le_of_ble_eq_true rfl) (Nat.le_of_ble_eq_true rfl) dX2_init_35)
abbrev rmX2_keep : Room := { frames := 1, cells := 0, slots := 0, locals := 22 }
def wpX2_keep (S : Mem) (a0 : Nat) (p1 : Int32) (p2 : Int32) (p3 : Int32) (post : Unit → Mem → Prop) : Prop := isK S a0 2 ∧ (∃ o2, mR S a0 3 = some o2 ∧ (wpX6_put S o2 (p1 - (nI 1)) p2 (fun u4 S3 => isK S3 a0 2 ∧ (∃ o6, mR S3 a0 4 = some o6 ∧ (wpX6_put S3 o6 (p1 - (nI 1)) p3 (fun u8 S7 => post () S7))))))
set_option maxHeartbeats 4000000 in
set_option maxRecDepth 100000 in
theorem meX2_keep (l : Launch) (G : GT) (S : Mem) (a0 : Nat) (p1 : Int32) (p2 : Int32) (p3 : Int32) (post : Unit → Mem → Prop) (hw : wpX2_keep S a0 p1 p2 p3 post) : CN emV l yX2_keep (wsU yX2_keep cX2_keep 4 none) rmX2_keep 0 0 G [.ref a0, .int p1, .int p2, .int p3] S post := by
  refine cn_open RX2 rfl (by decide +kernel) (Nat.le_of_ble_eq_true rfl) ?_
  intro p e s m args below meth c A X h hr hin ls hl
  have hl : lv_has ls 4 [(0, .ref a0), (1, .int p1), (2, .int p2), (3, .int p3)] := hl
  have hx := X.1
  have hb := X.2.1
  have hown := X.2.2.2.1
  unfold wpX2_keep at hw
  refine lv_aload_n hx hb dX2_keep_0 rfl (lv_at hl 0 rfl) ?_
  obtain ⟨k1, hw⟩ := hw
  obtain ⟨o2, eo2, hw⟩ := hw
  refine r_getR X h k1 3 eo2  (by decide) rfl inX2 (by decide) rfl q632 rfl dX2_keep_1 ?_
  refine lv_iload_n hx hb dX2_keep_4 rfl (lv_at hl 1 rfl) ?_
  refine lv_iconst (v := (nI 1)) hx hb dX2_keep_5 (by decide) ?_
  refine lv_isub hx hb dX2_keep_6 ?_
  refine lv_iload_n hx hb dX2_keep_7 rfl (lv_at hl 2 rfl) ?_
  refine rc_SN (As := [.ref o2, .int (p1 - (nI 1)), .int p2]) (rest := []) X h (meX6_put l G _ _ _ _ _ hw) gU_X2_28 q650 q14 q319 rfl rfl hdS_X6_put rfl ⟨Nat.le_of_ble_eq_true rfl, Nat.le_of_ble_eq_true rfl⟩ hl.1 rfl (Nat.le_of_ble_eq_true rfl) ⟨Nat.le_of_ble_eq_true rfl, Nat.le_of_ble_eq_true rfl⟩ dX2_keep_8 (fun u4 S3 H locs hw h => ?_)
  refine lv_aload_n hx hb dX2_keep_11 rfl (lv_at hl 0 rfl) ?_
  obtain ⟨k5, hw⟩ := hw
  obtain ⟨o6, eo6, hw⟩ := hw
  refine r_getR X h k5 4 eo6  (by decide) rfl inX2 (by decide) rfl q633 rfl dX2_keep_12 ?_
  refine lv_iload_n hx hb dX2_keep_15 rfl (lv_at hl 1 rfl) ?_
  refine lv_iconst (v := (nI 1)) hx hb dX2_keep_16 (by decide) ?_
  refine lv_isub hx hb dX2_keep_17 ?_
  refine lv_iload_n hx hb dX2_keep_18 rfl (lv_at hl 3 rfl) ?_
  refine rc_SN (As := [.ref o6, .int (p1 - (nI 1)), .int p3]) (rest := []) X h (meX6_put l G _ _ _ _ _ hw) gU_X2_28 q650 q14 q319 rfl rfl hdS_X6_put rfl ⟨Nat.le_of_ble_eq_true rfl, Nat.le_of_ble_eq_true rfl⟩ hl.1 rfl (Nat.le_of_ble_eq_true rfl) ⟨Nat.le_of_ble_eq_true rfl, Nat.le_of_ble_eq_true rfl⟩ dX2_keep_19 (fun u8 S7 H locs hw h => ?_)
  exact (en_v X h hr hw (Nat.le_of_ble_eq_true rfl) (Nat.le_of_ble_eq_true rfl) dX2_keep_22)
abbrev rmX6_newLot : Room := { frames := 2, cells := 3, slots := 37, locals := 45 }
def wlX6_newLot_23 (a0 : Nat) (a1 : Nat) (p2 : Int32) (o1 : Nat) (post : Option Nat → Mem → Prop)  : Nat → Int32 → Mem → Prop
  | 0 => fun _ _ => False
  | n + 1 => fun w4 S => isK S a1 1 ∧ (((mI S a1 3) < w4 → (post (some o1) S)) ∧ (¬ (mI S a1 3) < w4 → (wpX1_contentOf S a1 w4 (fun x12 S11 => isK S11 a0 6 ∧ (∃ o14, mR S11 a0 0 = some o14 ∧ (isK S11 o14 0 ∧ (wpX0_stateOf S11 o14 x12 (fun x17 S15 => isK S15 o1 2 ∧ (wpX2_keep S15 o1 w4 x12 x17 (fun u20 S18 => ∀ x21 : Int32, x21 = (w4 + (nI 1)) → (wlX6_newLot_23 a0 a1 p2 o1 post n x21 S18)))))))))))
set_option maxHeartbeats 4000000 in
set_option maxRecDepth 100000 in
theorem llX6_newLot_23 {p : Program} {l : Launch} {e : Env} {s : State} {m : MethodId} {args : Array Value} {below : List Frame} {meth : Method} {c : Code} {G : GT} {A : Nat → Prop} (X : Cx p s m args meth c cX6_newLot 6 RX6 G A) (hr : meth.sig.returnType = (some (.object "BinderyDesk$Lot"))) (a0 : Nat) (a1 : Nat) (p2 : Int32) (o1 : Nat) (post : Option Nat → Mem → Prop)   : ∀ (n : Nat) (w4 : Int32) (S : Mem), wlX6_newLot_23 a0 a1 p2 o1 post n w4 S → ∀ (H : Heap) (locs : List Loc) (ls : Array Slot), Hx G A s.heap H locs S → lv_has ls 6 [(0, .ref a0), (1, .ref a1), (2, .int p2), (3, .ref o1), (4, .int w4)] → W p l e rmX6_newLot s m args below meth c H locs 3 37 (MQ below (QN emR post G A) args s 3 37 A) (F0 m 23 ls []) := by
  have hx := X.1
  have hb := X.2.1
  have hown := X.2.2.2.1
  intro n
  induction n with
  | zero =>
    intro _ _ hw
    exact hw.elim
  | succ n ih =>
    intro w4 S hw H locs ls h hl
    refine lv_iload hx hb dX6_newLot_23 (lv_at hl 4 rfl) ?_
    refine lv_aload_n hx hb dX6_newLot_25 rfl (lv_at hl 1 rfl) ?_
    obtain ⟨k9, hw⟩ := hw
    refine r_getIN X h k9 3  (by decide) rfl inX1 (by decide) rfl q419 rfl dX6_newLot_26 ?_
    refine lv_icmp_gt (tgt := 63) hx hb dX6_newLot_29 (by decide) (fun c10 => ?_) (fun c10 => ?_)
    · have hw := hw.1 c10
      refine lv_aload_n hx hb dX6_newLot_63 rfl (lv_at hl 3 rfl) ?_
      exact (en_r (r := (some o1)) X h rfl hr hw (Nat.le_of_ble_eq_true rfl) (Nat.le_of_ble_eq_true rfl) dX6_newLot_64)
    · have hw := hw.2 c10
      refine lv_aload_n hx hb dX6_newLot_32 rfl (lv_at hl 1 rfl) ?_
      refine lv_iload hx hb dX6_newLot_33 (lv_at hl 4 rfl) ?_
      refine rc_V (As := [.int w4]) (rest := []) X h k9 (by decide) rfl (meX1_contentOf l G _ _ _ _ hw) gV_X6_322 rfl rfl hdV_X1_contentOf rfl ⟨Nat.le_of_ble_eq_true rfl, Nat.le_of_ble_eq_true rfl⟩ hl.1 rfl (Nat.le_of_ble_eq_true rfl) ⟨Nat.le_of_ble_eq_true rfl, Nat.le_of_ble_eq_true rfl⟩ dX6_newLot_35 (fun x12 S11 H locs hw h => ?_)
      refine lv_istore (lv' := [(5, .int x12), (0, .ref a0), (1, .ref a1), (2, .int p2), (3, .ref o1), (4, .int w4)]) hx hb dX6_newLot_38 hl (by decide) rfl (fun ls hl => ?_)
      refine lv_aload_n hx hb dX6_newLot_40 rfl (lv_at hl 4 rfl) ?_
      refine lv_iload hx hb dX6_newLot_41 (lv_at hl 5 rfl) ?_
      refine lv_iload hx hb dX6_newLot_43 (lv_at hl 0 rfl) ?_
      refine lv_aload_n hx hb dX6_newLot_45 rfl (lv_at hl 1 rfl) ?_
      obtain ⟨k13, hw⟩ := hw
      obtain ⟨o14, eo14, hw⟩ := hw
      refine r_getR X h k13 0 eo14  (by decide) rfl inX6 (by decide) rfl q120 rfl dX6_newLot_46 ?_
      refine lv_iload hx hb dX6_newLot_49 (lv_at hl 0 rfl) ?_
      obtain ⟨k16, hw⟩ := hw
      refine rc_V (As := [.int x12]) (rest := [.int x12, .int w4, .ref o1]) X h k16 (by decide) rfl (meX0_stateOf l G _ _ _ _ hw) gV_X6_76 rfl rfl hdV_X0_stateOf rfl ⟨Nat.le_of_ble_eq_true rfl, Nat.le_of_ble_eq_true rfl⟩ hl.1 rfl (Nat.le_of_ble_eq_true rfl) ⟨Nat.le_of_ble_eq_true rfl, Nat.le_of_ble_eq_true rfl⟩ dX6_newLot_51 (fun x17 S15 H locs hw h => ?_)
      obtain ⟨k19, hw⟩ := hw
      refine rc_V (As := [.int w4, .int x12, .int x17]) (rest := []) X h k19 (by decide) rfl (meX2_keep l G _ _ _ _ _ _ hw) gV_X6_323 rfl rfl hdV_X2_keep rfl ⟨Nat.le_of_ble_eq_true rfl, Nat.le_of_ble_eq_true rfl⟩ hl.1 rfl (Nat.le_of_ble_eq_true rfl) ⟨Nat.le_of_ble_eq_true rfl, Nat.le_of_ble_eq_true rfl⟩ dX6_newLot_54 (fun u20 S18 H locs hw h => ?_)
      obtain ⟨x21, ex21⟩ : ∃ y : Int32, y = (w4 + (nI 1)) := ⟨_, rfl⟩
      have hw := hw x21 ex21
      refine lv_iinc (v := x21) (lv' := [(4, .int x21), (5, .int x12), (0, .ref a0), (1, .ref a1), (2, .int p2), (3, .ref o1)]) hx hb dX6_newLot_57 hl (k := 5) rfl (by rw [ex21]; rfl) (by decide) rfl (fun ls hl => ?_)
      refine lv_goto (tgt := 23) hx hb dX6_newLot_60 (by decide) ?_
      exact ih _ _ hw _ _ _ h (lv_sub hl [2, 3, 4, 5, 0] rfl)
def wpX6_newLot (S : Mem) (a0 : Nat) (a1 : Nat) (p2 : Int32) (post : Option Nat → Mem → Prop) : Prop := ∀ o1 : Nat, o1 ∉ mL S → (∀ S2 : Mem, S2 = (nA S o1 2 0) → (isK S2 a1 1 ∧ (isK S2 a0 6 ∧ (∃ o5, mR S2 a0 0 = some o5 ∧ (isK S2 o5 0 ∧ (wpX2_init S2 o1 p2 (mI S2 a1 3) (mI S2 o5 4) (fun u8 S7 => ∃ m, wlX6_newLot_23 a0 a1 p2 o1 post m (nI 1) S7)))))))
set_option maxHeartbeats 4000000 in
set_option maxRecDepth 100000 in
theorem meX6_newLot (l : Launch) (G : GT) (S : Mem) (a0 : Nat) (a1 : Nat) (p2 : Int32) (post : Option Nat → Mem → Prop) (hw : wpX6_newLot S a0 a1 p2 post) : CN emR l yX6_newLot (wsU yX6_newLot cX6_newLot 6 (some (.object "BinderyDesk$Lot"))) rmX6_newLot 3 37 G [.ref a0, .ref a1, .int p2] S post := by
  refine cn_open RX6 rfl (by decide +kernel) (Nat.le_of_ble_eq_true rfl) ?_
  intro p e s m args below meth c A X h hr hin ls hl
  have hl : lv_has ls 6 [(0, .ref a0), (1, .ref a1), (2, .int p2)] := hl
  have hx := X.1
  have hb := X.2.1
  have hown := X.2.2.2.1
  unfold wpX6_newLot at hw
  refine r_new X h 2 (by decide) rfl inX2 tyX2 tyX2_ok q118 q621 q31 (by decide +kernel) ⟨Nat.le_of_ble_eq_true rfl, Nat.le_of_ble_eq_true rfl⟩ dX6_newLot_0 (fun o1 H ho1 h => ?_)
  have hw := hw o1 ho1
  obtain ⟨S2, eS2⟩ : ∃ z : Mem, z = (nA S o1 2 0) := ⟨_, rfl⟩
  rw [← eS2] at h
  have hw := hw S2 eS2
  refine lv_dup hx hb dX6_newLot_3 rfl ?_
  refine lv_iload_n hx hb dX6_newLot_4 rfl (lv_at hl 2 rfl) ?_
  refine lv_aload_n hx hb dX6_newLot_5 rfl (lv_at hl 1 rfl) ?_
  obtain ⟨k3, hw⟩ := hw
  refine r_getIN X h k3 3  (by decide) rfl inX1 (by decide) rfl q419 rfl dX6_newLot_6 ?_
  refine lv_aload_n hx hb dX6_newLot_9 rfl (lv_at hl 0 rfl) ?_
  obtain ⟨k4, hw⟩ := hw
  obtain ⟨o5, eo5, hw⟩ := hw
  refine r_getR X h k4 0 eo5  (by decide) rfl inX6 (by decide) rfl q120 rfl dX6_newLot_10 ?_
  obtain ⟨k6, hw⟩ := hw
  refine r_getIN X h k6 4  (by decide) rfl inX0 (by decide) rfl q52 rfl dX6_newLot_13 ?_
  refine rc_I (As := [.int p2, .int (mI S2 a1 3), .int (mI S2 o5 4)]) (rest := [.ref o1]) X h (meX2_init l G _ _ _ _ _ _ hw) gU_X6_320 q31 q622 q623 rfl rfl rfl hdS_X2_init rfl ⟨Nat.le_of_ble_eq_true rfl, Nat.le_of_ble_eq_true rfl⟩ hl.1 rfl (Nat.le_of_ble_eq_true rfl) ⟨Nat.le_of_ble_eq_true rfl, Nat.le_of_ble_eq_true rfl⟩ dX6_newLot_16 (fun u8 S7 H locs hw h => ?_)
  refine lv_astore_n (lv' := [(3, .ref o1), (0, .ref a0), (1, .ref a1), (2, .int p2)]) hx hb dX6_newLot_19 rfl hl (by decide) rfl (fun ls hl => ?_)
  refine lv_iconst (v := (nI 1)) hx hb dX6_newLot_20 (by decide) ?_
  refine lv_istore (lv' := [(4, .int (nI 1)), (3, .ref o1), (0, .ref a0), (1, .ref a1), (2, .int p2)]) hx hb dX6_newLot_21 hl (by decide) rfl (fun ls hl => ?_)
  obtain ⟨n22, hw⟩ := hw
  exact llX6_newLot_23  X hr _ _ _ _ _ n22 _ _ hw _ _ _ h (lv_sub hl [2, 3, 4, 1, 0] rfl)
abbrev rmX6_bind : Room := { frames := 7, cells := 6, slots := 55, locals := 112 }
def wpX6_bind (S : Mem) (a0 : Nat) (p1 : Int32) (p2 : Int32) (post : Int32 → Mem → Prop) (px : Nat → Mem → Prop) : Prop := isK S a0 6 ∧ (wpX6_existingJob S a0 p1 (fun r3 S1 => ∃ o4, r3 = some o4 ∧ (wpX6_requireCount S1 p2 (fun u6 S5 => wpX6_requireComplete S5 o4 (fun u8 S7 => isK S7 a0 6 ∧ (((mI S7 a0 7) < 0 → (px 2 S7)) ∧ (¬ (mI S7 a0 7) < 0 → (∃ o11, mR S7 a0 5 = some o11 ∧ (isK S7 o11 11 ∧ (((mI S7 a0 7) < (nI (mN S7 o11)) → (isK S7 o4 1 ∧ (wpX1_lackFor S7 o4 p2 (fun x16 S14 => (x16 ≤ 0 → (isK S14 o4 1 ∧ (wpX1_takeSheetsFor S14 o4 p2 (fun u20 S18 => isK S18 a0 6 ∧ (∃ o22, mR S18 a0 5 = some o22 ∧ (wpX6_newLot S18 a0 o4 p2 (fun r24 S23 => ∃ o25, r24 = some o25 ∧ (isK S23 o22 11 ∧ (isK S23 o25 2 ∧ (vp_in (mI S18 a0 7) (mN S23 o22) ∧ (∀ S29 : Mem, S29 = (sR S23 o22 (mI S18 a0 7).toNatClampNeg (some o25)) → (isK S29 a0 6 ∧ (∀ x31 : Int32, x31 = ((mI S29 a0 7) + (nI 1)) → (∀ S32 : Mem, S32 = (sI S29 a0 7 x31) → (post ((mI S32 a0 7) - (nI 1)) S32))))))))))))))) ∧ (¬ x16 ≤ 0 → (px 5 S14)))))) ∧ (¬ (mI S7 a0 7) < (nI (mN S7 o11)) → (px 2 S7)))))))) px) px)) px)
set_option maxHeartbeats 4000000 in
set_option maxRecDepth 100000 in
theorem meX6_bind (l : Launch) (hl9 : l.stackTraces = false) (G : GT) (S : Mem) (a0 : Nat) (p1 : Int32) (p2 : Int32) (post : Int32 → Mem → Prop) (px : Nat → Mem → Prop) (hw : wpX6_bind S a0 p1 p2 post px) : CX emI l yX6_bind (wsU yX6_bind cX6_bind 4 (some .int)) rmX6_bind 6 55 G [.ref a0, .int p1, .int p2] S post px := by
  refine cx_open RX6 rfl (by decide +kernel) (Nat.le_of_ble_eq_true rfl) ?_
  intro p e s m args below meth c A X h hr hno ls hl
  have hl : lv_has ls 4 [(0, .ref a0), (1, .int p1), (2, .int p2)] := hl
  have hx := X.1
  have hb := X.2.1
  have hown := X.2.2.2.1
  unfold wpX6_bind at hw
  refine lv_aload_n hx hb dX6_bind_0 rfl (lv_at hl 0 rfl) ?_
  refine lv_iload_n hx hb dX6_bind_1 rfl (lv_at hl 1 rfl) ?_
  obtain ⟨k2, hw⟩ := hw
  refine rx_V (As := [.int p1]) (rest := []) X h hno k2 (by decide) rfl (meX6_existingJob l hl9 G _ _ _ _ _ hw) gV_X6_109 rfl rfl hdV_X6_existingJob rfl ⟨Nat.le_of_ble_eq_true rfl, Nat.le_of_ble_eq_true rfl⟩ hl.1 rfl (Nat.le_of_ble_eq_true rfl) ⟨Nat.le_of_ble_eq_true rfl, Nat.le_of_ble_eq_true rfl⟩ ⟨Nat.le_of_ble_eq_true rfl, Nat.le_of_ble_eq_true rfl⟩ dX6_bind_2 (fun r3 S1 H locs hw h => ?_)
  obtain ⟨o4, rfl, hw⟩ := hw
  refine lv_astore_n (lv' := [(3, .ref o4), (0, .ref a0), (1, .int p1), (2, .int p2)]) hx hb dX6_bind_5 rfl hl (by decide) rfl (fun ls hl => ?_)
  refine lv_iload_n hx hb dX6_bind_6 rfl (lv_at hl 3 rfl) ?_
  refine rx_S (As := [.int p2]) (rest := []) X h hno (meX6_requireCount l hl9 G _ _ _ _ hw) gS_X6_148 rfl rfl hdS_X6_requireCount rfl ⟨Nat.le_of_ble_eq_true rfl, Nat.le_of_ble_eq_true rfl⟩ hl.1 rfl (Nat.le_of_ble_eq_true rfl) ⟨Nat.le_of_ble_eq_true rfl, Nat.le_of_ble_eq_true rfl⟩ ⟨Nat.le_of_ble_eq_true rfl, Nat.le_of_ble_eq_true rfl⟩ dX6_bind_7 (fun u6 S5 H locs hw h => ?_)
  refine lv_aload_n hx hb dX6_bind_10 rfl (lv_at hl 0 rfl) ?_
  refine rx_S (As := [.ref o4]) (rest := []) X h hno (meX6_requireComplete l hl9 G _ _ _ _ hw) gS_X6_223 rfl rfl hdS_X6_requireComplete rfl ⟨Nat.le_of_ble_eq_true rfl, Nat.le_of_ble_eq_true rfl⟩ hl.1 rfl (Nat.le_of_ble_eq_true rfl) ⟨Nat.le_of_ble_eq_true rfl, Nat.le_of_ble_eq_true rfl⟩ ⟨Nat.le_of_ble_eq_true rfl, Nat.le_of_ble_eq_true rfl⟩ dX6_bind_11 (fun u8 S7 H locs hw h => ?_)
  refine lv_aload_n hx hb dX6_bind_14 rfl (lv_at hl 1 rfl) ?_
  obtain ⟨k9, hw⟩ := hw
  refine r_getI X h k9 7  (by decide) rfl inX6 (by decide) rfl q127 rfl dX6_bind_15 ?_
  refine lv_if_lt (tgt := 33) hx hb dX6_bind_18 (by decide) (fun c10 => ?_) (fun c10 => ?_)
  · have hw := hw.1 c10
    exact en_x 2 X h hl9 th_X6_229 hl.1 hno dX6_bind_33 dX6_bind_36 dX6_bind_37 dX6_bind_39 dX6_bind_42 ⟨Nat.le_of_ble_eq_true rfl, Nat.le_of_ble_eq_true rfl⟩ ⟨Nat.le_of_ble_eq_true rfl, Nat.le_of_ble_eq_true rfl⟩ ⟨Nat.le_of_ble_eq_true rfl, Nat.le_of_ble_eq_true rfl⟩ hw
  · have hw := hw.2 c10
    refine lv_aload_n hx hb dX6_bind_21 rfl (lv_at hl 1 rfl) ?_
    refine r_getI X h k9 7  (by decide) rfl inX6 (by decide) rfl q127 rfl dX6_bind_22 ?_
    refine lv_aload_n hx hb dX6_bind_25 rfl (lv_at hl 1 rfl) ?_
    obtain ⟨o11, eo11, hw⟩ := hw
    refine r_getR X h k9 5 eo11  (by decide) rfl inX6 (by decide) rfl q125 rfl dX6_bind_26 ?_
    obtain ⟨k12, hw⟩ := hw
    refine r_alen X h k12 (by decide) dX6_bind_29 ?_
    refine lv_icmp_lt (tgt := 43) hx hb dX6_bind_30 (by decide) (fun c13 => ?_) (fun c13 => ?_)
    · have hw := hw.1 c13
      refine lv_aload_n hx hb dX6_bind_43 rfl (lv_at hl 0 rfl) ?_
      refine lv_iload_n hx hb dX6_bind_44 rfl (lv_at hl 3 rfl) ?_
      obtain ⟨k15, hw⟩ := hw
      refine rc_V (As := [.int p2]) (rest := []) X h k15 (by decide) rfl (meX1_lackFor l G _ _ _ _ hw) gV_X6_231 rfl rfl hdV_X1_lackFor rfl ⟨Nat.le_of_ble_eq_true rfl, Nat.le_of_ble_eq_true rfl⟩ hl.1 rfl (Nat.le_of_ble_eq_true rfl) ⟨Nat.le_of_ble_eq_true rfl, Nat.le_of_ble_eq_true rfl⟩ dX6_bind_45 (fun x16 S14 H locs hw h => ?_)
      refine lv_if_le (tgt := 61) hx hb dX6_bind_48 (by decide) (fun c17 => ?_) (fun c17 => ?_)
      · have hw := hw.1 c17
        refine lv_aload_n hx hb dX6_bind_61 rfl (lv_at hl 0 rfl) ?_
        refine lv_iload_n hx hb dX6_bind_62 rfl (lv_at hl 3 rfl) ?_
        obtain ⟨k19, hw⟩ := hw
        refine rc_V (As := [.int p2]) (rest := []) X h k19 (by decide) rfl (meX1_takeSheetsFor l G _ _ _ _ hw) gV_X6_236 rfl rfl hdV_X1_takeSheetsFor rfl ⟨Nat.le_of_ble_eq_true rfl, Nat.le_of_ble_eq_true rfl⟩ hl.1 rfl (Nat.le_of_ble_eq_true rfl) ⟨Nat.le_of_ble_eq_true rfl, Nat.le_of_ble_eq_true rfl⟩ dX6_bind_63 (fun u20 S18 H locs hw h => ?_)
        refine lv_aload_n hx hb dX6_bind_66 rfl (lv_at hl 1 rfl) ?_
        obtain ⟨k21, hw⟩ := hw
        obtain ⟨o22, eo22, hw⟩ := hw
        refine r_getR X h k21 5 eo22  (by decide) rfl inX6 (by decide) rfl q125 rfl dX6_bind_67 ?_
        refine lv_aload_n hx hb dX6_bind_70 rfl (lv_at hl 1 rfl) ?_
        refine r_getI X h k21 7  (by decide) rfl inX6 (by decide) rfl q127 rfl dX6_bind_71 ?_
        refine lv_aload_n hx hb dX6_bind_74 rfl (lv_at hl 1 rfl) ?_
        refine lv_aload_n hx hb dX6_bind_75 rfl (lv_at hl 0 rfl) ?_
        refine lv_iload_n hx hb dX6_bind_76 rfl (lv_at hl 3 rfl) ?_
        refine rc_V (As := [.ref o4, .int p2]) (rest := [.int (mI S18 a0 7), .ref o22]) X h k21 (by decide) rfl (meX6_newLot l G _ _ _ _ _ hw) gV_X6_239 rfl rfl hdV_X6_newLot rfl ⟨Nat.le_of_ble_eq_true rfl, Nat.le_of_ble_eq_true rfl⟩ hl.1 rfl (Nat.le_of_ble_eq_true rfl) ⟨Nat.le_of_ble_eq_true rfl, Nat.le_of_ble_eq_true rfl⟩ dX6_bind_77 (fun r24 S23 H locs hw h => ?_)
        obtain ⟨o25, rfl, hw⟩ := hw
        obtain ⟨k26, hw⟩ := hw
        obtain ⟨k27, hw⟩ := hw
        obtain ⟨v28, hw⟩ := hw
        refine r_astLot X h k26 k27 v28 dX6_bind_80 (fun H locs h => ?_)
        obtain ⟨S29, eS29⟩ : ∃ z : Mem, z = (sR S23 o22 (mI S18 a0 7).toNatClampNeg (some o25)) := ⟨_, rfl⟩
        rw [← eS29] at h
        have hw := hw S29 eS29
        refine lv_aload_n hx hb dX6_bind_81 rfl (lv_at hl 1 rfl) ?_
        refine lv_dup hx hb dX6_bind_82 rfl ?_
        obtain ⟨k30, hw⟩ := hw
        refine r_getI X h k30 7  (by decide) rfl inX6 (by decide) rfl q127 rfl dX6_bind_83 ?_
        refine lv_iconst (v := (nI 1)) hx hb dX6_bind_86 (by decide) ?_
        refine lv_iadd hx hb dX6_bind_87 ?_
        refine lv_topi (fun x31 ex31 => ?_)
        have hw := hw x31 ex31
        refine r_putI X h k30 7 (by decide) rfl inX6 tyX6 tyX6_ok nmX6 (by decide) rfl (Nat.le_of_ble_eq_true rfl) q127 rfl rfl (tyX6_ok 7 (by decide)) rfl rfl dX6_bind_88 (fun H locs h => ?_)
        obtain ⟨S32, eS32⟩ : ∃ z : Mem, z = (sI S29 a0 7 x31) := ⟨_, rfl⟩
        rw [← eS32] at h
        have hw := hw S32 eS32
        refine lv_aload_n hx hb dX6_bind_91 rfl (lv_at hl 1 rfl) ?_
        refine r_getI X h (kI eS32 k30) 7  (by decide) rfl inX6 (by decide) rfl q127 rfl dX6_bind_92 ?_
        refine lv_iconst (v := (nI 1)) hx hb dX6_bind_95 (by decide) ?_
        refine lv_isub hx hb dX6_bind_96 ?_
        exact vx_ret (en_i X h hr hw (Nat.le_of_ble_eq_true rfl) (Nat.le_of_ble_eq_true rfl) dX6_bind_97)
      · have hw := hw.2 c17
        exact en_x 5 X h hl9 th_X6_234 hl.1 hno dX6_bind_51 dX6_bind_54 dX6_bind_55 dX6_bind_57 dX6_bind_60 ⟨Nat.le_of_ble_eq_true rfl, Nat.le_of_ble_eq_true rfl⟩ ⟨Nat.le_of_ble_eq_true rfl, Nat.le_of_ble_eq_true rfl⟩ ⟨Nat.le_of_ble_eq_true rfl, Nat.le_of_ble_eq_true rfl⟩ hw
    · have hw := hw.2 c13
      exact en_x 2 X h hl9 th_X6_229 hl.1 hno dX6_bind_33 dX6_bind_36 dX6_bind_37 dX6_bind_39 dX6_bind_42 ⟨Nat.le_of_ble_eq_true rfl, Nat.le_of_ble_eq_true rfl⟩ ⟨Nat.le_of_ble_eq_true rfl, Nat.le_of_ble_eq_true rfl⟩ ⟨Nat.le_of_ble_eq_true rfl, Nat.le_of_ble_eq_true rfl⟩ hw
abbrev rmL_bind : Room := { frames := 8, cells := 6, slots := 55, locals := 135 }
def wpL_bind (S : Mem) (a0 : Nat) (p1 : Int32) (p2 : Int32) (post : Int32 → Mem → Prop) : Prop := isK S a0 6 ∧ (wpX6_bind S a0 p1 p2 (fun x3 S1 => post x3 S1) (fun k4 S5 => (k4 = 1 → (post (-77 : Int32) S5)) ∧ (k4 = 2 → (post (-79 : Int32) S5)) ∧ (k4 = 4 → (post (-78 : Int32) S5)) ∧ (k4 = 5 → (post (-76 : Int32) S5)) ∧ (k4 = 1 ∨ k4 = 2 ∨ k4 = 4 ∨ k4 = 5)))
set_option maxHeartbeats 4000000 in
set_option maxRecDepth 100000 in
theorem meL_bind (l : Launch) (hl9 : l.stackTraces = false) (G : GT) (S : Mem) (a0 : Nat) (p1 : Int32) (p2 : Int32) (post : Int32 → Mem → Prop) (hw : wpL_bind S a0 p1 p2 post) : CN emI l yL_bind (wsH yL_bind cL_bind 4 (some .int) [(0, 6, 7, 26), (0, 6, 11, 39), (0, 6, 15, 20), (0, 6, 19, 63)]) rmL_bind 6 55 G [.ref a0, .int p1, .int p2] S post := by
  refine ch_open RL rfl (by decide +kernel) (Nat.le_of_ble_eq_true rfl) ?_
  intro p e s m args below meth c A X h hr hTab ls hl
  have hl : lv_has ls 4 [(0, .ref a0), (1, .int p1), (2, .int p2)] := hl
  have hx := X.1
  have hb := X.2.1
  have hown := X.2.2.2.1
  unfold wpL_bind at hw
  refine lv_aload_n hx hb dL_bind_0 rfl (lv_at hl 0 rfl) ?_
  refine lv_iload_n hx hb dL_bind_1 rfl (lv_at hl 1 rfl) ?_
  refine lv_iload_n hx hb dL_bind_2 rfl (lv_at hl 2 rfl) ?_
  obtain ⟨k2, hw⟩ := hw
  refine rx_VH (As := [.int p1, .int p2]) (rest := []) X h k2 (by decide) rfl (meX6_bind l hl9 G _ _ _ _ _ _ hw) gV_L_80 rfl rfl hdV_X6_bind rfl ⟨Nat.le_of_ble_eq_true rfl, Nat.le_of_ble_eq_true rfl⟩ hl.1 rfl (Nat.le_of_ble_eq_true rfl) ⟨Nat.le_of_ble_eq_true rfl, Nat.le_of_ble_eq_true rfl⟩ dL_bind_3 (fun k4 S5 H locs q9 ce hw h hce hcv hcl => ?_) (fun x3 S1 H locs hw h => ?_)
  · rcases hw.2.2.2.2 with hk9 | hk9 | hk9 | hk9
    · subst hk9
      have hw := hw.1 rfl
      refine vx_catch (own := RL) (name := "java/lang/IndexOutOfBoundsException") (E := xn 1) hown [] ⟨0, 6, 7, 26⟩ [⟨0, 6, 11, 39⟩, ⟨0, 6, 15, 20⟩, ⟨0, 6, 19, 63⟩] (by rw [hTab]; rfl) (fun z hz => nomatch hz) (by decide) (by decide) (X.hts q262) (va_Nw.use (by rfl) (X.nw q296)) hce hcv hcl ?_
      refine lv_astore_n (lv' := [(3, .ref q9), (0, .ref a0), (1, .int p1), (2, .int p2)]) hx hb dL_bind_7 rfl hl (by decide) rfl (fun ls hl => ?_)
      refine lv_bipush (v := (-77 : Int32)) hx hb dL_bind_8 (by decide) ?_
      exact (en_i X h hr hw (Nat.le_of_ble_eq_true rfl) (Nat.le_of_ble_eq_true rfl) dL_bind_10)
    · subst hk9
      have hw := hw.2.1 rfl
      have hpass2 : ∀ z ∈ ([⟨0, 6, 7, 26⟩, ⟨0, 6, 11, 39⟩] : List ExceptionTableEntry), covers z 3 = false ∨ (z.catchType ≠ 0 ∧ ∃ nm : String, (Cond.classLink RL z.catchType nm).before args s = true ∧ va_Nc (xn 2) nm s) := by
        intro z hz
        rcases List.mem_cons.mp hz with rfl | hz
        · exact Or.inr ⟨by decide, "java/lang/IndexOutOfBoundsException", X.hts q262, X.2.2.2.2.2.2.1.2.2.2.2.1 ("java/lang/IllegalStateException", "java/lang/IndexOutOfBoundsException") (by decide +kernel)⟩
        rcases List.mem_cons.mp hz with rfl | hz
        · exact Or.inr ⟨by decide, "java/lang/IllegalArgumentException", X.hts q387, X.2.2.2.2.2.2.1.2.2.2.2.1 ("java/lang/IllegalStateException", "java/lang/IllegalArgumentException") (by decide +kernel)⟩
        cases hz
      refine vx_catch (own := RL) (name := "java/lang/IllegalStateException") (E := xn 2) hown [⟨0, 6, 7, 26⟩, ⟨0, 6, 11, 39⟩] ⟨0, 6, 15, 20⟩ [⟨0, 6, 19, 63⟩] (by rw [hTab]; rfl) (hpass2) (by decide) (by decide) (X.hts q179) (va_Nw.use (by rfl) (X.nw q186)) hce hcv hcl ?_
      refine lv_astore_n (lv' := [(3, .ref q9), (0, .ref a0), (1, .int p1), (2, .int p2)]) hx hb dL_bind_15 rfl hl (by decide) rfl (fun ls hl => ?_)
      refine lv_bipush (v := (-79 : Int32)) hx hb dL_bind_16 (by decide) ?_
      exact (en_i X h hr hw (Nat.le_of_ble_eq_true rfl) (Nat.le_of_ble_eq_true rfl) dL_bind_18)
    · subst hk9
      have hw := hw.2.2.1 rfl
      have hpass4 : ∀ z ∈ ([⟨0, 6, 7, 26⟩] : List ExceptionTableEntry), covers z 3 = false ∨ (z.catchType ≠ 0 ∧ ∃ nm : String, (Cond.classLink RL z.catchType nm).before args s = true ∧ va_Nc (xn 4) nm s) := by
        intro z hz
        rcases List.mem_cons.mp hz with rfl | hz
        · exact Or.inr ⟨by decide, "java/lang/IndexOutOfBoundsException", X.hts q262, X.2.2.2.2.2.2.1.2.2.2.2.1 ("java/lang/IllegalArgumentException", "java/lang/IndexOutOfBoundsException") (by decide +kernel)⟩
        cases hz
      refine vx_catch (own := RL) (name := "java/lang/IllegalArgumentException") (E := xn 4) hown [⟨0, 6, 7, 26⟩] ⟨0, 6, 11, 39⟩ [⟨0, 6, 15, 20⟩, ⟨0, 6, 19, 63⟩] (by rw [hTab]; rfl) (hpass4) (by decide) (by decide) (X.hts q387) (va_Nw.use (by rfl) (X.nw q394)) hce hcv hcl ?_
      refine lv_astore_n (lv' := [(3, .ref q9), (0, .ref a0), (1, .int p1), (2, .int p2)]) hx hb dL_bind_11 rfl hl (by decide) rfl (fun ls hl => ?_)
      refine lv_bipush (v := (-78 : Int32)) hx hb dL_bind_12 (by decide) ?_
      exact (en_i X h hr hw (Nat.le_of_ble_eq_true rfl) (Nat.le_of_ble_eq_true rfl) dL_bind_14)
    · subst hk9
      have hw := hw.2.2.2.1 rfl
      have hpass5 : ∀ z ∈ ([⟨0, 6, 7, 26⟩, ⟨0, 6, 11, 39⟩, ⟨0, 6, 15, 20⟩] : List ExceptionTableEntry), covers z 3 = false ∨ (z.catchType ≠ 0 ∧ ∃ nm : String, (Cond.classLink RL z.catchType nm).before args s = true ∧ va_Nc (xn 5) nm s) := by
        intro z hz
        rcases List.mem_cons.mp hz with rfl | hz
        · exact Or.inr ⟨by decide, "java/lang/IndexOutOfBoundsException", X.hts q262, X.2.2.2.2.2.2.1.2.2.2.2.1 ("java/lang/UnsupportedOperationException", "java/lang/IndexOutOfBoundsException") (by decide +kernel)⟩
        rcases List.mem_cons.mp hz with rfl | hz
        · exact Or.inr ⟨by decide, "java/lang/IllegalArgumentException", X.hts q387, X.2.2.2.2.2.2.1.2.2.2.2.1 ("java/lang/UnsupportedOperationException", "java/lang/IllegalArgumentException") (by decide +kernel)⟩
        rcases List.mem_cons.mp hz with rfl | hz
        · exact Or.inr ⟨by decide, "java/lang/IllegalStateException", X.hts q179, X.2.2.2.2.2.2.1.2.2.2.2.1 ("java/lang/UnsupportedOperationException", "java/lang/IllegalStateException") (by decide +kernel)⟩
        cases hz
      refine vx_catch (own := RL) (name := "java/lang/UnsupportedOperationException") (E := xn 5) hown [⟨0, 6, 7, 26⟩, ⟨0, 6, 11, 39⟩, ⟨0, 6, 15, 20⟩] ⟨0, 6, 19, 63⟩ [] (by rw [hTab]; rfl) (hpass5) (by decide) (by decide) (X.hts q481) (va_Nw.use (by rfl) (X.nw q517)) hce hcv hcl ?_
      refine lv_astore_n (lv' := [(3, .ref q9), (0, .ref a0), (1, .int p1), (2, .int p2)]) hx hb dL_bind_19 rfl hl (by decide) rfl (fun ls hl => ?_)
      refine lv_bipush (v := (-76 : Int32)) hx hb dL_bind_20 (by decide) ?_
      exact (en_i X h hr hw (Nat.le_of_ble_eq_true rfl) (Nat.le_of_ble_eq_true rfl) dL_bind_22)
  · exact (en_i X h hr hw (Nat.le_of_ble_eq_true rfl) (Nat.le_of_ble_eq_true rfl) dL_bind_6)
abbrev rmL_cell : Room := { frames := 0, cells := 0, slots := 0, locals := 0 }
def wpL_cell (S : Mem) (L : Nat) (xs : Nat → Int32) (p1 : Int32) (post : Int32 → Mem → Prop) : Prop := ((nI L) ≤ p1 → (post ((40503 : Int32) * p1) S)) ∧ (¬ (nI L) ≤ p1 → (vp_in p1 L ∧ (post (xs p1.toNatClampNeg) S)))
set_option maxHeartbeats 4000000 in
set_option maxRecDepth 100000 in
theorem meL_cell {b : Nat} (l : Launch) (G : GT) (S : Mem) (L : Nat) (xs : Nat → Int32) (p1 : Int32) (post : Int32 → Mem → Prop) (hw : wpL_cell S L xs p1 post) : CNs emI l yL_cell (wsU yL_cell cL_cell 2 (some .int)) rmL_cell 0 0 G b L xs [.ref b, .int p1] S post := by
  refine cs_open RL rfl (by decide +kernel) (Nat.le_of_ble_eq_true rfl) ?_
  intro p e s m args below meth c A X h hr hX hbl hbA ls hl
  have hl : lv_has ls 2 [(0, .ref b), (1, .int p1)] := hl
  have hx := X.1
  have hb := X.2.1
  have hown := X.2.2.2.1
  unfold wpL_cell at hw
  refine lv_iload_n hx hb dL_cell_0 rfl (lv_at hl 1 rfl) ?_
  refine lv_aload_n hx hb dL_cell_1 rfl (lv_at hl 0 rfl) ?_
  refine va_slen hx hb hX hbl hbA h.2.2 dL_cell_2 ?_
  refine lv_icmp_ge (tgt := 12) hx hb dL_cell_3 (by decide) (fun c1 => ?_) (fun c1 => ?_)
  · have hw := hw.1 c1
    refine lv_ldc hx hb hown (X.hts q175) dL_cell_12 ?_
    refine lv_iload_n hx hb dL_cell_14 rfl (lv_at hl 1 rfl) ?_
    refine lv_imul hx hb dL_cell_15 ?_
    exact (en_i X h hr hw (Nat.le_of_ble_eq_true rfl) (Nat.le_of_ble_eq_true rfl) dL_cell_16)
  · have hw := hw.2 c1
    refine lv_aload_n hx hb dL_cell_6 rfl (lv_at hl 0 rfl) ?_
    refine lv_iload_n hx hb dL_cell_7 rfl (lv_at hl 1 rfl) ?_
    obtain ⟨v2, hw⟩ := hw
    refine va_sld hx hb hX hbl hbA h.2.2 v2 dL_cell_8 ?_
    refine lv_goto (tgt := 16) hx hb dL_cell_9 (by decide) ?_
    exact (en_i X h hr hw (Nat.le_of_ble_eq_true rfl) (Nat.le_of_ble_eq_true rfl) dL_cell_16)
