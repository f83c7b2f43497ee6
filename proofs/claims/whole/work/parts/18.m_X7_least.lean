abbrev rmX7_least : Room := { frames := 4, cells := 0, slots := 0, locals := 92 }
def wlX7_least_207 (a0 : Nat) (p1 : Int32) (x3 : Int32) (post : Int32 → Mem → Prop) (J8 : Int32 → Mem → Prop) (J47 : Int32 → Mem → Prop) : Nat → Int32 → Int32 → Mem → Prop
  | 0 => fun _ _ _ => False
  | n + 1 => fun w3 w4 S => (x3 ≤ w4 → (post w3 S)) ∧ (¬ x3 ≤ w4 → (isK S a0 7 ∧ (∃ o8, mR S a0 21 = some o8 ∧ (isK S o8 8 ∧ (vp_in (((nI 8) * (((nI 1) <<< (x3 &&& 31)) - (nI 1))) + w4) (mN S o8) ∧ (∀ x11 : Int32, x11 = (mI S o8 (((nI 8) * (((nI 1) <<< (x3 &&& 31)) - (nI 1))) + w4).toNatClampNeg) → ((w3 ≤ x11 → (∀ x13 : Int32, x13 = (w4 + (nI 1)) → (wlX7_least_207 a0 p1 x3 post J8 J47 n w3 x13 S))) ∧ (¬ w3 ≤ x11 → (∀ x14 : Int32, x14 = (w4 + (nI 1)) → (wlX7_least_207 a0 p1 x3 post J8 J47 n x11 x14 S))))))))))
set_option maxHeartbeats 4000000 in
set_option maxRecDepth 100000 in
theorem llX7_least_207 {p : Program} {l : Launch} {e : Env} {s : State} {m : MethodId} {args : Array Value} {below : List Frame} {meth : Method} {c : Code} {G : GT} {A : Nat → Prop} (X : Cx p s m args meth c cX7_least 8 RX7 G A) (hr : meth.sig.returnType = (some .int)) (a0 : Nat) (p1 : Int32) (x3 : Int32) (post : Int32 → Mem → Prop) (J8 : Int32 → Mem → Prop) (J47 : Int32 → Mem → Prop) (hJ8 : ∀ (w3 : Int32) (S : Mem), J8 w3 S → ∀ (H : Heap) (locs : List Loc) (ls : Array Slot), Hx G A s.heap H locs S → lv_has ls 8 [(0, .ref a0), (1, .int p1), (2, .int x3), (3, .int w3)] → W p l e rmX7_least s m args below meth c H locs 0 0 (MQ below (QN emI post G A) args s 0 0 A) (F0 m 8 ls [])) (hJ47 : ∀ (w3 : Int32) (S : Mem), J47 w3 S → ∀ (H : Heap) (locs : List Loc) (ls : Array Slot), Hx G A s.heap H locs S → lv_has ls 8 [(0, .ref a0), (1, .int p1), (2, .int x3), (3, .int w3)] → W p l e rmX7_least s m args below meth c H locs 0 0 (MQ below (QN emI post G A) args s 0 0 A) (F0 m 47 ls [])) : ∀ (n : Nat) (w3 : Int32) (w4 : Int32) (S : Mem), wlX7_least_207 a0 p1 x3 post J8 J47 n w3 w4 S → ∀ (H : Heap) (locs : List Loc) (ls : Array Slot), Hx G A s.heap H locs S → lv_has ls 8 [(0, .ref a0), (1, .int p1), (2, .int x3), (3, .int w3), (4, .int w4)] → W p l e rmX7_least s m args below meth c H locs 0 0 (MQ below (QN emI post G A) args s 0 0 A) (F0 m 207 ls []) := by
  have hx := X.1
  have hb := X.2.1
  have hown := X.2.2.2.1
  intro n
  induction n with
  | zero =>
    intro _ _ _ hw
    exact hw.elim
  | succ n ih =>
    intro w3 w4 S hw H locs ls h hl
    refine lv_iload hx hb dX7_least_207 (lv_at hl 4 rfl) ?_
    refine lv_iload_n hx hb dX7_least_209 rfl (lv_at hl 2 rfl) ?_
    refine lv_icmp_ge (tgt := 250) hx hb dX7_least_210 (by decide) (fun c6 => ?_) (fun c6 => ?_)
    · have hw := hw.1 c6
      refine lv_iload_n hx hb dX7_least_250 rfl (lv_at hl 3 rfl) ?_
      exact (en_i X h hr hw (Nat.le_of_ble_eq_true rfl) (Nat.le_of_ble_eq_true rfl) dX7_least_251)
    · have hw := hw.2 c6
      refine lv_aload_n hx hb dX7_least_213 rfl (lv_at hl 0 rfl) ?_
      obtain ⟨k7, hw⟩ := hw
      obtain ⟨o8, eo8, hw⟩ := hw
      refine r_getR X h k7 21 eo8  (by decide) rfl inX7 (by decide) rfl q869 rfl dX7_least_214 ?_
      refine lv_bipush (v := (nI 8)) hx hb dX7_least_217 (by decide) ?_
      refine lv_iconst (v := (nI 1)) hx hb dX7_least_219 (by decide) ?_
      refine lv_iload_n hx hb dX7_least_220 rfl (lv_at hl 2 rfl) ?_
      refine lv_ishl hx hb dX7_least_221 ?_
      refine lv_iconst (v := (nI 1)) hx hb dX7_least_222 (by decide) ?_
      refine lv_isub hx hb dX7_least_223 ?_
      refine lv_imul hx hb dX7_least_224 ?_
      refine lv_iload hx hb dX7_least_225 (lv_at hl 4 rfl) ?_
      refine lv_iadd hx hb dX7_least_227 ?_
      obtain ⟨k9, hw⟩ := hw
      obtain ⟨v10, hw⟩ := hw
      refine r_iald X h k9 v10 dX7_least_228 ?_
      refine lv_topi (fun x11 ex11 => ?_)
      have hw := hw x11 ex11
      refine lv_istore (lv' := [(5, .int x11), (0, .ref a0), (1, .int p1), (2, .int x3), (3, .int w3), (4, .int w4)]) hx hb dX7_least_229 hl (by decide) rfl (fun ls hl => ?_)
      refine lv_iload hx hb dX7_least_231 (lv_at hl 0 rfl) ?_
      refine lv_iload_n hx hb dX7_least_233 rfl (lv_at hl 4 rfl) ?_
      refine lv_icmp_ge (tgt := 242) hx hb dX7_least_234 (by decide) (fun c12 => ?_) (fun c12 => ?_)
      · have hw := hw.1 c12
        refine lv_iload_n hx hb dX7_least_242 rfl (lv_at hl 4 rfl) ?_
        refine lv_istore_n (lv' := [(3, .int w3), (5, .int x11), (0, .ref a0), (1, .int p1), (2, .int x3), (4, .int w4)]) hx hb dX7_least_243 rfl hl (by decide) rfl (fun ls hl => ?_)
        obtain ⟨x13, ex13⟩ : ∃ y : Int32, y = (w4 + (nI 1)) := ⟨_, rfl⟩
        have hw := hw x13 ex13
        refine lv_iinc (v := x13) (lv' := [(4, .int x13), (3, .int w3), (5, .int x11), (0, .ref a0), (1, .int p1), (2, .int x3)]) hx hb dX7_least_244 hl (k := 5) rfl (by rw [ex13]; rfl) (by decide) rfl (fun ls hl => ?_)
        refine lv_goto (tgt := 207) hx hb dX7_least_247 (by decide) ?_
        exact ih _ _ _ hw _ _ _ h (lv_sub hl [3, 4, 5, 1, 0] rfl)
      · have hw := hw.2 c12
        refine lv_iload hx hb dX7_least_237 (lv_at hl 0 rfl) ?_
        refine lv_goto (tgt := 243) hx hb dX7_least_239 (by decide) ?_
        refine lv_istore_n (lv' := [(3, .int x11), (5, .int x11), (0, .ref a0), (1, .int p1), (2, .int x3), (4, .int w4)]) hx hb dX7_least_243 rfl hl (by decide) rfl (fun ls hl => ?_)
        obtain ⟨x14, ex14⟩ : ∃ y : Int32, y = (w4 + (nI 1)) := ⟨_, rfl⟩
        have hw := hw x14 ex14
        refine lv_iinc (v := x14) (lv' := [(4, .int x14), (3, .int x11), (5, .int x11), (0, .ref a0), (1, .int p1), (2, .int x3)]) hx hb dX7_least_244 hl (k := 5) rfl (by rw [ex14]; rfl) (by decide) rfl (fun ls hl => ?_)
        refine lv_goto (tgt := 207) hx hb dX7_least_247 (by decide) ?_
        exact ih _ _ _ hw _ _ _ h (lv_sub hl [3, 4, 5, 1, 0] rfl)
def wlX7_least_95 (a0 : Nat) (p1 : Int32) (x3 : Int32) (w3 : Int32) (w4 : Int32) (x18 : Int32) (post : Int32 → Mem → Prop) (J8 : Int32 → Mem → Prop) (J47 : Int32 → Mem → Prop) (J57 : Int32 → Mem → Prop) : Nat → Int32 → Int32 → Mem → Prop
  | 0 => fun _ _ _ => False
  | n + 1 => fun w6 w7 S => (x3 ≤ w7 → (isK S a0 7 ∧ (∃ o22, mR S a0 21 = some o22 ∧ (isK S o22 8 ∧ (vp_in (((nI 8) * w3) + w4) (mN S o22) ∧ (∀ S25 : Mem, S25 = (sI S o22 (((nI 8) * w3) + w4).toNatClampNeg w6) → (∀ x26 : Int32, x26 = (w4 + (nI 1)) → (J57 x26 S25)))))))) ∧ (¬ x3 ≤ w7 → ((x18 = w3 → (isK S a0 7 ∧ (∃ o29, mR S a0 21 = some o29 ∧ (isK S o29 8 ∧ (vp_in (((nI 8) * w3) + w4) (mN S o29) ∧ (∀ S32 : Mem, S32 = (sI S o29 (((nI 8) * w3) + w4).toNatClampNeg w6) → (∀ x33 : Int32, x33 = (w4 + (nI 1)) → (J57 x33 S32)))))))) ∧ (¬ x18 = w3 → ((¬ ((x18 >>> (w7 &&& 31)) &&& (nI 1)) = (nI 1) → (∀ x35 : Int32, x35 = (w7 + (nI 1)) → (wlX7_least_95 a0 p1 x3 w3 w4 x18 post J8 J47 J57 n w6 x35 S))) ∧ (((x18 >>> (w7 &&& 31)) &&& (nI 1)) = (nI 1) → (isK S a0 7 ∧ (∃ o37, mR S a0 21 = some o37 ∧ (isK S o37 8 ∧ (vp_in (((nI 8) * x18) + w7) (mN S o37) ∧ (wpX7_change S a0 w7 w4 (fun x41 S40 => (w6 ≤ ((mI S o37 (((nI 8) * x18) + w7).toNatClampNeg) + x41) → (∀ x43 : Int32, x43 = (w7 + (nI 1)) → (wlX7_least_95 a0 p1 x3 w3 w4 x18 post J8 J47 J57 n w6 x43 S40))) ∧ (¬ w6 ≤ ((mI S o37 (((nI 8) * x18) + w7).toNatClampNeg) + x41) → (isK S40 a0 7 ∧ (∃ o45, mR S40 a0 21 = some o45 ∧ (isK S40 o45 8 ∧ (vp_in (((nI 8) * x18) + w7) (mN S40 o45) ∧ (wpX7_change S40 a0 w7 w4 (fun x49 S48 => ∀ x50 : Int32, x50 = ((mI S40 o45 (((nI 8) * x18) + w7).toNatClampNeg) + x49) → (∀ x51 : Int32, x51 = (w7 + (nI 1)) → (wlX7_least_95 a0 p1 x3 w3 w4 x18 post J8 J47 J57 n x50 x51 S48))))))))))))))))))))
set_option maxHeartbeats 4000000 in
set_option maxRecDepth 100000 in
theorem llX7_least_95 {p : Program} {l : Launch} {e : Env} {s : State} {m : MethodId} {args : Array Value} {below : List Frame} {meth : Method} {c : Code} {G : GT} {A : Nat → Prop} (X : Cx p s m args meth c cX7_least 8 RX7 G A) (hr : meth.sig.returnType = (some .int)) (a0 : Nat) (p1 : Int32) (x3 : Int32) (w3 : Int32) (w4 : Int32) (x18 : Int32) (post : Int32 → Mem → Prop) (J8 : Int32 → Mem → Prop) (J47 : Int32 → Mem → Prop) (J57 : Int32 → Mem → Prop) (hJ8 : ∀ (w3 : Int32) (S : Mem), J8 w3 S → ∀ (H : Heap) (locs : List Loc) (ls : Array Slot), Hx G A s.heap H locs S → lv_has ls 8 [(0, .ref a0), (1, .int p1), (2, .int x3), (3, .int w3)] → W p l e rmX7_least s m args below meth c H locs 0 0 (MQ below (QN emI post G A) args s 0 0 A) (F0 m 8 ls [])) (hJ47 : ∀ (w3 : Int32) (S : Mem), J47 w3 S → ∀ (H : Heap) (locs : List Loc) (ls : Array Slot), Hx G A s.heap H locs S → lv_has ls 8 [(0, .ref a0), (1, .int p1), (2, .int x3), (3, .int w3)] → W p l e rmX7_least s m args below meth c H locs 0 0 (MQ below (QN emI post G A) args s 0 0 A) (F0 m 47 ls [])) (hJ57 : ∀ (w4 : Int32) (S : Mem), J57 w4 S → ∀ (H : Heap) (locs : List Loc) (ls : Array Slot), Hx G A s.heap H locs S → lv_has ls 8 [(0, .ref a0), (1, .int p1), (2, .int x3), (3, .int w3), (4, .int w4)] → W p l e rmX7_least s m args below meth c H locs 0 0 (MQ below (QN emI post G A) args s 0 0 A) (F0 m 57 ls [])) : ∀ (n : Nat) (w6 : Int32) (w7 : Int32) (S : Mem), wlX7_least_95 a0 p1 x3 w3 w4 x18 post J8 J47 J57 n w6 w7 S → ∀ (H : Heap) (locs : List Loc) (ls : Array Slot), Hx G A s.heap H locs S → lv_has ls 8 [(0, .ref a0), (1, .int p1), (2, .int x3), (3, .int w3), (4, .int w4), (5, .int x18), (6, .int w6), (7, .int w7)] → W p l e rmX7_least s m args below meth c H locs 0 0 (MQ below (QN emI post G A) args s 0 0 A) (F0 m 95 ls []) := by
  have hx := X.1
  have hb := X.2.1
  have hown := X.2.2.2.1
  intro n
  induction n with
  | zero =>
    intro _ _ _ hw
    exact hw.elim
  | succ n ih =>
    intro w6 w7 S hw H locs ls h hl
    refine lv_iload hx hb dX7_least_95 (lv_at hl 7 rfl) ?_
    refine lv_iload_n hx hb dX7_least_97 rfl (lv_at hl 2 rfl) ?_
    refine lv_icmp_ge (tgt := 175) hx hb dX7_least_98 (by decide) (fun c20 => ?_) (fun c20 => ?_)
    · have hw := hw.1 c20
      refine lv_aload_n hx hb dX7_least_175 rfl (lv_at hl 0 rfl) ?_
      obtain ⟨k21, hw⟩ := hw
      obtain ⟨o22, eo22, hw⟩ := hw
      refine r_getR X h k21 21 eo22  (by decide) rfl inX7 (by decide) rfl q869 rfl dX7_least_176 ?_
      refine lv_bipush (v := (nI 8)) hx hb dX7_least_179 (by decide) ?_
      refine lv_iload_n hx hb dX7_least_181 rfl (lv_at hl 3 rfl) ?_
      refine lv_imul hx hb dX7_least_182 ?_
      refine lv_iload hx hb dX7_least_183 (lv_at hl 4 rfl) ?_
      refine lv_iadd hx hb dX7_least_185 ?_
      refine lv_iload hx hb dX7_least_186 (lv_at hl 6 rfl) ?_
      obtain ⟨k23, hw⟩ := hw
      obtain ⟨v24, hw⟩ := hw
      refine r_iast X h k23 v24 dX7_least_188 (fun H locs h => ?_)
      obtain ⟨S25, eS25⟩ : ∃ z : Mem, z = (sI S o22 (((nI 8) * w3) + w4).toNatClampNeg w6) := ⟨_, rfl⟩
      rw [← eS25] at h
      have hw := hw S25 eS25
      obtain ⟨x26, ex26⟩ : ∃ y : Int32, y = (w4 + (nI 1)) := ⟨_, rfl⟩
      have hw := hw x26 ex26
      refine lv_iinc (v := x26) (lv' := [(4, .int x26), (0, .ref a0), (1, .int p1), (2, .int x3), (3, .int w3), (5, .int x18), (6, .int w6), (7, .int w7)]) hx hb dX7_least_189 hl (k := 4) rfl (by rw [ex26]; rfl) (by decide) rfl (fun ls hl => ?_)
      refine lv_goto (tgt := 57) hx hb dX7_least_192 (by decide) ?_
      exact hJ57 _ _ hw _ _ _ h (lv_sub hl [1, 2, 3, 4, 0] rfl)
    · have hw := hw.2 c20
      refine lv_iload hx hb dX7_least_101 (lv_at hl 5 rfl) ?_
      refine lv_iload_n hx hb dX7_least_103 rfl (lv_at hl 3 rfl) ?_
      refine lv_icmp_eq (tgt := 175) hx hb dX7_least_104 (by decide) (fun c27 => ?_) (fun c27 => ?_)
      · have hw := hw.1 c27
        refine lv_aload_n hx hb dX7_least_175 rfl (lv_at hl 0 rfl) ?_
        obtain ⟨k28, hw⟩ := hw
        obtain ⟨o29, eo29, hw⟩ := hw
        refine r_getR X h k28 21 eo29  (by decide) rfl inX7 (by decide) rfl q869 rfl dX7_least_176 ?_
        refine lv_bipush (v := (nI 8)) hx hb dX7_least_179 (by decide) ?_
        refine lv_iload_n hx hb dX7_least_181 rfl (lv_at hl 3 rfl) ?_
        refine lv_imul hx hb dX7_least_182 ?_
        refine lv_iload hx hb dX7_least_183 (lv_at hl 4 rfl) ?_
        refine lv_iadd hx hb dX7_least_185 ?_
        refine lv_iload hx hb dX7_least_186 (lv_at hl 6 rfl) ?_
        obtain ⟨k30, hw⟩ := hw
        obtain ⟨v31, hw⟩ := hw
        refine r_iast X h k30 v31 dX7_least_188 (fun H locs h => ?_)
        obtain ⟨S32, eS32⟩ : ∃ z : Mem, z = (sI S o29 (((nI 8) * w3) + w4).toNatClampNeg w6) := ⟨_, rfl⟩
        rw [← eS32] at h
        have hw := hw S32 eS32
        obtain ⟨x33, ex33⟩ : ∃ y : Int32, y = (w4 + (nI 1)) := ⟨_, rfl⟩
        have hw := hw x33 ex33
        refine lv_iinc (v := x33) (lv' := [(4, .int x33), (0, .ref a0), (1, .int p1), (2, .int x3), (3, .int w3), (5, .int x18), (6, .int w6), (7, .int w7)]) hx hb dX7_least_189 hl (k := 4) rfl (by rw [ex33]; rfl) (by decide) rfl (fun ls hl => ?_)
        refine lv_goto (tgt := 57) hx hb dX7_least_192 (by decide) ?_
        exact hJ57 _ _ hw _ _ _ h (lv_sub hl [1, 2, 3, 4, 0] rfl)
      · have hw := hw.2 c27
        refine lv_iload hx hb dX7_least_107 (lv_at hl 5 rfl) ?_
        refine lv_iload hx hb dX7_least_109 (lv_at hl 7 rfl) ?_
        refine lv_ishr hx hb dX7_least_111 ?_
        refine lv_iconst (v := (nI 1)) hx hb dX7_least_112 (by decide) ?_
        refine lv_iand hx hb dX7_least_113 ?_
        refine lv_iconst (v := (nI 1)) hx hb dX7_least_114 (by decide) ?_
        refine lv_icmp_ne (tgt := 169) hx hb dX7_least_115 (by decide) (fun c34 => ?_) (fun c34 => ?_)
        · have hw := hw.1 c34
          obtain ⟨x35, ex35⟩ : ∃ y : Int32, y = (w7 + (nI 1)) := ⟨_, rfl⟩
          have hw := hw x35 ex35
          refine lv_iinc (v := x35) (lv' := [(7, .int x35), (0, .ref a0), (1, .int p1), (2, .int x3), (3, .int w3), (4, .int w4), (5, .int x18), (6, .int w6)]) hx hb dX7_least_169 hl (k := 7) rfl (by rw [ex35]; rfl) (by decide) rfl (fun ls hl => ?_)
          refine lv_goto (tgt := 95) hx hb dX7_least_172 (by decide) ?_
          exact ih _ _ _ hw _ _ _ h (lv_sub hl [1, 2, 3, 4, 5, 6, 7, 0] rfl)
        · have hw := hw.2 c34
          refine lv_aload_n hx hb dX7_least_118 rfl (lv_at hl 0 rfl) ?_
          obtain ⟨k36, hw⟩ := hw
          obtain ⟨o37, eo37, hw⟩ := hw
          refine r_getR X h k36 21 eo37  (by decide) rfl inX7 (by decide) rfl q869 rfl dX7_least_119 ?_
          refine lv_bipush (v := (nI 8)) hx hb dX7_least_122 (by decide) ?_
          refine lv_iload hx hb dX7_least_124 (lv_at hl 5 rfl) ?_
          refine lv_imul hx hb dX7_least_126 ?_
          refine lv_iload hx hb dX7_least_127 (lv_at hl 7 rfl) ?_
          refine lv_iadd hx hb dX7_least_129 ?_
          obtain ⟨k38, hw⟩ := hw
          obtain ⟨v39, hw⟩ := hw
          refine r_iald X h k38 v39 dX7_least_130 ?_
          refine lv_aload_n hx hb dX7_least_131 rfl (lv_at hl 0 rfl) ?_
          refine lv_iload hx hb dX7_least_132 (lv_at hl 7 rfl) ?_
          refine lv_iload hx hb dX7_least_134 (lv_at hl 4 rfl) ?_
          refine rc_V (As := [.int w7, .int w4]) (rest := [.int (mI S o37 (((nI 8) * x18) + w7).toNatClampNeg)]) X h k36 (by decide) rfl (meX7_change l G _ _ _ _ _ hw) gV_X7_150 rfl rfl hdV_X7_change rfl ⟨Nat.le_of_ble_eq_true rfl, Nat.le_of_ble_eq_true rfl⟩ hl.1 rfl (Nat.le_of_ble_eq_true rfl) ⟨Nat.le_of_ble_eq_true rfl, Nat.le_of_ble_eq_true rfl⟩ dX7_least_136 (fun x41 S40 H locs hw h => ?_)
          refine lv_iadd hx hb dX7_least_139 ?_
          refine lv_iload hx hb dX7_least_140 (lv_at hl 6 rfl) ?_
          refine lv_icmp_ge (tgt := 169) hx hb dX7_least_142 (by decide) (fun c42 => ?_) (fun c42 => ?_)
          · have hw := hw.1 c42
            obtain ⟨x43, ex43⟩ : ∃ y : Int32, y = (w7 + (nI 1)) := ⟨_, rfl⟩
            have hw := hw x43 ex43
            refine lv_iinc (v := x43) (lv' := [(7, .int x43), (0, .ref a0), (1, .int p1), (2, .int x3), (3, .int w3), (4, .int w4), (5, .int x18), (6, .int w6)]) hx hb dX7_least_169 hl (k := 7) rfl (by rw [ex43]; rfl) (by decide) rfl (fun ls hl => ?_)
            refine lv_goto (tgt := 95) hx hb dX7_least_172 (by decide) ?_
            exact ih _ _ _ hw _ _ _ h (lv_sub hl [1, 2, 3, 4, 5, 6, 7, 0] rfl)
          · have hw := hw.2 c42
            refine lv_aload_n hx hb dX7_least_145 rfl (lv_at hl 0 rfl) ?_
            obtain ⟨k44, hw⟩ := hw
            obtain ⟨o45, eo45, hw⟩ := hw
            refine r_getR X h k44 21 eo45  (by decide) rfl inX7 (by decide) rfl q869 rfl dX7_least_146 ?_
            refine lv_bipush (v := (nI 8)) hx hb dX7_least_149 (by decide) ?_
            refine lv_iload hx hb dX7_least_151 (lv_at hl 5 rfl) ?_
            refine lv_imul hx hb dX7_least_153 ?_
            refine lv_iload hx hb dX7_least_154 (lv_at hl 7 rfl) ?_
            refine lv_iadd hx hb dX7_least_156 ?_
            obtain ⟨k46, hw⟩ := hw
            obtain ⟨v47, hw⟩ := hw
            refine r_iald X h k46 v47 dX7_least_157 ?_
            refine lv_aload_n hx hb dX7_least_158 rfl (lv_at hl 0 rfl) ?_
            refine lv_iload hx hb dX7_least_159 (lv_at hl 7 rfl) ?_
            refine lv_iload hx hb dX7_least_161 (lv_at hl 4 rfl) ?_
            refine rc_V (As := [.int w7, .int w4]) (rest := [.int (mI S40 o45 (((nI 8) * x18) + w7).toNatClampNeg)]) X h k44 (by decide) rfl (meX7_change l G _ _ _ _ _ hw) gV_X7_150 rfl rfl hdV_X7_change rfl ⟨Nat.le_of_ble_eq_true rfl, Nat.le_of_ble_eq_true rfl⟩ hl.1 rfl (Nat.le_of_ble_eq_true rfl) ⟨Nat.le_of_ble_eq_true rfl, Nat.le_of_ble_eq_true rfl⟩ dX7_least_163 (fun x49 S48 H locs hw h => ?_)
            refine lv_iadd hx hb dX7_least_166 ?_
            refine lv_topi (fun x50 ex50 => ?_)
            have hw := hw x50 ex50
            refine lv_istore (lv' := [(6, .int x50), (0, .ref a0), (1, .int p1), (2, .int x3), (3, .int w3), (4, .int w4), (5, .int x18), (7, .int w7)]) hx hb dX7_least_167 hl (by decide) rfl (fun ls hl => ?_)
            obtain ⟨x51, ex51⟩ : ∃ y : Int32, y = (w7 + (nI 1)) := ⟨_, rfl⟩
            have hw := hw x51 ex51
            refine lv_iinc (v := x51) (lv' := [(7, .int x51), (6, .int x50), (0, .ref a0), (1, .int p1), (2, .int x3), (3, .int w3), (4, .int w4), (5, .int x18)]) hx hb dX7_least_169 hl (k := 7) rfl (by rw [ex51]; rfl) (by decide) rfl (fun ls hl => ?_)
            refine lv_goto (tgt := 95) hx hb dX7_least_172 (by decide) ?_
            exact ih _ _ _ hw _ _ _ h (lv_sub hl [2, 3, 4, 5, 6, 7, 1, 0] rfl)
def wlX7_least_57 (a0 : Nat) (p1 : Int32) (x3 : Int32) (w3 : Int32) (post : Int32 → Mem → Prop) (J8 : Int32 → Mem → Prop) (J47 : Int32 → Mem → Prop) : Nat → Int32 → Mem → Prop
  | 0 => fun _ _ => False
  | n + 1 => fun w4 S => (x3 ≤ w4 → (∀ x17 : Int32, x17 = (w3 + (nI 1)) → (J47 x17 S))) ∧ (¬ x3 ≤ w4 → (∀ x18 : Int32, x18 = (w3 &&& (((nI 1) <<< (w4 &&& 31)) ^^^ (-1 : Int32))) → ((¬ x18 = 0 → (∃ m, wlX7_least_95 a0 p1 x3 w3 w4 x18 post J8 J47 (fun w4 S => wlX7_least_57 a0 p1 x3 w3 post J8 J47 n w4 S) m (2147483647 : Int32) (nI 0) S)) ∧ (x18 = 0 → (isK S a0 7 ∧ (wpX7_ready S a0 p1 w4 (fun x55 S53 => ∃ m, wlX7_least_95 a0 p1 x3 w3 w4 x18 post J8 J47 (fun w4 S => wlX7_least_57 a0 p1 x3 w3 post J8 J47 n w4 S) m x55 (nI 0) S53)))))))
set_option maxHeartbeats 4000000 in
set_option maxRecDepth 100000 in
theorem llX7_least_57 {p : Program} {l : Launch} {e : Env} {s : State} {m : MethodId} {args : Array Value} {below : List Frame} {meth : Method} {c : Code} {G : GT} {A : Nat → Prop} (X : Cx p s m args meth c cX7_least 8 RX7 G A) (hr : meth.sig.returnType = (some .int)) (a0 : Nat) (p1 : Int32) (x3 : Int32) (w3 : Int32) (post : Int32 → Mem → Prop) (J8 : Int32 → Mem → Prop) (J47 : Int32 → Mem → Prop) (hJ8 : ∀ (w3 : Int32) (S : Mem), J8 w3 S → ∀ (H : Heap) (locs : List Loc) (ls : Array Slot), Hx G A s.heap H locs S → lv_has ls 8 [(0, .ref a0), (1, .int p1), (2, .int x3), (3, .int w3)] → W p l e rmX7_least s m args below meth c H locs 0 0 (MQ below (QN emI post G A) args s 0 0 A) (F0 m 8 ls [])) (hJ47 : ∀ (w3 : Int32) (S : Mem), J47 w3 S → ∀ (H : Heap) (locs : List Loc) (ls : Array Slot), Hx G A s.heap H locs S → lv_has ls 8 [(0, .ref a0), (1, .int p1), (2, .int x3), (3, .int w3)] → W p l e rmX7_least s m args below meth c H locs 0 0 (MQ below (QN emI post G A) args s 0 0 A) (F0 m 47 ls [])) : ∀ (n : Nat) (w4 : Int32) (S : Mem), wlX7_least_57 a0 p1 x3 w3 post J8 J47 n w4 S → ∀ (H : Heap) (locs : List Loc) (ls : Array Slot), Hx G A s.heap H locs S → lv_has ls 8 [(0, .ref a0), (1, .int p1), (2, .int x3), (3, .int w3), (4, .int w4)] → W p l e rmX7_least s m args below meth c H locs 0 0 (MQ below (QN emI post G A) args s 0 0 A) (F0 m 57 ls []) := by
  have hx := X.1
  have hb := X.2.1
  have hown := X.2.2.2.1
  intro n
  induction n with
  | zero =>
    intro _ _ hw
    exact hw.elim
  | succ n ih =>
    intro w4 S hw H locs ls h hl
    refine lv_iload hx hb dX7_least_57 (lv_at hl 4 rfl) ?_
    refine lv_iload_n hx hb dX7_least_59 rfl (lv_at hl 2 rfl) ?_
    refine lv_icmp_ge (tgt := 195) hx hb dX7_least_60 (by decide) (fun c16 => ?_) (fun c16 => ?_)
    · have hw := hw.1 c16
      obtain ⟨x17, ex17⟩ : ∃ y : Int32, y = (w3 + (nI 1)) := ⟨_, rfl⟩
      have hw := hw x17 ex17
      refine lv_iinc (v := x17) (lv' := [(3, .int x17), (0, .ref a0), (1, .int p1), (2, .int x3), (4, .int w4)]) hx hb dX7_least_195 hl (k := 3) rfl (by rw [ex17]; rfl) (by decide) rfl (fun ls hl => ?_)
      refine lv_goto (tgt := 47) hx hb dX7_least_198 (by decide) ?_
      exact hJ47 _ _ hw _ _ _ h (lv_sub hl [1, 2, 3, 0] rfl)
    · have hw := hw.2 c16
      refine lv_iload_n hx hb dX7_least_63 rfl (lv_at hl 3 rfl) ?_
      refine lv_iconst (v := (nI 1)) hx hb dX7_least_64 (by decide) ?_
      refine lv_iload hx hb dX7_least_65 (lv_at hl 4 rfl) ?_
      refine lv_ishl hx hb dX7_least_67 ?_
      refine lv_iconst (v := (-1 : Int32)) hx hb dX7_least_68 (by decide) ?_
      refine lv_ixor hx hb dX7_least_69 ?_
      refine lv_iand hx hb dX7_least_70 ?_
      refine lv_topi (fun x18 ex18 => ?_)
      have hw := hw x18 ex18
      refine lv_istore (lv' := [(5, .int x18), (0, .ref a0), (1, .int p1), (2, .int x3), (3, .int w3), (4, .int w4)]) hx hb dX7_least_71 hl (by decide) rfl (fun ls hl => ?_)
      refine lv_iload hx hb dX7_least_73 (lv_at hl 0 rfl) ?_
      refine lv_if_ne (tgt := 88) hx hb dX7_least_75 (by decide) (fun c19 => ?_) (fun c19 => ?_)
      · have hw := hw.1 c19
        refine lv_ldc hx hb hown (X.hts q1055) dX7_least_88 ?_
        refine lv_istore (lv' := [(6, .int (2147483647 : Int32)), (5, .int x18), (0, .ref a0), (1, .int p1), (2, .int x3), (3, .int w3), (4, .int w4)]) hx hb dX7_least_90 hl (by decide) rfl (fun ls hl => ?_)
        refine lv_iconst (v := (nI 0)) hx hb dX7_least_92 (by decide) ?_
        refine lv_istore (lv' := [(7, .int (nI 0)), (6, .int (2147483647 : Int32)), (5, .int x18), (0, .ref a0), (1, .int p1), (2, .int x3), (3, .int w3), (4, .int w4)]) hx hb dX7_least_93 hl (by decide) rfl (fun ls hl => ?_)
        obtain ⟨n52, hw⟩ := hw
        exact llX7_least_95  X hr _ _ _ _ _ _ _ _ _ _ (fun w3 S hw H locs ls h hl => hJ8 w3 S hw H locs ls h hl) (fun w3 S hw H locs ls h hl => hJ47 w3 S hw H locs ls h hl) (fun w4 S hw H locs ls h hl => ih w4 S hw H locs ls h hl) n52 _ _ _ hw _ _ _ h (lv_sub hl [3, 4, 5, 6, 7, 2, 1, 0] rfl)
      · have hw := hw.2 c19
        refine lv_aload_n hx hb dX7_least_78 rfl (lv_at hl 1 rfl) ?_
        refine lv_iload_n hx hb dX7_least_79 rfl (lv_at hl 2 rfl) ?_
        refine lv_iload hx hb dX7_least_80 (lv_at hl 5 rfl) ?_
        obtain ⟨k54, hw⟩ := hw
        refine rc_V (As := [.int p1, .int w4]) (rest := []) X h k54 (by decide) rfl (meX7_ready l G _ _ _ _ _ hw) gV_X7_131 rfl rfl hdV_X7_ready rfl ⟨Nat.le_of_ble_eq_true rfl, Nat.le_of_ble_eq_true rfl⟩ hl.1 rfl (Nat.le_of_ble_eq_true rfl) ⟨Nat.le_of_ble_eq_true rfl, Nat.le_of_ble_eq_true rfl⟩ dX7_least_82 (fun x55 S53 H locs hw h => ?_)
        refine lv_goto (tgt := 90) hx hb dX7_least_85 (by decide) ?_
        refine lv_istore (lv' := [(6, .int x55), (5, .int x18), (0, .ref a0), (1, .int p1), (2, .int x3), (3, .int w3), (4, .int w4)]) hx hb dX7_least_90 hl (by decide) rfl (fun ls hl => ?_)
        refine lv_iconst (v := (nI 0)) hx hb dX7_least_92 (by decide) ?_
        refine lv_istore (lv' := [(7, .int (nI 0)), (6, .int x55), (5, .int x18), (0, .ref a0), (1, .int p1), (2, .int x3), (3, .int w3), (4, .int w4)]) hx hb dX7_least_93 hl (by decide) rfl (fun ls hl => ?_)
        obtain ⟨n56, hw⟩ := hw
        exact llX7_least_95  X hr _ _ _ _ _ _ _ _ _ _ (fun w3 S hw H locs ls h hl => hJ8 w3 S hw H locs ls h hl) (fun w3 S hw H locs ls h hl => hJ47 w3 S hw H locs ls h hl) (fun w4 S hw H locs ls h hl => ih w4 S hw H locs ls h hl) n56 _ _ _ hw _ _ _ h (lv_sub hl [3, 4, 5, 6, 7, 2, 1, 0] rfl)
def wlX7_least_47 (a0 : Nat) (p1 : Int32) (x3 : Int32) (post : Int32 → Mem → Prop) (J8 : Int32 → Mem → Prop) : Nat → Int32 → Mem → Prop
  | 0 => fun _ _ => False
  | n + 1 => fun w3 S => (((nI 1) <<< (x3 &&& 31)) ≤ w3 → (∃ m, wlX7_least_207 a0 p1 x3 post J8 (fun w3 S => wlX7_least_47 a0 p1 x3 post J8 n w3 S) m (2147483647 : Int32) (nI 0) S)) ∧ (¬ ((nI 1) <<< (x3 &&& 31)) ≤ w3 → (∃ m, wlX7_least_57 a0 p1 x3 w3 post J8 (fun w3 S => wlX7_least_47 a0 p1 x3 post J8 n w3 S) m (nI 0) S))
set_option maxHeartbeats 4000000 in
set_option maxRecDepth 100000 in
theorem llX7_least_47 {p : Program} {l : Launch} {e : Env} {s : State} {m : MethodId} {args : Array Value} {below : List Frame} {meth : Method} {c : Code} {G : GT} {A : Nat → Prop} (X : Cx p s m args meth c cX7_least 8 RX7 G A) (hr : meth.sig.returnType = (some .int)) (a0 : Nat) (p1 : Int32) (x3 : Int32) (post : Int32 → Mem → Prop) (J8 : Int32 → Mem → Prop) (hJ8 : ∀ (w3 : Int32) (S : Mem), J8 w3 S → ∀ (H : Heap) (locs : List Loc) (ls : Array Slot), Hx G A s.heap H locs S → lv_has ls 8 [(0, .ref a0), (1, .int p1), (2, .int x3), (3, .int w3)] → W p l e rmX7_least s m args below meth c H locs 0 0 (MQ below (QN emI post G A) args s 0 0 A) (F0 m 8 ls [])) : ∀ (n : Nat) (w3 : Int32) (S : Mem), wlX7_least_47 a0 p1 x3 post J8 n w3 S → ∀ (H : Heap) (locs : List Loc) (ls : Array Slot), Hx G A s.heap H locs S → lv_has ls 8 [(0, .ref a0), (1, .int p1), (2, .int x3), (3, .int w3)] → W p l e rmX7_least s m args below meth c H locs 0 0 (MQ below (QN emI post G A) args s 0 0 A) (F0 m 47 ls []) := by
  have hx := X.1
  have hb := X.2.1
  have hown := X.2.2.2.1
  intro n
  induction n with
  | zero =>
    intro _ _ hw
    exact hw.elim
  | succ n ih =>
    intro w3 S hw H locs ls h hl
    refine lv_iload_n hx hb dX7_least_47 rfl (lv_at hl 3 rfl) ?_
    refine lv_iconst (v := (nI 1)) hx hb dX7_least_48 (by decide) ?_
    refine lv_iload_n hx hb dX7_least_49 rfl (lv_at hl 2 rfl) ?_
    refine lv_ishl hx hb dX7_least_50 ?_
    refine lv_icmp_ge (tgt := 201) hx hb dX7_least_51 (by decide) (fun c5 => ?_) (fun c5 => ?_)
    · have hw := hw.1 c5
      refine lv_ldc hx hb hown (X.hts q1055) dX7_least_201 ?_
      refine lv_istore_n (lv' := [(3, .int (2147483647 : Int32)), (0, .ref a0), (1, .int p1), (2, .int x3)]) hx hb dX7_least_203 rfl hl (by decide) rfl (fun ls hl => ?_)
      refine lv_iconst (v := (nI 0)) hx hb dX7_least_204 (by decide) ?_
      refine lv_istore (lv' := [(4, .int (nI 0)), (3, .int (2147483647 : Int32)), (0, .ref a0), (1, .int p1), (2, .int x3)]) hx hb dX7_least_205 hl (by decide) rfl (fun ls hl => ?_)
      obtain ⟨n15, hw⟩ := hw
      exact llX7_least_207  X hr _ _ _ _ _ _ (fun w3 S hw H locs ls h hl => hJ8 w3 S hw H locs ls h hl) (fun w3 S hw H locs ls h hl => ih w3 S hw H locs ls h hl) n15 _ _ _ hw _ _ _ h (lv_sub hl [2, 3, 4, 1, 0] rfl)
    · have hw := hw.2 c5
      refine lv_iconst (v := (nI 0)) hx hb dX7_least_54 (by decide) ?_
      refine lv_istore (lv' := [(4, .int (nI 0)), (0, .ref a0), (1, .int p1), (2, .int x3), (3, .int w3)]) hx hb dX7_least_55 hl (by decide) rfl (fun ls hl => ?_)
      obtain ⟨n57, hw⟩ := hw
      exact llX7_least_57  X hr _ _ _ _ _ _ _ (fun w3 S hw H locs ls h hl => hJ8 w3 S hw H locs ls h hl) (fun w3 S hw H locs ls h hl => ih w3 S hw H locs ls h hl) n57 _ _ hw _ _ _ h (lv_sub hl [1, 2, 3, 4, 0] rfl)
def wlX7_least_8 (a0 : Nat) (p1 : Int32) (x3 : Int32) (post : Int32 → Mem → Prop)  : Nat → Int32 → Mem → Prop
  | 0 => fun _ _ => False
  | n + 1 => fun w3 S => (x3 ≤ w3 → (∃ m, wlX7_least_47 a0 p1 x3 post (fun w3 S => wlX7_least_8 a0 p1 x3 post n w3 S) m (nI 1) S)) ∧ (¬ x3 ≤ w3 → (isK S a0 7 ∧ (∃ o60, mR S a0 19 = some o60 ∧ (wpX7_plateOf S a0 p1 w3 (nI 1) (fun x62 S61 => isK S61 o60 8 ∧ (vp_in w3 (mN S61 o60) ∧ (∀ S65 : Mem, S65 = (sI S61 o60 w3.toNatClampNeg x62) → (isK S65 a0 7 ∧ (∃ o67, mR S65 a0 20 = some o67 ∧ (wpX7_plateOf S65 a0 p1 w3 (nI 0) (fun x69 S68 => isK S68 o67 8 ∧ (vp_in w3 (mN S68 o67) ∧ (∀ S72 : Mem, S72 = (sI S68 o67 w3.toNatClampNeg x69) → (∀ x73 : Int32, x73 = (w3 + (nI 1)) → (wlX7_least_8 a0 p1 x3 post n x73 S72)))))))))))))))
set_option maxHeartbeats 4000000 in
set_option maxRecDepth 100000 in
theorem llX7_least_8 {p : Program} {l : Launch} {e : Env} {s : State} {m : MethodId} {args : Array Value} {below : List Frame} {meth : Method} {c : Code} {G : GT} {A : Nat → Prop} (X : Cx p s m args meth c cX7_least 8 RX7 G A) (hr : meth.sig.returnType = (some .int)) (a0 : Nat) (p1 : Int32) (x3 : Int32) (post : Int32 → Mem → Prop)   : ∀ (n : Nat) (w3 : Int32) (S : Mem), wlX7_least_8 a0 p1 x3 post n w3 S → ∀ (H : Heap) (locs : List Loc) (ls : Array Slot), Hx G A s.heap H locs S → lv_has ls 8 [(0, .ref a0), (1, .int p1), (2, .int x3), (3, .int w3)] → W p l e rmX7_least s m args below meth c H locs 0 0 (MQ below (QN emI post G A) args s 0 0 A) (F0 m 8 ls []) := by
  have hx := X.1
  have hb := X.2.1
  have hown := X.2.2.2.1
  intro n
  induction n with
  | zero =>
    intro _ _ hw
    exact hw.elim
  | succ n ih =>
    intro w3 S hw H locs ls h hl
    refine lv_iload_n hx hb dX7_least_8 rfl (lv_at hl 3 rfl) ?_
    refine lv_iload_n hx hb dX7_least_9 rfl (lv_at hl 2 rfl) ?_
    refine lv_icmp_ge (tgt := 45) hx hb dX7_least_10 (by decide) (fun c4 => ?_) (fun c4 => ?_)
    · have hw := hw.1 c4
      refine lv_iconst (v := (nI 1)) hx hb dX7_least_45 (by decide) ?_
      refine lv_istore_n (lv' := [(3, .int (nI 1)), (0, .ref a0), (1, .int p1), (2, .int x3)]) hx hb dX7_least_46 rfl hl (by decide) rfl (fun ls hl => ?_)
      obtain ⟨n58, hw⟩ := hw
      exact llX7_least_47  X hr _ _ _ _ _ (fun w3 S hw H locs ls h hl => ih w3 S hw H locs ls h hl) n58 _ _ hw _ _ _ h (lv_sub hl [1, 2, 3, 0] rfl)
    · have hw := hw.2 c4
      refine lv_aload_n hx hb dX7_least_13 rfl (lv_at hl 0 rfl) ?_
      obtain ⟨k59, hw⟩ := hw
      obtain ⟨o60, eo60, hw⟩ := hw
      refine r_getR X h k59 19 eo60  (by decide) rfl inX7 (by decide) rfl q867 rfl dX7_least_14 ?_
      refine lv_iload_n hx hb dX7_least_17 rfl (lv_at hl 3 rfl) ?_
      refine lv_aload_n hx hb dX7_least_18 rfl (lv_at hl 0 rfl) ?_
      refine lv_iload_n hx hb dX7_least_19 rfl (lv_at hl 1 rfl) ?_
      refine lv_iload_n hx hb dX7_least_20 rfl (lv_at hl 3 rfl) ?_
      refine lv_iconst (v := (nI 1)) hx hb dX7_least_21 (by decide) ?_
      refine rc_V (As := [.int p1, .int w3, .int (nI 1)]) (rest := [.int w3, .ref o60]) X h k59 (by decide) rfl (meX7_plateOf l G _ _ _ _ _ _ hw) gV_X7_118 rfl rfl hdV_X7_plateOf rfl ⟨Nat.le_of_ble_eq_true rfl, Nat.le_of_ble_eq_true rfl⟩ hl.1 rfl (Nat.le_of_ble_eq_true rfl) ⟨Nat.le_of_ble_eq_true rfl, Nat.le_of_ble_eq_true rfl⟩ dX7_least_22 (fun x62 S61 H locs hw h => ?_)
      obtain ⟨k63, hw⟩ := hw
      obtain ⟨v64, hw⟩ := hw
      refine r_iast X h k63 v64 dX7_least_25 (fun H locs h => ?_)
      obtain ⟨S65, eS65⟩ : ∃ z : Mem, z = (sI S61 o60 w3.toNatClampNeg x62) := ⟨_, rfl⟩
      rw [← eS65] at h
      have hw := hw S65 eS65
      refine lv_aload_n hx hb dX7_least_26 rfl (lv_at hl 0 rfl) ?_
      obtain ⟨k66, hw⟩ := hw
      obtain ⟨o67, eo67, hw⟩ := hw
      refine r_getR X h k66 20 eo67  (by decide) rfl inX7 (by decide) rfl q868 rfl dX7_least_27 ?_
      refine lv_iload_n hx hb dX7_least_30 rfl (lv_at hl 3 rfl) ?_
      refine lv_aload_n hx hb dX7_least_31 rfl (lv_at hl 0 rfl) ?_
      refine lv_iload_n hx hb dX7_least_32 rfl (lv_at hl 1 rfl) ?_
      refine lv_iload_n hx hb dX7_least_33 rfl (lv_at hl 3 rfl) ?_
      refine lv_iconst (v := (nI 0)) hx hb dX7_least_34 (by decide) ?_
      refine rc_V (As := [.int p1, .int w3, .int (nI 0)]) (rest := [.int w3, .ref o67]) X h k66 (by decide) rfl (meX7_plateOf l G _ _ _ _ _ _ hw) gV_X7_118 rfl rfl hdV_X7_plateOf rfl ⟨Nat.le_of_ble_eq_true rfl, Nat.le_of_ble_eq_true rfl⟩ hl.1 rfl (Nat.le_of_ble_eq_true rfl) ⟨Nat.le_of_ble_eq_true rfl, Nat.le_of_ble_eq_true rfl⟩ dX7_least_35 (fun x69 S68 H locs hw h => ?_)
      obtain ⟨k70, hw⟩ := hw
      obtain ⟨v71, hw⟩ := hw
      refine r_iast X h k70 v71 dX7_least_38 (fun H locs h => ?_)
      obtain ⟨S72, eS72⟩ : ∃ z : Mem, z = (sI S68 o67 w3.toNatClampNeg x69) := ⟨_, rfl⟩
      rw [← eS72] at h
      have hw := hw S72 eS72
      obtain ⟨x73, ex73⟩ : ∃ y : Int32, y = (w3 + (nI 1)) := ⟨_, rfl⟩
      have hw := hw x73 ex73
      refine lv_iinc (v := x73) (lv' := [(3, .int x73), (0, .ref a0), (1, .int p1), (2, .int x3)]) hx hb dX7_least_39 hl (k := 3) rfl (by rw [ex73]; rfl) (by decide) rfl (fun ls hl => ?_)
      refine lv_goto (tgt := 8) hx hb dX7_least_42 (by decide) ?_
      exact ih _ _ hw _ _ _ h (lv_sub hl [1, 2, 3, 0] rfl)
def wpX7_least (S : Mem) (a0 : Nat) (p1 : Int32) (post : Int32 → Mem → Prop) : Prop := isK S a0 7 ∧ (wpX7_count S a0 p1 (fun x3 S1 => ∃ m, wlX7_least_8 a0 p1 x3 post m (nI 0) S1))
set_option maxHeartbeats 4000000 in
set_option maxRecDepth 100000 in
theorem meX7_least (l : Launch) (G : GT) (S : Mem) (a0 : Nat) (p1 : Int32) (post : Int32 → Mem → Prop) (hw : wpX7_least S a0 p1 post) : CN emI l yX7_least (wsU yX7_least cX7_least 8 (some .int)) rmX7_least 0 0 G [.ref a0, .int p1] S post := by
  refine cn_open RX7 rfl (by decide +kernel) (Nat.le_of_ble_eq_true rfl) ?_
  intro p e s m args below meth c A X h hr hin ls hl
  have hl : lv_has ls 8 [(0, .ref a0), (1, .int p1)] := hl
  have hx := X.1
  have hb := X.2.1
  have hown := X.2.2.2.1
  unfold wpX7_least at hw
  refine lv_aload_n hx hb dX7_least_0 rfl (lv_at hl 0 rfl) ?_
  refine lv_iload_n hx hb dX7_least_1 rfl (lv_at hl 1 rfl) ?_
  obtain ⟨k2, hw⟩ := hw
  refine rc_V (As := [.int p1]) (rest := []) X h k2 (by decide) rfl (meX7_count l G _ _ _ _ hw) gV_X7_78 rfl rfl hdV_X7_count rfl ⟨Nat.le_of_ble_eq_true rfl, Nat.le_of_ble_eq_true rfl⟩ hl.1 rfl (Nat.le_of_ble_eq_true rfl) ⟨Nat.le_of_ble_eq_true rfl, Nat.le_of_ble_eq_true rfl⟩ dX7_least_2 (fun x3 S1 H locs hw h => ?_)
  refine lv_istore_n (lv' := [(2, .int x3), (0, .ref a0), (1, .int p1)]) hx hb dX7_least_5 rfl hl (by decide) rfl (fun ls hl => ?_)
  refine lv_iconst (v := (nI 0)) hx hb dX7_least_6 (by decide) ?_
  refine lv_istore_n (lv' := [(3, .int (nI 0)), (2, .int x3), (0, .ref a0), (1, .int p1)]) hx hb dX7_least_7 rfl hl (by decide) rfl (fun ls hl => ?_)
  obtain ⟨n74, hw⟩ := hw
  exact llX7_least_8  X hr _ _ _ _ n74 _ _ hw _ _ _ h (lv_sub hl [2, 3, 1, 0] rfl)
abbrev rmX7_leastMakeready : Room := { frames := 5, cells := 0, slots := 0, locals := 119 }
def wpX7_leastMakeready (S : Mem) (a0 : Nat) (p1 : Int32) (post : Int32 → Mem → Prop) : Prop := isK S a0 7 ∧ (wpX7_isJob S a0 p1 (fun x3 S1 => (x3 = 0 → (post (nI 0) S1)) ∧ (¬ x3 = 0 → (isK S1 a0 7 ∧ (wpX7_least S1 a0 p1 (fun x7 S5 => post x7 S5))))))
set_option maxHeartbeats 4000000 in
set_option maxRecDepth 100000 in
theorem meX7_leastMakeready (l : Launch) (G : GT) (S : Mem) (a0 : Nat) (p1 : Int32) (post : Int32 → Mem → Prop) (hw : wpX7_leastMakeready S a0 p1 post) : CN emI l yX7_leastMakeready (wsU yX7_leastMakeready cX7_leastMakeready 2 (some .int)) rmX7_leastMakeready 0 0 G [.ref a0, .int p1] S post := by
  refine cn_open RX7 rfl (by decide +kernel) (Nat.le_of_ble_eq_true rfl) ?_
  intro p e s m args below meth c A X h hr hin ls hl
  have hl : lv_has ls 2 [(0, .ref a0), (1, .int p1)] := hl
  have hx := X.1
  have hb := X.2.1
  have hown := X.2.2.2.1
  unfold wpX7_leastMakeready at hw
  refine lv_aload_n hx hb dX7_leastMakeready_0 rfl (lv_at hl 0 rfl) ?_
  refine lv_iload_n hx hb dX7_leastMakeready_1 rfl (lv_at hl 1 rfl) ?_
  obtain ⟨k2, hw⟩ := hw
  refine rc_V (As := [.int p1]) (rest := []) X h k2 (by decide) rfl (meX7_isJob l G _ _ _ _ hw) gV_X7_75 rfl rfl hdV_X7_isJob rfl ⟨Nat.le_of_ble_eq_true rfl, Nat.le_of_ble_eq_true rfl⟩ hl.1 rfl (Nat.le_of_ble_eq_true rfl) ⟨Nat.le_of_ble_eq_true rfl, Nat.le_of_ble_eq_true rfl⟩ dX7_leastMakeready_2 (fun x3 S1 H locs hw h => ?_)
  refine lv_if_eq (tgt := 16) hx hb dX7_leastMakeready_5 (by decide) (fun c4 => ?_) (fun c4 => ?_)
  · have hw := hw.1 c4
    refine lv_iconst (v := (nI 0)) hx hb dX7_leastMakeready_16 (by decide) ?_
    exact (en_i X h hr hw (Nat.le_of_ble_eq_true rfl) (Nat.le_of_ble_eq_true rfl) dX7_leastMakeready_17)
  · have hw := hw.2 c4
    refine lv_aload_n hx hb dX7_leastMakeready_8 rfl (lv_at hl 0 rfl) ?_
    refine lv_iload_n hx hb dX7_leastMakeready_9 rfl (lv_at hl 1 rfl) ?_
    obtain ⟨k6, hw⟩ := hw
    refine rc_V (As := [.int p1]) (rest := []) X h k6 (by decide) rfl (meX7_least l G _ _ _ _ hw) gV_X7_153 rfl rfl hdV_X7_least rfl ⟨Nat.le_of_ble_eq_true rfl, Nat.le_of_ble_eq_true rfl⟩ hl.1 rfl (Nat.le_of_ble_eq_true rfl) ⟨Nat.le_of_ble_eq_true rfl, Nat.le_of_ble_eq_true rfl⟩ dX7_leastMakeready_10 (fun x7 S5 H locs hw h => ?_)
    refine lv_goto (tgt := 17) hx hb dX7_leastMakeready_13 (by decide) ?_
    exact (en_i X h hr hw (Nat.le_of_ble_eq_true rfl) (Nat.le_of_ble_eq_true rfl) dX7_leastMakeready_17)
def rmR (d : Nat) : Room := { frames := d + 10, cells := 0, slots := 0, locals := 40 * d + 200 }
def wlX3_leastOfRest_22 (a0 : Nat) (a1 : Nat) (p2 : Int32) (p3 : Int32) (p4 : Int32) (p5 : Int32)  (rec : Mem → Nat → Nat → Int32 → Int32 → Int32 → Int32 → (Int32 → Mem → Prop) → Prop) (post : Int32 → Mem → Prop)  : Nat → Int32 → Int32 → Mem → Prop
  | 0 => fun _ _ _ => False
  | n + 1 => fun w6 w7 S => (p2 ≤ w7 → (post w6 S)) ∧ (¬ p2 ≤ w7 → (∀ x4 : Int32, x4 = ((nI 1) <<< (w7 &&& 31)) → ((¬ (p3 &&& x4) = 0 → (∀ x6 : Int32, x6 = (w7 + (nI 1)) → (wlX3_leastOfRest_22 a0 a1 p2 p3 p4 p5 rec post n w6 x6 S))) ∧ ((p3 &&& x4) = 0 → (wpX3_change S a0 a1 p4 w7 (fun x8 S7 => rec S7 a0 a1 p2 (p3 ||| x4) w7 (p5 + (nI 1)) (fun x10 S9 => ∀ x11 : Int32, x11 = (x8 + x10) → (∀ x12 : Int32, x12 = (if x11 < w6 then x11 else w6) → (∀ x13 : Int32, x13 = (w7 + (nI 1)) → (wlX3_leastOfRest_22 a0 a1 p2 p3 p4 p5 rec post n x12 x13 S9))))))))))
set_option maxHeartbeats 4000000 in
set_option maxRecDepth 100000 in
theorem llX3_leastOfRest_22 {p : Program} {l : Launch} {e : Env} {s : State} {m : MethodId} {args : Array Value} {below : List Frame} {meth : Method} {c : Code} {G : GT} {A : Nat → Prop} {d : Nat} (X : Cx p s m args meth c cX3_leastOfRest 10 RX3 G A) (hr : meth.sig.returnType = (some .int)) (a0 : Nat) (a1 : Nat) (p2 : Int32) (p3 : Int32) (p4 : Int32) (p5 : Int32)  (rec : Mem → Nat → Nat → Int32 → Int32 → Int32 → Int32 → (Int32 → Mem → Prop) → Prop) (post : Int32 → Mem → Prop)  (ihd : ∀ (S : Mem) (a0 : Nat) (a1 : Nat) (p2 : Int32) (p3 : Int32) (p4 : Int32) (p5 : Int32) (post : Int32 → Mem → Prop), rec S a0 a1 p2 p3 p4 p5 post → CN emI l yX3_leastOfRest (wsU yX3_leastOfRest cX3_leastOfRest 10 (some .int)) (rmR d) 0 0 G [.ref a0, .ref a1, .int p2, .int p3, .int p4, .int p5] S post)  : ∀ (n : Nat) (w6 : Int32) (w7 : Int32) (S : Mem), wlX3_leastOfRest_22 a0 a1 p2 p3 p4 p5 rec post n w6 w7 S → ∀ (H : Heap) (locs : List Loc) (ls : Array Slot), Hx G A s.heap H locs S → lv_has ls 10 [(0, .ref a0), (1, .ref a1), (2, .int p2), (3, .int p3), (4, .int p4), (5, .int p5), (6, .int w6), (7, .int w7)] → W p l e (rmR (d + 1)) s m args below meth c H locs 0 0 (MQ below (QN emI post G A) args s 0 0 A) (F0 m 22 ls []) := by
  have hx := X.1
  have hb := X.2.1
  have hown := X.2.2.2.1
  intro n
  induction n with
  | zero =>
    intro _ _ _ hw
    exact hw.elim
  | succ n ih =>
    intro w6 w7 S hw H locs ls h hl
    refine lv_iload hx hb dX3_leastOfRest_22 (lv_at hl 7 rfl) ?_
    refine lv_iload_n hx hb dX3_leastOfRest_24 rfl (lv_at hl 2 rfl) ?_
    refine lv_icmp_ge (tgt := 84) hx hb dX3_leastOfRest_25 (by decide) (fun c3 => ?_) (fun c3 => ?_)
    · have hw := hw.1 c3
      refine lv_iload hx hb dX3_leastOfRest_84 (lv_at hl 6 rfl) ?_
      exact (en_i X h hr hw (Nat.le_of_ble_eq_true rfl) (Nat.le_of_ble_eq_true rfl) dX3_leastOfRest_86)
    · have hw := hw.2 c3
      refine lv_iconst (v := (nI 1)) hx hb dX3_leastOfRest_28 (by decide) ?_
      refine lv_iload hx hb dX3_leastOfRest_29 (lv_at hl 7 rfl) ?_
      refine lv_ishl hx hb dX3_leastOfRest_31 ?_
      refine lv_topi (fun x4 ex4 => ?_)
      have hw := hw x4 ex4
      refine lv_istore (lv' := [(8, .int x4), (0, .ref a0), (1, .ref a1), (2, .int p2), (3, .int p3), (4, .int p4), (5, .int p5), (6, .int w6), (7, .int w7)]) hx hb dX3_leastOfRest_32 hl (by decide) rfl (fun ls hl => ?_)
      refine lv_iload_n hx hb dX3_leastOfRest_34 rfl (lv_at hl 4 rfl) ?_
      refine lv_iload hx hb dX3_leastOfRest_35 (lv_at hl 0 rfl) ?_
      refine lv_iand hx hb dX3_leastOfRest_37 ?_
      refine lv_if_ne (tgt := 78) hx hb dX3_leastOfRest_38 (by decide) (fun c5 => ?_) (fun c5 => ?_)
      · have hw := hw.1 c5
        obtain ⟨x6, ex6⟩ : ∃ y : Int32, y = (w7 + (nI 1)) := ⟨_, rfl⟩
        have hw := hw x6 ex6
        refine lv_iinc (v := x6) (lv' := [(7, .int x6), (8, .int x4), (0, .ref a0), (1, .ref a1), (2, .int p2), (3, .int p3), (4, .int p4), (5, .int p5), (6, .int w6)]) hx hb dX3_leastOfRest_78 hl (k := 8) rfl (by rw [ex6]; rfl) (by decide) rfl (fun ls hl => ?_)
        refine lv_goto (tgt := 22) hx hb dX3_leastOfRest_81 (by decide) ?_
        exact ih _ _ _ hw _ _ _ h (lv_sub hl [2, 3, 4, 5, 6, 7, 8, 0] rfl)
      · have hw := hw.2 c5
        refine lv_aload_n hx hb dX3_leastOfRest_41 rfl (lv_at hl 1 rfl) ?_
        refine lv_aload_n hx hb dX3_leastOfRest_42 rfl (lv_at hl 2 rfl) ?_
        refine lv_iload hx hb dX3_leastOfRest_43 (lv_at hl 5 rfl) ?_
        refine lv_iload hx hb dX3_leastOfRest_45 (lv_at hl 8 rfl) ?_
        refine rc_S (As := [.ref a0, .ref a1, .int p4, .int w7]) (rest := []) X h (meX3_change l G _ _ _ _ _ _ hw) gS_X3_46 rfl rfl hdS_X3_change rfl ⟨Nat.le_trans (m := 10) (Nat.le_of_ble_eq_true rfl) (by show 10 ≤ d + 1 + 10; omega), Nat.le_trans (m := 200) (Nat.le_of_ble_eq_true rfl) (by show 200 ≤ 40 * (d + 1) + 200; omega)⟩ hl.1 rfl (Nat.le_of_ble_eq_true rfl) ⟨Nat.le_refl _, Nat.le_refl _⟩ dX3_leastOfRest_47 (fun x8 S7 H locs hw h => ?_)
        refine lv_aload_n hx hb dX3_leastOfRest_50 rfl (lv_at hl 1 rfl) ?_
        refine lv_aload_n hx hb dX3_leastOfRest_51 rfl (lv_at hl 2 rfl) ?_
        refine lv_iload_n hx hb dX3_leastOfRest_52 rfl (lv_at hl 3 rfl) ?_
        refine lv_iload_n hx hb dX3_leastOfRest_53 rfl (lv_at hl 4 rfl) ?_
        refine lv_iload hx hb dX3_leastOfRest_54 (lv_at hl 0 rfl) ?_
        refine lv_ior hx hb dX3_leastOfRest_56 ?_
        refine lv_iload hx hb dX3_leastOfRest_57 (lv_at hl 8 rfl) ?_
        refine lv_iload hx hb dX3_leastOfRest_59 (lv_at hl 6 rfl) ?_
        refine lv_iconst (v := (nI 1)) hx hb dX3_leastOfRest_61 (by decide) ?_
        refine lv_iadd hx hb dX3_leastOfRest_62 ?_
        refine rc_S (As := [.ref a0, .ref a1, .int p2, .int (p3 ||| x4), .int w7, .int (p5 + (nI 1))]) (rest := [.int x8]) X h (ihd _ _ _ _ _ _ _ _ hw) gS_X3_50 rfl rfl hdS_X3_leastOfRest rfl ⟨(by show d + 10 + 1 ≤ d + 1 + 10; omega), (by show 8 + (10 + 11) + (40 * d + 200) ≤ 40 * (d + 1) + 200; omega)⟩ hl.1 rfl (Nat.le_of_ble_eq_true rfl) ⟨Nat.le_refl _, Nat.le_refl _⟩ dX3_leastOfRest_63 (fun x10 S9 H locs hw h => ?_)
        refine lv_iadd hx hb dX3_leastOfRest_66 ?_
        refine lv_topi (fun x11 ex11 => ?_)
        have hw := hw x11 ex11
        refine lv_istore (lv' := [(9, .int x11), (8, .int x4), (0, .ref a0), (1, .ref a1), (2, .int p2), (3, .int p3), (4, .int p4), (5, .int p5), (6, .int w6), (7, .int w7)]) hx hb dX3_leastOfRest_67 hl (by decide) rfl (fun ls hl => ?_)
        refine lv_iload hx hb dX3_leastOfRest_69 (lv_at hl 8 rfl) ?_
        refine lv_iload hx hb dX3_leastOfRest_71 (lv_at hl 0 rfl) ?_
        refine r_min X hl.1 q632 q633 q50 q634 ⟨Nat.le_trans (m := 10) (Nat.le_of_ble_eq_true rfl) (by show 10 ≤ d + 1 + 10; omega), Nat.le_trans (m := 200) (Nat.le_of_ble_eq_true rfl) (by show 200 ≤ 40 * (d + 1) + 200; omega)⟩ ⟨Nat.le_refl _, Nat.le_refl _⟩ dX3_leastOfRest_73 ?_
        refine lv_topi (fun x12 ex12 => ?_)
        have hw := hw x12 ex12
        refine lv_istore (lv' := [(6, .int x12), (9, .int x11), (8, .int x4), (0, .ref a0), (1, .ref a1), (2, .int p2), (3, .int p3), (4, .int p4), (5, .int p5), (7, .int w7)]) hx hb dX3_leastOfRest_76 hl (by decide) rfl (fun ls hl => ?_)
        obtain ⟨x13, ex13⟩ : ∃ y : Int32, y = (w7 + (nI 1)) := ⟨_, rfl⟩
        have hw := hw x13 ex13
        refine lv_iinc (v := x13) (lv' := [(7, .int x13), (6, .int x12), (9, .int x11), (8, .int x4), (0, .ref a0), (1, .ref a1), (2, .int p2), (3, .int p3), (4, .int p4), (5, .int p5)]) hx hb dX3_leastOfRest_78 hl (k := 9) rfl (by rw [ex13]; rfl) (by decide) rfl (fun ls hl => ?_)
        refine lv_goto (tgt := 22) hx hb dX3_leastOfRest_81 (by decide) ?_
        exact ih _ _ _ hw _ _ _ h (lv_sub hl [4, 5, 6, 7, 8, 9, 1, 0] rfl)
def wpX3_leastOfRest : Nat → Mem → Nat → Nat → Int32 → Int32 → Int32 → Int32 → (Int32 → Mem → Prop) → Prop
  | 0 => fun _ _ _ _ _ _ _ _ => False
  | d + 1 => fun S a0 a1 p2 p3 p4 p5 post => (p2 ≤ p5 → (post (nI 0) S)) ∧ (¬ p2 ≤ p5 → ((p5 < (nI 6) → (∃ m, wlX3_leastOfRest_22 a0 a1 p2 p3 p4 p5 (fun S a0 a1 p2 p3 p4 p5 post => wpX3_leastOfRest d S a0 a1 p2 p3 p4 p5 post) post m (1000000 : Int32) (nI 0) S)) ∧ (¬ p5 < (nI 6) → (post (nI 0) S))))
set_option maxHeartbeats 4000000 in
set_option maxRecDepth 100000 in
theorem meX3_leastOfRest (l : Launch) (G : GT) : ∀ (d : Nat) (S : Mem) (a0 : Nat) (a1 : Nat) (p2 : Int32) (p3 : Int32) (p4 : Int32) (p5 : Int32) (post : Int32 → Mem → Prop) (hw : wpX3_leastOfRest d S a0 a1 p2 p3 p4 p5 post), CN emI l yX3_leastOfRest (wsU yX3_leastOfRest cX3_leastOfRest 10 (some .int)) (rmR d) 0 0 G [.ref a0, .ref a1, .int p2, .int p3, .int p4, .int p5] S post := by
  intro d
  induction d with
  | zero =>
    intro S a0 a1 p2 p3 p4 p5 post hw
    exact hw.elim
  | succ d ihd =>
    intro S a0 a1 p2 p3 p4 p5 post hw
    refine cn_open RX3 rfl (by decide +kernel) (Nat.le_of_ble_eq_true rfl) ?_
    intro p e s m args below meth c A X h hr hin ls hl
    have hl : lv_has ls 10 [(0, .ref a0), (1, .ref a1), (2, .int p2), (3, .int p3), (4, .int p4), (5, .int p5)] := hl
    have hx := X.1
    have hb := X.2.1
    have hown := X.2.2.2.1
    unfold wpX3_leastOfRest at hw
    refine lv_iload hx hb dX3_leastOfRest_0 (lv_at hl 5 rfl) ?_
    refine lv_iload_n hx hb dX3_leastOfRest_2 rfl (lv_at hl 2 rfl) ?_
    refine lv_icmp_ge (tgt := 13) hx hb dX3_leastOfRest_3 (by decide) (fun c1 => ?_) (fun c1 => ?_)
    · have hw := hw.1 c1
      refine lv_iconst (v := (nI 0)) hx hb dX3_leastOfRest_13 (by decide) ?_
      exact (en_i X h hr hw (Nat.le_of_ble_eq_true rfl) (Nat.le_of_ble_eq_true rfl) dX3_leastOfRest_14)
    · have hw := hw.2 c1
      refine lv_iload hx hb dX3_leastOfRest_6 (lv_at hl 5 rfl) ?_
      refine lv_bipush (v := (nI 6)) hx hb dX3_leastOfRest_8 (by decide) ?_
      refine lv_icmp_lt (tgt := 15) hx hb dX3_leastOfRest_10 (by decide) (fun c2 => ?_) (fun c2 => ?_)
      · have hw := hw.1 c2
        refine lv_ldc hx hb hown (X.hts q656) dX3_leastOfRest_15 ?_
        refine lv_istore (lv' := [(6, .int (1000000 : Int32)), (0, .ref a0), (1, .ref a1), (2, .int p2), (3, .int p3), (4, .int p4), (5, .int p5)]) hx hb dX3_leastOfRest_17 hl (by decide) rfl (fun ls hl => ?_)
        refine lv_iconst (v := (nI 0)) hx hb dX3_leastOfRest_19 (by decide) ?_
        refine lv_istore (lv' := [(7, .int (nI 0)), (6, .int (1000000 : Int32)), (0, .ref a0), (1, .ref a1), (2, .int p2), (3, .int p3), (4, .int p4), (5, .int p5)]) hx hb dX3_leastOfRest_20 hl (by decide) rfl (fun ls hl => ?_)
        obtain ⟨n14, hw⟩ := hw
        exact llX3_leastOfRest_22  X hr _ _ _ _ _ _ _ _ ihd n14 _ _ _ hw _ _ _ h (lv_sub hl [2, 3, 4, 5, 6, 7, 1, 0] rfl)
      · have hw := hw.2 c2
        refine lv_iconst (v := (nI 0)) hx hb dX3_leastOfRest_13 (by decide) ?_
        exact (en_i X h hr hw (Nat.le_of_ble_eq_true rfl) (Nat.le_of_ble_eq_true rfl) dX3_leastOfRest_14)
abbrev rmX3_leastOfAllOrders : Room := { frames := 19, cells := 0, slots := 0, locals := 549 }
def wpX3_leastOfAllOrders (S : Mem) (a0 : Nat) (post : Int32 → Mem → Prop) : Prop := isK S a0 3 ∧ (∃ o2, mR S a0 0 = some o2 ∧ (∃ o3, mR S a0 1 = some o3 ∧ (∃ d5, d5 ≤ 8 ∧ (wpX3_leastOfRest d5 S o2 o3 (mI S a0 3) (nI 0) (nI 8) (nI 0) (fun x6 S4 => post x6 S4)))))
set_option maxHeartbeats 4000000 in
set_option maxRecDepth 100000 in
theorem meX3_leastOfAllOrders (l : Launch) (G : GT) (S : Mem) (a0 : Nat) (post : Int32 → Mem → Prop) (hw : wpX3_leastOfAllOrders S a0 post) : CN emI l yX3_leastOfAllOrders (wsU yX3_leastOfAllOrders cX3_leastOfAllOrders 1 (some .int)) rmX3_leastOfAllOrders 0 0 G [.ref a0] S post := by
  refine cn_open RX3 rfl (by decide +kernel) (Nat.le_of_ble_eq_true rfl) ?_
  intro p e s m args below meth c A X h hr hin ls hl
  have hl : lv_has ls 1 [(0, .ref a0)] := hl
  have hx := X.1
  have hb := X.2.1
  have hown := X.2.2.2.1
  unfold wpX3_leastOfAllOrders at hw
  refine lv_aload_n hx hb dX3_leastOfAllOrders_0 rfl (lv_at hl 0 rfl) ?_
  obtain ⟨k1, hw⟩ := hw
  obtain ⟨o2, eo2, hw⟩ := hw
  refine r_getR X h k1 0 eo2  (by decide) rfl inX3 (by decide) rfl q126 rfl dX3_leastOfAllOrders_1 ?_
  refine lv_aload_n hx hb dX3_leastOfAllOrders_4 rfl (lv_at hl 0 rfl) ?_
  obtain ⟨o3, eo3, hw⟩ := hw
  refine r_getR X h k1 1 eo3  (by decide) rfl inX3 (by decide) rfl q127 rfl dX3_leastOfAllOrders_5 ?_
  refine lv_aload_n hx hb dX3_leastOfAllOrders_8 rfl (lv_at hl 0 rfl) ?_
  refine r_getI X h k1 3  (by decide) rfl inX3 (by decide) rfl q129 rfl dX3_leastOfAllOrders_9 ?_
  refine lv_iconst (v := (nI 0)) hx hb dX3_leastOfAllOrders_12 (by decide) ?_
  refine lv_bipush (v := (nI 8)) hx hb dX3_leastOfAllOrders_13 (by decide) ?_
  refine lv_iconst (v := (nI 0)) hx hb dX3_leastOfAllOrders_15 (by decide) ?_
  obtain ⟨d5, hd5, hw⟩ := hw
  refine rc_S (As := [.ref o2, .ref o3, .int (mI S a0 3), .int (nI 0), .int (nI 8), .int (nI 0)]) (rest := []) X h (meX3_leastOfRest l G d5 _ _ _ _ _ _ _ _ hw) gS_X3_50 rfl rfl hdS_X3_leastOfRest rfl ⟨(by show d5 + 10 + 1 ≤ 19; omega), (by show 8 + (10 + 11) + (40 * d5 + 200) ≤ 549; omega)⟩ hl.1 rfl (Nat.le_of_ble_eq_true rfl) ⟨Nat.le_of_ble_eq_true rfl, Nat.le_of_ble_eq_true rfl⟩ dX3_leastOfAllOrders_16 (fun x6 S4 H locs hw h => ?_)
  exact (en_i X h hr hw (Nat.le_of_ble_eq_true rfl) (Nat.le_of_ble_eq_true rfl) dX3_leastOfAllOrders_19)
abbrev rmX6_leastByTrying : Room := { frames := 20, cells := 3, slots := 18, locals := 569 }
def wpX6_leastByTrying (S : Mem) (a0 : Nat) (p1 : Int32) (post : Int32 → Mem → Prop) (px : Nat → Mem → Prop) : Prop := isK S a0 6 ∧ (wpX6_completeJob S a0 p1 (fun r3 S1 => ∃ o4, r3 = some o4 ∧ (isK S1 o4 1 ∧ (wpX1_sheetCount S1 o4 (fun x7 S5 => (x7 ≤ (nI 6) → (isK S5 a0 6 ∧ (wpX6_loadOrders S5 a0 o4 (fun u11 S9 => isK S9 a0 6 ∧ (∃ o13, mR S9 a0 2 = some o13 ∧ (isK S9 o4 1 ∧ (isK S9 o13 5 ∧ (wpX5_bindingMinutes S9 o13 (mI S9 o4 0) (fun x17 S15 => isK S15 a0 6 ∧ (∃ o19, mR S15 a0 4 = some o19 ∧ (isK S15 o19 3 ∧ (wpX3_leastOfAllOrders S15 o19 (fun x22 S20 => post (x17 + x22) S20))))))))))))) ∧ (¬ x7 ≤ (nI 6) → (px 5 S5)))))) px)
set_option maxHeartbeats 4000000 in
set_option maxRecDepth 100000 in
theorem meX6_leastByTrying (l : Launch) (hl9 : l.stackTraces = false) (G : GT) (S : Mem) (a0 : Nat) (p1 : Int32) (post : Int32 → Mem → Prop) (px : Nat → Mem → Prop) (hw : wpX6_leastByTrying S a0 p1 post px) : CX emI l yX6_leastByTrying (wsU yX6_leastByTrying cX6_leastByTrying 3 (some .int)) rmX6_leastByTrying 3 18 G [.ref a0, .int p1] S post px := by
  refine cx_open RX6 rfl (by decide +kernel) (Nat.le_of_ble_eq_true rfl) ?_
  intro p e s m args below meth c A X h hr hno ls hl
  have hl : lv_has ls 3 [(0, .ref a0), (1, .int p1)] := hl
  have hx := X.1
  have hb := X.2.1
  have hown := X.2.2.2.1
  unfold wpX6_leastByTrying at hw
  refine lv_aload_n hx hb dX6_leastByTrying_0 rfl (lv_at hl 0 rfl) ?_
  refine lv_iload_n hx hb dX6_leastByTrying_1 rfl (lv_at hl 1 rfl) ?_
  obtain ⟨k2, hw⟩ := hw
  refine rx_V (As := [.int p1]) (rest := []) X h hno k2 (by decide) rfl (meX6_completeJob l hl9 G _ _ _ _ _ hw) gV_X6_121 rfl rfl hdV_X6_completeJob rfl ⟨Nat.le_of_ble_eq_true rfl, Nat.le_of_ble_eq_true rfl⟩ hl.1 rfl (Nat.le_of_ble_eq_true rfl) ⟨Nat.le_of_ble_eq_true rfl, Nat.le_of_ble_eq_true rfl⟩ ⟨Nat.le_of_ble_eq_true rfl, Nat.le_of_ble_eq_true rfl⟩ dX6_leastByTrying_2 (fun r3 S1 H locs hw h => ?_)
  obtain ⟨o4, rfl, hw⟩ := hw
  refine lv_astore_n (lv' := [(2, .ref o4), (0, .ref a0), (1, .int p1)]) hx hb dX6_leastByTrying_5 rfl hl (by decide) rfl (fun ls hl => ?_)
  refine lv_aload_n hx hb dX6_leastByTrying_6 rfl (lv_at hl 0 rfl) ?_
  obtain ⟨k6, hw⟩ := hw
  refine rc_V (As := []) (rest := []) X h k6 (by decide) rfl (meX1_sheetCount l G _ _ _ hw) gV_X6_124 rfl rfl hdV_X1_sheetCount rfl ⟨Nat.le_of_ble_eq_true rfl, Nat.le_of_ble_eq_true rfl⟩ hl.1 rfl (Nat.le_of_ble_eq_true rfl) ⟨Nat.le_of_ble_eq_true rfl, Nat.le_of_ble_eq_true rfl⟩ dX6_leastByTrying_7 (fun x7 S5 H locs hw h => ?_)
  refine lv_bipush (v := (nI 6)) hx hb dX6_leastByTrying_10 (by decide) ?_
  refine lv_icmp_le (tgt := 25) hx hb dX6_leastByTrying_12 (by decide) (fun c8 => ?_) (fun c8 => ?_)
  · have hw := hw.1 c8
    refine lv_aload_n hx hb dX6_leastByTrying_25 rfl (lv_at hl 1 rfl) ?_
    refine lv_aload_n hx hb dX6_leastByTrying_26 rfl (lv_at hl 0 rfl) ?_
    obtain ⟨k10, hw⟩ := hw
    refine rc_V (As := [.ref o4]) (rest := []) X h k10 (by decide) rfl (meX6_loadOrders l G _ _ _ _ hw) gV_X6_197 rfl rfl hdV_X6_loadOrders rfl ⟨Nat.le_of_ble_eq_true rfl, Nat.le_of_ble_eq_true rfl⟩ hl.1 rfl (Nat.le_of_ble_eq_true rfl) ⟨Nat.le_of_ble_eq_true rfl, Nat.le_of_ble_eq_true rfl⟩ dX6_leastByTrying_27 (fun u11 S9 H locs hw h => ?_)
    refine lv_aload_n hx hb dX6_leastByTrying_30 rfl (lv_at hl 1 rfl) ?_
    obtain ⟨k12, hw⟩ := hw
    obtain ⟨o13, eo13, hw⟩ := hw
    refine r_getR X h k12 2 eo13  (by decide) rfl inX6 (by decide) rfl q143 rfl dX6_leastByTrying_31 ?_
    refine lv_aload_n hx hb dX6_leastByTrying_34 rfl (lv_at hl 0 rfl) ?_
    obtain ⟨k14, hw⟩ := hw
    refine r_getIN X h k14 0  (by decide) rfl inX1 (by decide) rfl q430 rfl dX6_leastByTrying_35 ?_
    obtain ⟨k16, hw⟩ := hw
    refine rc_V (As := [.int (mI S9 o4 0)]) (rest := []) X h k16 (by decide) rfl (meX5_bindingMinutes l G _ _ _ _ hw) gV_X6_201 rfl rfl hdV_X5_bindingMinutes rfl ⟨Nat.le_of_ble_eq_true rfl, Nat.le_of_ble_eq_true rfl⟩ hl.1 rfl (Nat.le_of_ble_eq_true rfl) ⟨Nat.le_of_ble_eq_true rfl, Nat.le_of_ble_eq_true rfl⟩ dX6_leastByTrying_38 (fun x17 S15 H locs hw h => ?_)
    refine lv_aload_n hx hb dX6_leastByTrying_41 rfl (lv_at hl 1 rfl) ?_
    obtain ⟨k18, hw⟩ := hw
    obtain ⟨o19, eo19, hw⟩ := hw
    refine r_getR X h k18 4 eo19  (by decide) rfl inX6 (by decide) rfl q145 rfl dX6_leastByTrying_42 ?_
    obtain ⟨k21, hw⟩ := hw
    refine rc_V (As := []) (rest := [.int x17]) X h k21 (by decide) rfl (meX3_leastOfAllOrders l G _ _ _ hw) gV_X6_210 rfl rfl hdV_X3_leastOfAllOrders rfl ⟨Nat.le_of_ble_eq_true rfl, Nat.le_of_ble_eq_true rfl⟩ hl.1 rfl (Nat.le_of_ble_eq_true rfl) ⟨Nat.le_of_ble_eq_true rfl, Nat.le_of_ble_eq_true rfl⟩ dX6_leastByTrying_45 (fun x22 S20 H locs hw h => ?_)
    refine lv_iadd hx hb dX6_leastByTrying_48 ?_
    exact vx_ret (en_i X h hr hw (Nat.le_of_ble_eq_true rfl) (Nat.le_of_ble_eq_true rfl) dX6_leastByTrying_49)
  · have hw := hw.2 c8
    exact en_x 5 X h hl9 th_X6_208 hl.1 hno dX6_leastByTrying_15 dX6_leastByTrying_18 dX6_leastByTrying_19 dX6_leastByTrying_21 dX6_leastByTrying_24 ⟨Nat.le_of_ble_eq_true rfl, Nat.le_of_ble_eq_true rfl⟩ ⟨Nat.le_of_ble_eq_true rfl, Nat.le_of_ble_eq_true rfl⟩ ⟨Nat.le_of_ble_eq_true rfl, Nat.le_of_ble_eq_true rfl⟩ hw
abbrev rmL_leastByTrying : Room := { frames := 21, cells := 3, slots := 18, locals := 591 }
def wpL_leastByTrying (S : Mem) (a0 : Nat) (p1 : Int32) (a2 : Nat) (post : Int32 → Mem → Prop) : Prop := isK S a0 6 ∧ (wpX6_leastByTrying S a0 p1 (fun x3 S1 => isK S1 a2 12 ∧ (vp_in (nI 0) (mN S1 a2) ∧ (∀ S8 : Mem, S8 = (sJ S1 a2 (nI 0).toNatClampNeg x3.toInt64) → (post (nI 0) S8)))) (fun k4 S5 => (k4 = 1 → (post (nI 1) S5)) ∧ (k4 = 2 → (post (nI 2) S5)) ∧ (k4 = 5 → (post (nI 3) S5)) ∧ (k4 = 1 ∨ k4 = 2 ∨ k4 = 5)))
set_option maxHeartbeats 4000000 in
set_option maxRecDepth 100000 in
theorem meL_leastByTrying (l : Launch) (hl9 : l.stackTraces = false) (G : GT) (S : Mem) (a0 : Nat) (p1 : Int32) (a2 : Nat) (post : Int32 → Mem → Prop) (hw : wpL_leastByTrying S a0 p1 a2 post) : CN emI l yL_leastByTrying (wsH yL_leastByTrying cL_leastByTrying 4 (some .int) [(0, 9, 12, 19), (0, 9, 15, 13), (0, 9, 18, 56)]) rmL_leastByTrying 3 18 G [.ref a0, .int p1, .ref a2] S post := by
  refine ch_open RL rfl (by decide +kernel) (Nat.le_of_ble_eq_true rfl) ?_
  intro p e s m args below meth c A X h hr hTab ls hl
  have hl : lv_has ls 4 [(0, .ref a0), (1, .int p1), (2, .ref a2)] := hl
  have hx := X.1
  have hb := X.2.1
  have hown := X.2.2.2.1
  unfold wpL_leastByTrying at hw
  refine lv_aload_n hx hb dL_leastByTrying_0 rfl (lv_at hl 2 rfl) ?_
  refine lv_iconst (v := (nI 0)) hx hb dL_leastByTrying_1 (by decide) ?_
  refine lv_aload_n hx hb dL_leastByTrying_2 rfl (lv_at hl 0 rfl) ?_
  refine lv_iload_n hx hb dL_leastByTrying_3 rfl (lv_at hl 1 rfl) ?_
  obtain ⟨k2, hw⟩ := hw
  refine rx_VH (As := [.int p1]) (rest := [.int (nI 0), .ref a2]) X h k2 (by decide) rfl (meX6_leastByTrying l hl9 G _ _ _ _ _ hw) gV_L_64 rfl rfl hdV_X6_leastByTrying rfl ⟨Nat.le_of_ble_eq_true rfl, Nat.le_of_ble_eq_true rfl⟩ hl.1 rfl (Nat.le_of_ble_eq_true rfl) ⟨Nat.le_of_ble_eq_true rfl, Nat.le_of_ble_eq_true rfl⟩ dL_leastByTrying_4 (fun k4 S5 H locs q9 ce hw h hce hcv hcl => ?_) (fun x3 S1 H locs hw h => ?_)
  · rcases hw.2.2.2 with hk9 | hk9 | hk9
    · subst hk9
      have hw := hw.1 rfl
      refine vx_catch (own := RL) (name := "java/lang/IndexOutOfBoundsException") (E := xn 1) hown [] ⟨0, 9, 12, 19⟩ [⟨0, 9, 15, 13⟩, ⟨0, 9, 18, 56⟩] (by rw [hTab]; rfl) (fun z hz => nomatch hz) (by decide) (by decide) (X.hts q277) (va_Nw.use (by rfl) (X.nw q311)) hce hcv hcl ?_
      refine lv_astore_n (lv' := [(3, .ref q9), (0, .ref a0), (1, .int p1), (2, .ref a2)]) hx hb dL_leastByTrying_12 rfl hl (by decide) rfl (fun ls hl => ?_)
      refine lv_iconst (v := (nI 1)) hx hb dL_leastByTrying_13 (by decide) ?_
      exact (en_i X h hr hw (Nat.le_of_ble_eq_true rfl) (Nat.le_of_ble_eq_true rfl) dL_leastByTrying_14)
    · subst hk9
      have hw := hw.2.1 rfl
      have hpass2 : ∀ z ∈ ([⟨0, 9, 12, 19⟩] : List ExceptionTableEntry), covers z 4 = false ∨ (z.catchType ≠ 0 ∧ ∃ nm : String, (Cond.classLink RL z.catchType nm).before args s = true ∧ va_Nc (xn 2) nm s) := by
        intro z hz
        rcases List.mem_cons.mp hz with rfl | hz
        · exact Or.inr ⟨by decide, "java/lang/IndexOutOfBoundsException", X.hts q277, X.2.2.2.2.2.2.1.2.2.2.2.1 ("java/lang/IllegalStateException", "java/lang/IndexOutOfBoundsException") (by decide +kernel)⟩
        cases hz
      refine vx_catch (own := RL) (name := "java/lang/IllegalStateException") (E := xn 2) hown [⟨0, 9, 12, 19⟩] ⟨0, 9, 15, 13⟩ [⟨0, 9, 18, 56⟩] (by rw [hTab]; rfl) (hpass2) (by decide) (by decide) (X.hts q193) (va_Nw.use (by rfl) (X.nw q200)) hce hcv hcl ?_
      refine lv_astore_n (lv' := [(3, .ref q9), (0, .ref a0), (1, .int p1), (2, .ref a2)]) hx hb dL_leastByTrying_15 rfl hl (by decide) rfl (fun ls hl => ?_)
      refine lv_iconst (v := (nI 2)) hx hb dL_leastByTrying_16 (by decide) ?_
      exact (en_i X h hr hw (Nat.le_of_ble_eq_true rfl) (Nat.le_of_ble_eq_true rfl) dL_leastByTrying_17)
    · subst hk9
      have hw := hw.2.2.1 rfl
      have hpass5 : ∀ z ∈ ([⟨0, 9, 12, 19⟩, ⟨0, 9, 15, 13⟩] : List ExceptionTableEntry), covers z 4 = false ∨ (z.catchType ≠ 0 ∧ ∃ nm : String, (Cond.classLink RL z.catchType nm).before args s = true ∧ va_Nc (xn 5) nm s) := by
        intro z hz
        rcases List.mem_cons.mp hz with rfl | hz
        · exact Or.inr ⟨by decide, "java/lang/IndexOutOfBoundsException", X.hts q277, X.2.2.2.2.2.2.1.2.2.2.2.1 ("java/lang/UnsupportedOperationException", "java/lang/IndexOutOfBoundsException") (by decide +kernel)⟩
        rcases List.mem_cons.mp hz with rfl | hz
        · exact Or.inr ⟨by decide, "java/lang/IllegalStateException", X.hts q193, X.2.2.2.2.2.2.1.2.2.2.2.1 ("java/lang/UnsupportedOperationException", "java/lang/IllegalStateException") (by decide +kernel)⟩
        cases hz
      refine vx_catch (own := RL) (name := "java/lang/UnsupportedOperationException") (E := xn 5) hown [⟨0, 9, 12, 19⟩, ⟨0, 9, 15, 13⟩] ⟨0, 9, 18, 56⟩ [] (by rw [hTab]; rfl) (hpass5) (by decide) (by decide) (X.hts q541) (va_Nw.use (by rfl) (X.nw q557)) hce hcv hcl ?_
      refine lv_astore_n (lv' := [(3, .ref q9), (0, .ref a0), (1, .int p1), (2, .ref a2)]) hx hb dL_leastByTrying_18 rfl hl (by decide) rfl (fun ls hl => ?_)
      refine lv_iconst (v := (nI 3)) hx hb dL_leastByTrying_19 (by decide) ?_
      exact (en_i X h hr hw (Nat.le_of_ble_eq_true rfl) (Nat.le_of_ble_eq_true rfl) dL_leastByTrying_20)
  · refine lv_i2l (v := x3.toInt64) hx hb dL_leastByTrying_7 rfl ?_
    obtain ⟨k6, hw⟩ := hw
    obtain ⟨v7, hw⟩ := hw
    refine r_last X h k6 v7 dL_leastByTrying_8 (fun H locs h => ?_)
    obtain ⟨S8, eS8⟩ : ∃ z : Mem, z = (sJ S1 a2 (nI 0).toNatClampNeg x3.toInt64) := ⟨_, rfl⟩
    rw [← eS8] at h
    have hw := hw S8 eS8
    refine lv_goto (tgt := 21) hx hb dL_leastByTrying_9 (by decide) ?_
    refine lv_iconst (v := (nI 0)) hx hb dL_leastByTrying_21 (by decide) ?_
    exact (en_i X h hr hw (Nat.le_of_ble_eq_true rfl) (Nat.le_of_ble_eq_true rfl) dL_leastByTrying_22)
abbrev rmX7_leastByTrying : Room := { frames := 5, cells := 0, slots := 0, locals := 119 }
def wpX7_leastByTrying (S : Mem) (a0 : Nat) (p1 : Int32) (post : Int32 → Mem → Prop) : Prop := isK S a0 7 ∧ (wpX7_isJob S a0 p1 (fun x3 S1 => (¬ x3 = 0 → (isK S1 a0 7 ∧ (wpX7_count S1 a0 p1 (fun x7 S5 => (x7 ≤ (nI 6) → (isK S5 a0 7 ∧ (wpX7_least S5 a0 p1 (fun x11 S9 => post x11 S9)))) ∧ (¬ x7 ≤ (nI 6) → (isK S5 a0 7 ∧ (wpX7_fails S5 a0 (nI 3) (fun x14 S12 => post x14 S12)))))))) ∧ (x3 = 0 → (post (nI 0) S1))))
set_option maxHeartbeats 4000000 in
set_option maxRecDepth 100000 in
theorem meX7_leastByTrying (l : Launch) (G : GT) (S : Mem) (a0 : Nat) (p1 : Int32) (post : Int32 → Mem → Prop) (hw : wpX7_leastByTrying S a0 p1 post) : CN emI l yX7_leastByTrying (wsU yX7_leastByTrying cX7_leastByTrying 2 (some .int)) rmX7_leastByTrying 0 0 G [.ref a0, .int p1] S post := by
  refine cn_open RX7 rfl (by decide +kernel) (Nat.le_of_ble_eq_true rfl) ?_
  intro p e s m args below meth c A X h hr hin ls hl
  have hl : lv_has ls 2 [(0, .ref a0), (1, .int p1)] := hl
  have hx := X.1
  have hb := X.2.1
  have hown := X.2.2.2.1
  unfold wpX7_leastByTrying at hw
  refine lv_aload_n hx hb dX7_leastByTrying_0 rfl (lv_at hl 0 rfl) ?_
  refine lv_iload_n hx hb dX7_leastByTrying_1 rfl (lv_at hl 1 rfl) ?_
  obtain ⟨k2, hw⟩ := hw
  refine rc_V (As := [.int p1]) (rest := []) X h k2 (by decide) rfl (meX7_isJob l G _ _ _ _ hw) gV_X7_75 rfl rfl hdV_X7_isJob rfl ⟨Nat.le_of_ble_eq_true rfl, Nat.le_of_ble_eq_true rfl⟩ hl.1 rfl (Nat.le_of_ble_eq_true rfl) ⟨Nat.le_of_ble_eq_true rfl, Nat.le_of_ble_eq_true rfl⟩ dX7_leastByTrying_2 (fun x3 S1 H locs hw h => ?_)
  refine lv_if_ne (tgt := 10) hx hb dX7_leastByTrying_5 (by decide) (fun c4 => ?_) (fun c4 => ?_)
  · have hw := hw.1 c4
    refine lv_aload_n hx hb dX7_leastByTrying_10 rfl (lv_at hl 0 rfl) ?_
    refine lv_iload_n hx hb dX7_leastByTrying_11 rfl (lv_at hl 1 rfl) ?_
    obtain ⟨k6, hw⟩ := hw
    refine rc_V (As := [.int p1]) (rest := []) X h k6 (by decide) rfl (meX7_count l G _ _ _ _ hw) gV_X7_78 rfl rfl hdV_X7_count rfl ⟨Nat.le_of_ble_eq_true rfl, Nat.le_of_ble_eq_true rfl⟩ hl.1 rfl (Nat.le_of_ble_eq_true rfl) ⟨Nat.le_of_ble_eq_true rfl, Nat.le_of_ble_eq_true rfl⟩ dX7_leastByTrying_12 (fun x7 S5 H locs hw h => ?_)
    refine lv_bipush (v := (nI 6)) hx hb dX7_leastByTrying_15 (by decide) ?_
    refine lv_icmp_le (tgt := 28) hx hb dX7_leastByTrying_17 (by decide) (fun c8 => ?_) (fun c8 => ?_)
    · have hw := hw.1 c8
      refine lv_aload_n hx hb dX7_leastByTrying_28 rfl (lv_at hl 0 rfl) ?_
      refine lv_iload_n hx hb dX7_leastByTrying_29 rfl (lv_at hl 1 rfl) ?_
      obtain ⟨k10, hw⟩ := hw
      refine rc_V (As := [.int p1]) (rest := []) X h k10 (by decide) rfl (meX7_least l G _ _ _ _ hw) gV_X7_153 rfl rfl hdV_X7_least rfl ⟨Nat.le_of_ble_eq_true rfl, Nat.le_of_ble_eq_true rfl⟩ hl.1 rfl (Nat.le_of_ble_eq_true rfl) ⟨Nat.le_of_ble_eq_true rfl, Nat.le_of_ble_eq_true rfl⟩ dX7_leastByTrying_30 (fun x11 S9 H locs hw h => ?_)
      exact (en_i X h hr hw (Nat.le_of_ble_eq_true rfl) (Nat.le_of_ble_eq_true rfl) dX7_leastByTrying_33)
    · have hw := hw.2 c8
      refine lv_aload_n hx hb dX7_leastByTrying_20 rfl (lv_at hl 0 rfl) ?_
      refine lv_iconst (v := (nI 3)) hx hb dX7_leastByTrying_21 (by decide) ?_
      obtain ⟨k13, hw⟩ := hw
      refine rc_V (As := [.int (nI 3)]) (rest := []) X h k13 (by decide) rfl (meX7_fails l G _ _ _ _ hw) gV_X7_101 rfl rfl hdV_X7_fails rfl ⟨Nat.le_of_ble_eq_true rfl, Nat.le_of_ble_eq_true rfl⟩ hl.1 rfl (Nat.le_of_ble_eq_true rfl) ⟨Nat.le_of_ble_eq_true rfl, Nat.le_of_ble_eq_true rfl⟩ dX7_leastByTrying_22 (fun x14 S12 H locs hw h => ?_)
      refine lv_goto (tgt := 33) hx hb dX7_leastByTrying_25 (by decide) ?_
      exact (en_i X h hr hw (Nat.le_of_ble_eq_true rfl) (Nat.le_of_ble_eq_true rfl) dX7_leastByTrying_33)
  · have hw := hw.2 c4
    refine lv_iconst (v := (nI 0)) hx hb dX7_leastByTrying_8 (by decide) ?_
    exact (en_i X h hr hw (Nat.le_of_ble_eq_true rfl) (Nat.le_of_ble_eq_true rfl) dX7_leastByTrying_9)
abbrev rmX6_stock : Room := { frames := 8, cells := 3, slots := 18, locals := 134 }
def wpX6_stock (S : Mem) (a0 : Nat) (p1 : Int32) (p2 : Int32) (post : Int32 → Mem → Prop) (px : Nat → Mem → Prop) : Prop := isK S a0 6 ∧ (wpX6_completeJob S a0 p1 (fun r3 S1 => ∃ o4, r3 = some o4 ∧ (wpX6_requireSheet S1 o4 p2 (fun u6 S5 => isK S5 o4 1 ∧ (wpX1_stockOf S5 o4 p2 (fun x9 S7 => post x9 S7))) px)) px)
set_option maxHeartbeats 4000000 in
set_option maxRecDepth 100000 in
theorem meX6_stock (l : Launch) (hl9 : l.stackTraces = false) (G : GT) (S : Mem) (a0 : Nat) (p1 : Int32) (p2 : Int32) (post : Int32 → Mem → Prop) (px : Nat → Mem → Prop) (hw : wpX6_stock S a0 p1 p2 post px) : CX emI l yX6_stock (wsU yX6_stock cX6_stock 4 (some .int)) rmX6_stock 3 18 G [.ref a0, .int p1, .int p2] S post px := by
  refine cx_open RX6 rfl (by decide +kernel) (Nat.le_of_ble_eq_true rfl) ?_
  intro p e s m args below meth c A X h hr hno ls hl
  have hl : lv_has ls 4 [(0, .ref a0), (1, .int p1), (2, .int p2)] := hl
  have hx := X.1
  have hb := X.2.1
  have hown := X.2.2.2.1
  unfold wpX6_stock at hw
  refine lv_aload_n hx hb dX6_stock_0 rfl (lv_at hl 0 rfl) ?_
  refine lv_iload_n hx hb dX6_stock_1 rfl (lv_at hl 1 rfl) ?_
  obtain ⟨k2, hw⟩ := hw
  refine rx_V (As := [.int p1]) (rest := []) X h hno k2 (by decide) rfl (meX6_completeJob l hl9 G _ _ _ _ _ hw) gV_X6_121 rfl rfl hdV_X6_completeJob rfl ⟨Nat.le_of_ble_eq_true rfl, Nat.le_of_ble_eq_true rfl⟩ hl.1 rfl (Nat.le_of_ble_eq_true rfl) ⟨Nat.le_of_ble_eq_true rfl, Nat.le_of_ble_eq_true rfl⟩ ⟨Nat.le_of_ble_eq_true rfl, Nat.le_of_ble_eq_true rfl⟩ dX6_stock_2 (fun r3 S1 H locs hw h => ?_)
  obtain ⟨o4, rfl, hw⟩ := hw
  refine lv_astore_n (lv' := [(3, .ref o4), (0, .ref a0), (1, .int p1), (2, .int p2)]) hx hb dX6_stock_5 rfl hl (by decide) rfl (fun ls hl => ?_)
  refine lv_aload_n hx hb dX6_stock_6 rfl (lv_at hl 0 rfl) ?_
  refine lv_iload_n hx hb dX6_stock_7 rfl (lv_at hl 3 rfl) ?_
  refine rx_S (As := [.ref o4, .int p2]) (rest := []) X h hno (meX6_requireSheet l hl9 G _ _ _ _ _ hw) gS_X6_127 rfl rfl hdS_X6_requireSheet rfl ⟨Nat.le_of_ble_eq_true rfl, Nat.le_of_ble_eq_true rfl⟩ hl.1 rfl (Nat.le_of_ble_eq_true rfl) ⟨Nat.le_of_ble_eq_true rfl, Nat.le_of_ble_eq_true rfl⟩ ⟨Nat.le_of_ble_eq_true rfl, Nat.le_of_ble_eq_true rfl⟩ dX6_stock_8 (fun u6 S5 H locs hw h => ?_)
  refine lv_aload_n hx hb dX6_stock_11 rfl (lv_at hl 0 rfl) ?_
  refine lv_iload_n hx hb dX6_stock_12 rfl (lv_at hl 3 rfl) ?_
  obtain ⟨k8, hw⟩ := hw
  refine rc_V (As := [.int p2]) (rest := []) X h k8 (by decide) rfl (meX1_stockOf l G _ _ _ _ hw) gV_X6_160 rfl rfl hdV_X1_stockOf rfl ⟨Nat.le_of_ble_eq_true rfl, Nat.le_of_ble_eq_true rfl⟩ hl.1 rfl (Nat.le_of_ble_eq_true rfl) ⟨Nat.le_of_ble_eq_true rfl, Nat.le_of_ble_eq_true rfl⟩ dX6_stock_13 (fun x9 S7 H locs hw h => ?_)
  exact vx_ret (en_i X h hr hw (Nat.le_of_ble_eq_true rfl) (Nat.le_of_ble_eq_true rfl) dX6_stock_16)
abbrev rmL_stock : Room := { frames := 9, cells := 3, slots := 18, locals := 157 }
def wpL_stock (S : Mem) (a0 : Nat) (p1 : Int32) (p2 : Int32) (a3 : Nat) (post : Int32 → Mem → Prop) : Prop := isK S a0 6 ∧ (wpX6_stock S a0 p1 p2 (fun x3 S1 => isK S1 a3 12 ∧ (vp_in (nI 0) (mN S1 a3) ∧ (∀ S8 : Mem, S8 = (sJ S1 a3 (nI 0).toNatClampNeg x3.toInt64) → (post (nI 0) S8)))) (fun k4 S5 => (k4 = 1 → (post (nI 1) S5)) ∧ (k4 = 2 → (post (nI 2) S5)) ∧ (k4 = 3 → (post (nI 3) S5)) ∧ (k4 = 1 ∨ k4 = 2 ∨ k4 = 3)))
set_option maxHeartbeats 4000000 in
set_option maxRecDepth 100000 in
theorem meL_stock (l : Launch) (hl9 : l.stackTraces = false) (G : GT) (S : Mem) (a0 : Nat) (p1 : Int32) (p2 : Int32) (a3 : Nat) (post : Int32 → Mem → Prop) (hw : wpL_stock S a0 p1 p2 a3 post) : CN emI l yL_stock (wsH yL_stock cL_stock 5 (some .int) [(0, 10, 13, 19), (0, 10, 17, 13), (0, 10, 21, 48)]) rmL_stock 3 18 G [.ref a0, .int p1, .int p2, .ref a3] S post := by
  refine ch_open RL rfl (by decide +kernel) (Nat.le_of_ble_eq_true rfl) ?_
  intro p e s m args below meth c A X h hr hTab ls hl
  have hl : lv_has ls 5 [(0, .ref a0), (1, .int p1), (2, .int p2), (3, .ref a3)] := hl
  have hx := X.1
  have hb := X.2.1
  have hown := X.2.2.2.1
  unfold wpL_stock at hw
  refine lv_aload_n hx hb dL_stock_0 rfl (lv_at hl 3 rfl) ?_
  refine lv_iconst (v := (nI 0)) hx hb dL_stock_1 (by decide) ?_
  refine lv_aload_n hx hb dL_stock_2 rfl (lv_at hl 0 rfl) ?_
  refine lv_iload_n hx hb dL_stock_3 rfl (lv_at hl 1 rfl) ?_
  refine lv_iload_n hx hb dL_stock_4 rfl (lv_at hl 2 rfl) ?_
  obtain ⟨k2, hw⟩ := hw
  refine rx_VH (As := [.int p1, .int p2]) (rest := [.int (nI 0), .ref a3]) X h k2 (by decide) rfl (meX6_stock l hl9 G _ _ _ _ _ _ hw) gV_L_67 rfl rfl hdV_X6_stock rfl ⟨Nat.le_of_ble_eq_true rfl, Nat.le_of_ble_eq_true rfl⟩ hl.1 rfl (Nat.le_of_ble_eq_true rfl) ⟨Nat.le_of_ble_eq_true rfl, Nat.le_of_ble_eq_true rfl⟩ dL_stock_5 (fun k4 S5 H locs q9 ce hw h hce hcv hcl => ?_) (fun x3 S1 H locs hw h => ?_)
  · rcases hw.2.2.2 with hk9 | hk9 | hk9
    · subst hk9
      have hw := hw.1 rfl
      refine vx_catch (own := RL) (name := "java/lang/IndexOutOfBoundsException") (E := xn 1) hown [] ⟨0, 10, 13, 19⟩ [⟨0, 10, 17, 13⟩, ⟨0, 10, 21, 48⟩] (by rw [hTab]; rfl) (fun z hz => nomatch hz) (by decide) (by decide) (X.hts q277) (va_Nw.use (by rfl) (X.nw q311)) hce hcv hcl ?_
      refine lv_astore (lv' := [(4, .ref q9), (0, .ref a0), (1, .int p1), (2, .int p2), (3, .ref a3)]) hx hb dL_stock_13 hl (by decide) rfl (fun ls hl => ?_)
      refine lv_iconst (v := (nI 1)) hx hb dL_stock_15 (by decide) ?_
      exact (en_i X h hr hw (Nat.le_of_ble_eq_true rfl) (Nat.le_of_ble_eq_true rfl) dL_stock_16)
    · subst hk9
      have hw := hw.2.1 rfl
      have hpass2 : ∀ z ∈ ([⟨0, 10, 13, 19⟩] : List ExceptionTableEntry), covers z 5 = false ∨ (z.catchType ≠ 0 ∧ ∃ nm : String, (Cond.classLink RL z.catchType nm).before args s = true ∧ va_Nc (xn 2) nm s) := by
        intro z hz
        rcases List.mem_cons.mp hz with rfl | hz
        · exact Or.inr ⟨by decide, "java/lang/IndexOutOfBoundsException", X.hts q277, X.2.2.2.2.2.2.1.2.2.2.2.1 ("java/lang/IllegalStateException", "java/lang/IndexOutOfBoundsException") (by decide +kernel)⟩
        cases hz
      refine vx_catch (own := RL) (name := "java/lang/IllegalStateException") (E := xn 2) hown [⟨0, 10, 13, 19⟩] ⟨0, 10, 17, 13⟩ [⟨0, 10, 21, 48⟩] (by rw [hTab]; rfl) (hpass2) (by decide) (by decide) (X.hts q193) (va_Nw.use (by rfl) (X.nw q200)) hce hcv hcl ?_
      refine lv_astore (lv' := [(4, .ref q9), (0, .ref a0), (1, .int p1), (2, .int p2), (3, .ref a3)]) hx hb dL_stock_17 hl (by decide) rfl (fun ls hl => ?_)
      refine lv_iconst (v := (nI 2)) hx hb dL_stock_19 (by decide) ?_
      exact (en_i X h hr hw (Nat.le_of_ble_eq_true rfl) (Nat.le_of_ble_eq_true rfl) dL_stock_20)
    · subst hk9
      have hw := hw.2.2.1 rfl
      have hpass3 : ∀ z ∈ ([⟨0, 10, 13, 19⟩, ⟨0, 10, 17, 13⟩] : List ExceptionTableEntry), covers z 5 = false ∨ (z.catchType ≠ 0 ∧ ∃ nm : String, (Cond.classLink RL z.catchType nm).before args s = true ∧ va_Nc (xn 3) nm s) := by
        intro z hz
        rcases List.mem_cons.mp hz with rfl | hz
        · exact Or.inr ⟨by decide, "java/lang/IndexOutOfBoundsException", X.hts q277, X.2.2.2.2.2.2.1.2.2.2.2.1 ("java/util/NoSuchElementException", "java/lang/IndexOutOfBoundsException") (by decide +kernel)⟩
        rcases List.mem_cons.mp hz with rfl | hz
        · exact Or.inr ⟨by decide, "java/lang/IllegalStateException", X.hts q193, X.2.2.2.2.2.2.1.2.2.2.2.1 ("java/util/NoSuchElementException", "java/lang/IllegalStateException") (by decide +kernel)⟩
        cases hz
      refine vx_catch (own := RL) (name := "java/util/NoSuchElementException") (E := xn 3) hown [⟨0, 10, 13, 19⟩, ⟨0, 10, 17, 13⟩] ⟨0, 10, 21, 48⟩ [] (by rw [hTab]; rfl) (hpass3) (by decide) (by decide) (X.hts q495) (va_Nw.use (by rfl) (X.nw q505)) hce hcv hcl ?_
      refine lv_astore (lv' := [(4, .ref q9), (0, .ref a0), (1, .int p1), (2, .int p2), (3, .ref a3)]) hx hb dL_stock_21 hl (by decide) rfl (fun ls hl => ?_)
      refine lv_iconst (v := (nI 3)) hx hb dL_stock_23 (by decide) ?_
      exact (en_i X h hr hw (Nat.le_of_ble_eq_true rfl) (Nat.le_of_ble_eq_true rfl) dL_stock_24)
  · refine lv_i2l (v := x3.toInt64) hx hb dL_stock_8 rfl ?_
    obtain ⟨k6, hw⟩ := hw
    obtain ⟨v7, hw⟩ := hw
    refine r_last X h k6 v7 dL_stock_9 (fun H locs h => ?_)
    obtain ⟨S8, eS8⟩ : ∃ z : Mem, z = (sJ S1 a3 (nI 0).toNatClampNeg x3.toInt64) := ⟨_, rfl⟩
    rw [← eS8] at h
    have hw := hw S8 eS8
    refine lv_goto (tgt := 25) hx hb dL_stock_10 (by decide) ?_
    refine lv_iconst (v := (nI 0)) hx hb dL_stock_25 (by decide) ?_
    exact (en_i X h hr hw (Nat.le_of_ble_eq_true rfl) (Nat.le_of_ble_eq_true rfl) dL_stock_26)
abbrev rmX7_stock : Room := { frames := 4, cells := 0, slots := 0, locals := 85 }
def wpX7_stock (S : Mem) (a0 : Nat) (p1 : Int32) (p2 : Int32) (post : Int32 → Mem → Prop) : Prop := isK S a0 7 ∧ (wpX7_isSheet S a0 p1 p2 (fun x3 S1 => (x3 = 0 → (post (nI 0) S1)) ∧ (¬ x3 = 0 → (isK S1 a0 7 ∧ (∃ o6, mR S1 a0 16 = some o6 ∧ (isK S1 o6 8 ∧ (vp_in (((nI 8) * p1) + p2) (mN S1 o6) ∧ (post (mI S1 o6 (((nI 8) * p1) + p2).toNatClampNeg) S1))))))))
set_option maxHeartbeats 4000000 in
set_option maxRecDepth 100000 in
theorem meX7_stock (l : Launch) (G : GT) (S : Mem) (a0 : Nat) (p1 : Int32) (p2 : Int32) (post : Int32 → Mem → Prop) (hw : wpX7_stock S a0 p1 p2 post) : CN emI l yX7_stock (wsU yX7_stock cX7_stock 3 (some .int)) rmX7_stock 0 0 G [.ref a0, .int p1, .int p2] S post := by
  refine cn_open RX7 rfl (by decide +kernel) (Nat.le_of_ble_eq_true rfl) ?_
  intro p e s m args below meth c A X h hr hin ls hl
  have hl : lv_has ls 3 [(0, .ref a0), (1, .int p1), (2, .int p2)] := hl
  have hx := X.1
  have hb := X.2.1
  have hown := X.2.2.2.1
  unfold wpX7_stock at hw
  refine lv_aload_n hx hb dX7_stock_0 rfl (lv_at hl 0 rfl) ?_
  refine lv_iload_n hx hb dX7_stock_1 rfl (lv_at hl 1 rfl) ?_
  refine lv_iload_n hx hb dX7_stock_2 rfl (lv_at hl 2 rfl) ?_
  obtain ⟨k2, hw⟩ := hw
  refine rc_V (As := [.int p1, .int p2]) (rest := []) X h k2 (by decide) rfl (meX7_isSheet l G _ _ _ _ _ hw) gV_X7_114 rfl rfl hdV_X7_isSheet rfl ⟨Nat.le_of_ble_eq_true rfl, Nat.le_of_ble_eq_true rfl⟩ hl.1 rfl (Nat.le_of_ble_eq_true rfl) ⟨Nat.le_of_ble_eq_true rfl, Nat.le_of_ble_eq_true rfl⟩ dX7_stock_3 (fun x3 S1 H locs hw h => ?_)
  refine lv_if_eq (tgt := 23) hx hb dX7_stock_6 (by decide) (fun c4 => ?_) (fun c4 => ?_)
  · have hw := hw.1 c4
    refine lv_iconst (v := (nI 0)) hx hb dX7_stock_23 (by decide) ?_
    exact (en_i X h hr hw (Nat.le_of_ble_eq_true rfl) (Nat.le_of_ble_eq_true rfl) dX7_stock_24)
  · have hw := hw.2 c4
    refine lv_aload_n hx hb dX7_stock_9 rfl (lv_at hl 0 rfl) ?_
    obtain ⟨k5, hw⟩ := hw
    obtain ⟨o6, eo6, hw⟩ := hw
    refine r_getR X h k5 16 eo6  (by decide) rfl inX7 (by decide) rfl q864 rfl dX7_stock_10 ?_
    refine lv_bipush (v := (nI 8)) hx hb dX7_stock_13 (by decide) ?_
    refine lv_iload_n hx hb dX7_stock_15 rfl (lv_at hl 1 rfl) ?_
    refine lv_imul hx hb dX7_stock_16 ?_
    refine lv_iload_n hx hb dX7_stock_17 rfl (lv_at hl 2 rfl) ?_
    refine lv_iadd hx hb dX7_stock_18 ?_
    obtain ⟨k7, hw⟩ := hw
    obtain ⟨v8, hw⟩ := hw
    refine r_iald X h k7 v8 dX7_stock_19 ?_
    refine lv_goto (tgt := 24) hx hb dX7_stock_20 (by decide) ?_
    exact (en_i X h hr hw (Nat.le_of_ble_eq_true rfl) (Nat.le_of_ble_eq_true rfl) dX7_stock_24)
abbrev rmX6_plates : Room := { frames := 0, cells := 0, slots := 0, locals := 0 }
def wpX6_plates (S : Mem) (a0 : Nat) (post : Int32 → Mem → Prop) : Prop := isK S a0 6 ∧ (∃ o2, mR S a0 3 = some o2 ∧ (isK S o2 4 ∧ (post (mI S o2 1) S)))
set_option maxHeartbeats 4000000 in
set_option maxRecDepth 100000 in
theorem meX6_plates (l : Launch) (G : GT) (S : Mem) (a0 : Nat) (post : Int32 → Mem → Prop) (hw : wpX6_plates S a0 post) : CN emI l yX6_plates (wsU yX6_plates cX6_plates 1 (some .int)) rmX6_plates 0 0 G [.ref a0] S post := by
  refine cn_open RX6 rfl (by decide +kernel) (Nat.le_of_ble_eq_true rfl) ?_
  intro p e s m args below meth c A X h hr hin ls hl
  have hl : lv_has ls 1 [(0, .ref a0)] := hl
  have hx := X.1
  have hb := X.2.1
  have hown := X.2.2.2.1
  unfold wpX6_plates at hw
  refine lv_aload_n hx hb dX6_plates_0 rfl (lv_at hl 0 rfl) ?_
  obtain ⟨k1, hw⟩ := hw
  obtain ⟨o2, eo2, hw⟩ := hw
  refine r_getR X h k1 3 eo2  (by decide) rfl inX6 (by decide) rfl q144 rfl dX6_plates_1 ?_
  obtain ⟨k3, hw⟩ := hw
  refine r_getIN X h k3 1  (by decide) rfl inX4 (by decide) rfl q114 rfl dX6_plates_4 ?_
  exact (en_i X h hr hw (Nat.le_of_ble_eq_true rfl) (Nat.le_of_ble_eq_true rfl) dX6_plates_7)
abbrev rmX7_plates : Room := { frames := 0, cells := 0, slots := 0, locals := 0 }
def wpX7_plates (S : Mem) (a0 : Nat) (post : Int32 → Mem → Prop) : Prop := isK S a0 7 ∧ (∀ S2 : Mem, S2 = (sI S a0 0 (nI 0)) → (post (mI S2 a0 4) S2))
set_option maxHeartbeats 4000000 in
set_option maxRecDepth 100000 in
theorem meX7_plates (l : Launch) (G : GT) (S : Mem) (a0 : Nat) (post : Int32 → Mem → Prop) (hw : wpX7_plates S a0 post) : CN emI l yX7_plates (wsU yX7_plates cX7_plates 1 (some .int)) rmX7_plates 0 0 G [.ref a0] S post := by
  refine cn_open RX7 rfl (by decide +kernel) (Nat.le_of_ble_eq_true rfl) ?_
  intro p e s m args below meth c A X h hr hin ls hl
  have hl : lv_has ls 1 [(0, .ref a0)] := hl
  have hx := X.1
  have hb := X.2.1
  have hown := X.2.2.2.1
  unfold wpX7_plates at hw
  refine lv_aload_n hx hb dX7_plates_0 rfl (lv_at hl 0 rfl) ?_
  refine lv_iconst (v := (nI 0)) hx hb dX7_plates_1 (by decide) ?_
  obtain ⟨k1, hw⟩ := hw
  refine r_putI X h k1 0 (by decide) rfl inX7 tyX7 tyX7_ok nmX7 (by decide) rfl (Nat.le_of_ble_eq_true rfl) q848 rfl rfl (tyX7_ok 0 (by decide)) rfl rfl dX7_plates_2 (fun H locs h => ?_)
  obtain ⟨S2, eS2⟩ : ∃ z : Mem, z = (sI S a0 0 (nI 0)) := ⟨_, rfl⟩
  rw [← eS2] at h
  have hw := hw S2 eS2
  refine lv_aload_n hx hb dX7_plates_5 rfl (lv_at hl 0 rfl) ?_
  refine r_getI X h (kI eS2 k1) 4  (by decide) rfl inX7 (by decide) rfl q852 rfl dX7_plates_6 ?_
  exact (en_i X h hr hw (Nat.le_of_ble_eq_true rfl) (Nat.le_of_ble_eq_true rfl) dX7_plates_9)
abbrev rmX6_isOnEarlierSide : Room := { frames := 4, cells := 0, slots := 0, locals := 89 }
def wlX6_isOnEarlierSide_3 (a0 : Nat) (a1 : Nat) (p2 : Int32) (p3 : Int32)  (post : Int32 → Mem → Prop)  : Nat → Int32 → Mem → Prop
  | 0 => fun _ _ => False
  | n + 1 => fun w4 S => (p2 ≤ w4 → (vz_nar (nI 0) ∧ (post (nI 0) S))) ∧ (¬ p2 ≤ w4 → (isK S a0 6 ∧ (wpX6_plateFor S a0 a1 (w4 / (nI 2)) (w4 - w4 / (nI 2) * (nI 2)) (fun x5 S3 => (¬ x5 = p3 → (∀ x7 : Int32, x7 = (w4 + (nI 1)) → (wlX6_isOnEarlierSide_3 a0 a1 p2 p3 post n x7 S3))) ∧ (x5 = p3 → (vz_nar (nI 1) ∧ (post (nI 1) S3)))))))
set_option maxHeartbeats 4000000 in
set_option maxRecDepth 100000 in
theorem llX6_isOnEarlierSide_3 {p : Program} {l : Launch} {e : Env} {s : State} {m : MethodId} {args : Array Value} {below : List Frame} {meth : Method} {c : Code} {G : GT} {A : Nat → Prop} (X : Cx p s m args meth c cX6_isOnEarlierSide 5 RX6 G A) (hr : meth.sig.returnType = (some .boolean)) (a0 : Nat) (a1 : Nat) (p2 : Int32) (p3 : Int32)  (post : Int32 → Mem → Prop)   : ∀ (n : Nat) (w4 : Int32) (S : Mem), wlX6_isOnEarlierSide_3 a0 a1 p2 p3 post n w4 S → ∀ (H : Heap) (locs : List Loc) (ls : Array Slot), Hx G A s.heap H locs S → lv_has ls 5 [(0, .ref a0), (1, .ref a1), (2, .int p2), (3, .int p3), (4, .int w4)] → W p l e rmX6_isOnEarlierSide s m args below meth c H locs 0 0 (MQ below (QN emI post G A) args s 0 0 A) (F0 m 3 ls []) := by
  have hx := X.1
  have hb := X.2.1
  have hown := X.2.2.2.1
  intro n
  induction n with
  | zero =>
    intro _ _ hw
    exact hw.elim
  | succ n ih =>
    intro w4 S hw H locs ls h hl
    refine lv_iload hx hb dX6_isOnEarlierSide_3 (lv_at hl 4 rfl) ?_
    refine lv_iload_n hx hb dX6_isOnEarlierSide_5 rfl (lv_at hl 2 rfl) ?_
    refine lv_icmp_ge (tgt := 34) hx hb dX6_isOnEarlierSide_6 (by decide) (fun c1 => ?_) (fun c1 => ?_)
    · have hw := hw.1 c1
      refine lv_iconst (v := (nI 0)) hx hb dX6_isOnEarlierSide_34 (by decide) ?_
      obtain ⟨b2, hw⟩ := hw
      exact (en_z X h hr b2 hw (Nat.le_of_ble_eq_true rfl) (Nat.le_of_ble_eq_true rfl) dX6_isOnEarlierSide_35)
    · have hw := hw.2 c1
      refine lv_aload_n hx hb dX6_isOnEarlierSide_9 rfl (lv_at hl 0 rfl) ?_
      refine lv_aload_n hx hb dX6_isOnEarlierSide_10 rfl (lv_at hl 1 rfl) ?_
      refine lv_iload hx hb dX6_isOnEarlierSide_11 (lv_at hl 4 rfl) ?_
      refine lv_iconst (v := (nI 2)) hx hb dX6_isOnEarlierSide_13 (by decide) ?_
      refine lv_idiv hx hb dX6_isOnEarlierSide_14 (by decide) ?_
      refine lv_iload hx hb dX6_isOnEarlierSide_15 (lv_at hl 4 rfl) ?_
      refine lv_iconst (v := (nI 2)) hx hb dX6_isOnEarlierSide_17 (by decide) ?_
      refine lv_irem hx hb dX6_isOnEarlierSide_18 (by decide) ?_
      obtain ⟨k4, hw⟩ := hw
      refine rc_V (As := [.ref a1, .int (w4 / (nI 2)), .int (w4 - w4 / (nI 2) * (nI 2))]) (rest := []) X h k4 (by decide) rfl (meX6_plateFor l G _ _ _ _ _ _ hw) gV_X6_165 rfl rfl hdV_X6_plateFor rfl ⟨Nat.le_of_ble_eq_true rfl, Nat.le_of_ble_eq_true rfl⟩ hl.1 rfl (Nat.le_of_ble_eq_true rfl) ⟨Nat.le_of_ble_eq_true rfl, Nat.le_of_ble_eq_true rfl⟩ dX6_isOnEarlierSide_19 (fun x5 S3 H locs hw h => ?_)
      refine lv_iload_n hx hb dX6_isOnEarlierSide_22 rfl (lv_at hl 3 rfl) ?_
      refine lv_icmp_ne (tgt := 28) hx hb dX6_isOnEarlierSide_23 (by decide) (fun c6 => ?_) (fun c6 => ?_)
      · have hw := hw.1 c6
        obtain ⟨x7, ex7⟩ : ∃ y : Int32, y = (w4 + (nI 1)) := ⟨_, rfl⟩
        have hw := hw x7 ex7
        refine lv_iinc (v := x7) (lv' := [(4, .int x7), (0, .ref a0), (1, .ref a1), (2, .int p2), (3, .int p3)]) hx hb dX6_isOnEarlierSide_28 hl (k := 4) rfl (by rw [ex7]; rfl) (by decide) rfl (fun ls hl => ?_)
        refine lv_goto (tgt := 3) hx hb dX6_isOnEarlierSide_31 (by decide) ?_
        exact ih _ _ hw _ _ _ h (lv_sub hl [1, 2, 3, 4, 0] rfl)
      · have hw := hw.2 c6
        refine lv_iconst (v := (nI 1)) hx hb dX6_isOnEarlierSide_26 (by decide) ?_
        obtain ⟨b8, hw⟩ := hw
        exact (en_z X h hr b8 hw (Nat.le_of_ble_eq_true rfl) (Nat.le_of_ble_eq_true rfl) dX6_isOnEarlierSide_27)
def wpX6_isOnEarlierSide (S : Mem) (a0 : Nat) (a1 : Nat) (p2 : Int32) (p3 : Int32) (post : Int32 → Mem → Prop) : Prop := ∃ m, wlX6_isOnEarlierSide_3 a0 a1 p2 p3 post m (nI 0) S
set_option maxHeartbeats 4000000 in
set_option maxRecDepth 100000 in
theorem meX6_isOnEarlierSide (l : Launch) (G : GT) (S : Mem) (a0 : Nat) (a1 : Nat) (p2 : Int32) (p3 : Int32) (post : Int32 → Mem → Prop) (hw : wpX6_isOnEarlierSide S a0 a1 p2 p3 post) : CN emI l yX6_isOnEarlierSide (wsU yX6_isOnEarlierSide cX6_isOnEarlierSide 5 (some .boolean)) rmX6_isOnEarlierSide 0 0 G [.ref a0, .ref a1, .int p2, .int p3] S post := by
  refine cn_open RX6 rfl (by decide +kernel) (Nat.le_of_ble_eq_true rfl) ?_
  intro p e s m args below meth c A X h hr hin ls hl
  have hl : lv_has ls 5 [(0, .ref a0), (1, .ref a1), (2, .int p2), (3, .int p3)] := hl
  have hx := X.1
  have hb := X.2.1
  have hown := X.2.2.2.1
  unfold wpX6_isOnEarlierSide at hw
  refine lv_iconst (v := (nI 0)) hx hb dX6_isOnEarlierSide_0 (by decide) ?_
  refine lv_istore (lv' := [(4, .int (nI 0)), (0, .ref a0), (1, .ref a1), (2, .int p2), (3, .int p3)]) hx hb dX6_isOnEarlierSide_1 hl (by decide) rfl (fun ls hl => ?_)
  obtain ⟨n9, hw⟩ := hw
  exact llX6_isOnEarlierSide_3  X hr _ _ _ _ _ n9 _ _ hw _ _ _ h (lv_sub hl [1, 2, 3, 4, 0] rfl)
