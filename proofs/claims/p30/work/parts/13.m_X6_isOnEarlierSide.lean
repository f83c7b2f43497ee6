abbrev rmX6_isOnEarlierSide : Room := { frames := 4, cells := 0, slots := 0, locals := 89 }
def wlX6_isOnEarlierSide_3 (a0 : Nat) (a1 : Nat) (p2 : Int32) (p3 : Int32)  (post : Int32 → Mem → Prop)  : Nat → Int32 → Mem → Prop
  | 0 => fun _ _ => False
  | n + 1 => fun w4 S => (p2 ≤ w4 → (vz_nar (nI 0) ∧ (post (nI 0) S))) ∧ (¬ p2 ≤ w4 → (isK S a0 6 ∧ (wpX6_plateFor S a0 a1 (w4 / (nI 2)) (w4 - w4 / (nI 2) * (nI 2)) (fun x5 S3 => (¬ x5 = p3 → (∀ x7 : Int32, x7 = (w4 + (nI 1)) → (wlX6_isOnEarlierSide_3 a0 a1 p2 p3 post n x7 S3))) ∧ (x5 = p3 → (vz_nar (nI 1) ∧ (post (nI 1) S3)))))))
set_option maxHeartbeats 4000000 in
set_option maxRecDepth 100000 in
theorem llX6_isOnEarlierSide_3 {p : Program} {l : Launch} {e : Env} {s : State} {m : MethodId} {args : Array Value} {below : List Frame} {meth : Method} {c : Code} {G : GT} {A : Nat → Prop} (X : Cx p s m args meth c cX6_isOnEarlierSide 5 RX6 G A) (hr : meth.sig.returnType = (some .boolean)) (a0 : Nat) (a1 : Nat) (p2 : Int32) (p3 : Int32)  (post : Int32 → Mem → Prop)   : ∀ (n : Nat) (w4 : Int32) (S : Mem), wlX6_isOnEarlierSide_3 a0 a1 p2 p3 post n w4 S → ∀ (H : Heap) (locs : List Loc) (ls : Array Slot), Hx G A s.heap H locs S → lv_has ls 5 [(0, .ref a0), (1, .ref a1), (2, .int p2), (3, .int p3), (4, .int w4)] → W p l e rmX6_isOnEarlierSide s m args below meth c H locs 0 0 (MQ below (QN emI post G A) args s 0 0 A) (F0 m 3 ls []) := by
  have hx := X.1
  have hb := X.2.1
  have hown := X.2.2.2.1
  intro n
  induction n with
  | zero =>
    intro _ _ hw
    exact hw.elim
  | succ n ih =>
    intro w4 S hw H locs ls h hl
    refine lv_iload hx hb dX6_isOnEarlierSide_3 (lv_at hl 4 rfl) ?_
    refine lv_iload_n hx hb dX6_isOnEarlierSide_5 rfl (lv_at hl 2 rfl) ?_
    refine lv_icmp_ge (tgt := 34) hx hb dX6_isOnEarlierSide_6 (by decide) (fun c1 => ?_) (fun c1 => ?_)
    · have hw := hw.1 c1
      refine lv_iconst (v := (nI 0)) hx hb dX6_isOnEarlierSide_34 (by decide) ?_
      obtain ⟨b2, hw⟩ := hw
      exact (en_z X h hr b2 hw (Nat.le_of_ble_eq_true rfl) (Nat.le_of_ble_eq_true rfl) dX6_isOnEarlierSide_35)
    · have hw := hw.2 c1
      refine lv_aload_n hx hb dX6_isOnEarlierSide_9 rfl (lv_at hl 0 rfl) ?_
      refine lv_aload_n hx hb dX6_isOnEarlierSide_10 rfl (lv_at hl 1 rfl) ?_
      refine lv_iload hx hb dX6_isOnEarlierSide_11 (lv_at hl 4 rfl) ?_
      refine lv_iconst (v := (nI 2)) hx hb dX6_isOnEarlierSide_13 (by decide) ?_
      refine lv_idiv hx hb dX6_isOnEarlierSide_14 (by decide) ?_
      refine lv_iload hx hb dX6_isOnEarlierSide_15 (lv_at hl 4 rfl) ?_
      refine lv_iconst (v := (nI 2)) hx hb dX6_isOnEarlierSide_17 (by decide) ?_
      refine lv_irem hx hb dX6_isOnEarlierSide_18 (by decide) ?_
      obtain ⟨k4, hw⟩ := hw
      refine rc_V (As := [.ref a1, .int (w4 / (nI 2)), .int (w4 - w4 / (nI 2) * (nI 2))]) (rest := []) X h k4 (by decide) rfl (meX6_plateFor l G _ _ _ _ _ _ hw) gV_X6_165 rfl rfl hdV_X6_plateFor rfl ⟨Nat.le_of_ble_eq_true rfl, Nat.le_of_ble_eq_true rfl⟩ hl.1 rfl (Nat.le_of_ble_eq_true rfl) ⟨Nat.le_of_ble_eq_true rfl, Nat.le_of_ble_eq_true rfl⟩ dX6_isOnEarlierSide_19 (fun x5 S3 H locs hw h => ?_)
      refine lv_iload_n hx hb dX6_isOnEarlierSide_22 rfl (lv_at hl 3 rfl) ?_
      refine lv_icmp_ne (tgt := 28) hx hb dX6_isOnEarlierSide_23 (by decide) (fun c6 => ?_) (fun c6 => ?_)
      · have hw := hw.1 c6
        obtain ⟨x7, ex7⟩ : ∃ y : Int32, y = (w4 + (nI 1)) := ⟨_, rfl⟩
        have hw := hw x7 ex7
        refine lv_iinc (v := x7) (lv' := [(4, .int x7), (0, .ref a0), (1, .ref a1), (2, .int p2), (3, .int p3)]) hx hb dX6_isOnEarlierSide_28 hl (k := 4) rfl (by rw [ex7]; rfl) (by decide) rfl (fun ls hl => ?_)
        refine lv_goto (tgt := 3) hx hb dX6_isOnEarlierSide_31 (by decide) ?_
        exact ih _ _ hw _ _ _ h (lv_sub hl [1, 2, 3, 4, 0] rfl)
      · have hw := hw.2 c6
        refine lv_iconst (v := (nI 1)) hx hb dX6_isOnEarlierSide_26 (by decide) ?_
        obtain ⟨b8, hw⟩ := hw
        exact (en_z X h hr b8 hw (Nat.le_of_ble_eq_true rfl) (Nat.le_of_ble_eq_true rfl) dX6_isOnEarlierSide_27)
def wpX6_isOnEarlierSide (S : Mem) (a0 : Nat) (a1 : Nat) (p2 : Int32) (p3 : Int32) (post : Int32 → Mem → Prop) : Prop := ∃ m, wlX6_isOnEarlierSide_3 a0 a1 p2 p3 post m (nI 0) S
set_option maxHeartbeats 4000000 in
set_option maxRecDepth 100000 in
theorem meX6_isOnEarlierSide (l : Launch) (G : GT) (S : Mem) (a0 : Nat) (a1 : Nat) (p2 : Int32) (p3 : Int32) (post : Int32 → Mem → Prop) (hw : wpX6_isOnEarlierSide S a0 a1 p2 p3 post) : CN emI l yX6_isOnEarlierSide (wsU yX6_isOnEarlierSide cX6_isOnEarlierSide 5 (some .boolean)) rmX6_isOnEarlierSide 0 0 G [.ref a0, .ref a1, .int p2, .int p3] S post := by
  refine cn_open RX6 rfl (by decide +kernel) (Nat.le_of_ble_eq_true rfl) ?_
  intro p e s m args below meth c A X h hr hin ls hl
  have hl : lv_has ls 5 [(0, .ref a0), (1, .ref a1), (2, .int p2), (3, .int p3)] := hl
  have hx := X.1
  have hb := X.2.1
  have hown := X.2.2.2.1
  unfold wpX6_isOnEarlierSide at hw
  refine lv_iconst (v := (nI 0)) hx hb dX6_isOnEarlierSide_0 (by decide) ?_
  refine lv_istore (lv' := [(4, .int (nI 0)), (0, .ref a0), (1, .ref a1), (2, .int p2), (3, .int p3)]) hx hb dX6_isOnEarlierSide_1 hl (by decide) rfl (fun ls hl => ?_)
  obtain ⟨n9, hw⟩ := hw
  exact llX6_isOnEarlierSide_3  X hr _ _ _ _ _ n9 _ _ hw _ _ _ h (lv_sub hl [1, 2, 3, 4, 0] rfl)
abbrev rmX6_platesNeeded : Room := { frames := 8, cells := 2, slots := 12, locals := 134 }
def wlX6_platesNeeded_19 (a0 : Nat) (p1 : Int32) (o4 : Nat) (x8 : Int32) (post : Int32 → Mem → Prop) (px : Nat → Mem → Prop)  : Nat → Int32 → Int32 → Mem → Prop
  | 0 => fun _ _ _ => False
  | n + 1 => fun w3 w5 S => (x8 ≤ w5 → (post w3 S)) ∧ (¬ x8 ≤ w5 → (isK S a0 6 ∧ (wpX6_plateFor S a0 o4 (w5 / (nI 2)) (w5 - w5 / (nI 2) * (nI 2)) (fun x12 S10 => isK S10 a0 6 ∧ (∃ o14, mR S10 a0 3 = some o14 ∧ (isK S10 o14 4 ∧ (wpX4_has S10 o14 x12 (fun x17 S15 => (¬ x17 = 0 → (∀ x19 : Int32, x19 = (w5 + (nI 1)) → (wlX6_platesNeeded_19 a0 p1 o4 x8 post px n w3 x19 S15))) ∧ (x17 = 0 → (isK S15 a0 6 ∧ (wpX6_isOnEarlierSide S15 a0 o4 w5 x12 (fun x22 S20 => (¬ x22 = 0 → (∀ x24 : Int32, x24 = (w5 + (nI 1)) → (wlX6_platesNeeded_19 a0 p1 o4 x8 post px n w3 x24 S20))) ∧ (x22 = 0 → (∀ x25 : Int32, x25 = (w3 + (nI 1)) → (∀ x26 : Int32, x26 = (w5 + (nI 1)) → (wlX6_platesNeeded_19 a0 p1 o4 x8 post px n x25 x26 S20))))))))))))))))
set_option maxHeartbeats 4000000 in
set_option maxRecDepth 100000 in
theorem llX6_platesNeeded_19 {p : Program} {l : Launch} {e : Env} {s : State} {m : MethodId} {args : Array Value} {below : List Frame} {meth : Method} {c : Code} {G : GT} {A : Nat → Prop} (hl9 : l.stackTraces = false) (hno : ∀ x ∈ c.exceptionTable.toList, False) (X : Cx p s m args meth c cX6_platesNeeded 7 RX6 G A) (hr : meth.sig.returnType = (some .int)) (a0 : Nat) (p1 : Int32) (o4 : Nat) (x8 : Int32) (post : Int32 → Mem → Prop) (px : Nat → Mem → Prop)   : ∀ (n : Nat) (w3 : Int32) (w5 : Int32) (S : Mem), wlX6_platesNeeded_19 a0 p1 o4 x8 post px n w3 w5 S → ∀ (H : Heap) (locs : List Loc) (ls : Array Slot), Hx G A s.heap H locs S → lv_has ls 7 [(0, .ref a0), (1, .int p1), (2, .ref o4), (3, .int w3), (4, .int x8), (5, .int w5)] → W p l e rmX6_platesNeeded s m args below meth c H locs 2 12 (vx_MQ below (QN emI post G A) (QX px G A) args s 2 12 A) (F0 m 19 ls []) := by
  have hx := X.1
  have hb := X.2.1
  have hown := X.2.2.2.1
  intro n
  induction n with
  | zero =>
    intro _ _ _ hw
    exact hw.elim
  | succ n ih =>
    intro w3 w5 S hw H locs ls h hl
    refine lv_iload hx hb dX6_platesNeeded_19 (lv_at hl 5 rfl) ?_
    refine lv_iload hx hb dX6_platesNeeded_21 (lv_at hl 4 rfl) ?_
    refine lv_icmp_ge (tgt := 74) hx hb dX6_platesNeeded_23 (by decide) (fun c9 => ?_) (fun c9 => ?_)
    · have hw := hw.1 c9
      refine lv_iload_n hx hb dX6_platesNeeded_74 rfl (lv_at hl 3 rfl) ?_
      exact vx_ret (en_i X h hr hw (Nat.le_of_ble_eq_true rfl) (Nat.le_of_ble_eq_true rfl) dX6_platesNeeded_75)
    · have hw := hw.2 c9
      refine lv_aload_n hx hb dX6_platesNeeded_26 rfl (lv_at hl 0 rfl) ?_
      refine lv_aload_n hx hb dX6_platesNeeded_27 rfl (lv_at hl 2 rfl) ?_
      refine lv_iload hx hb dX6_platesNeeded_28 (lv_at hl 5 rfl) ?_
      refine lv_iconst (v := (nI 2)) hx hb dX6_platesNeeded_30 (by decide) ?_
      refine lv_idiv hx hb dX6_platesNeeded_31 (by decide) ?_
      refine lv_iload hx hb dX6_platesNeeded_32 (lv_at hl 5 rfl) ?_
      refine lv_iconst (v := (nI 2)) hx hb dX6_platesNeeded_34 (by decide) ?_
      refine lv_irem hx hb dX6_platesNeeded_35 (by decide) ?_
      obtain ⟨k11, hw⟩ := hw
      refine rc_V (As := [.ref o4, .int (w5 / (nI 2)), .int (w5 - w5 / (nI 2) * (nI 2))]) (rest := []) X h k11 (by decide) rfl (meX6_plateFor l G _ _ _ _ _ _ hw) gV_X6_165 rfl rfl hdV_X6_plateFor rfl ⟨Nat.le_of_ble_eq_true rfl, Nat.le_of_ble_eq_true rfl⟩ hl.1 rfl (Nat.le_of_ble_eq_true rfl) ⟨Nat.le_of_ble_eq_true rfl, Nat.le_of_ble_eq_true rfl⟩ dX6_platesNeeded_36 (fun x12 S10 H locs hw h => ?_)
      refine lv_istore (lv' := [(6, .int x12), (0, .ref a0), (1, .int p1), (2, .ref o4), (3, .int w3), (4, .int x8), (5, .int w5)]) hx hb dX6_platesNeeded_39 hl (by decide) rfl (fun ls hl => ?_)
      refine lv_aload_n hx hb dX6_platesNeeded_41 rfl (lv_at hl 1 rfl) ?_
      obtain ⟨k13, hw⟩ := hw
      obtain ⟨o14, eo14, hw⟩ := hw
      refine r_getR X h k13 3 eo14  (by decide) rfl inX6 (by decide) rfl q123 rfl dX6_platesNeeded_42 ?_
      refine lv_iload hx hb dX6_platesNeeded_45 (lv_at hl 0 rfl) ?_
      obtain ⟨k16, hw⟩ := hw
      refine rc_V (As := [.int x12]) (rest := []) X h k16 (by decide) rfl (meX4_has l G _ _ _ _ hw) gV_X6_216 rfl rfl hdV_X4_has rfl ⟨Nat.le_of_ble_eq_true rfl, Nat.le_of_ble_eq_true rfl⟩ hl.1 rfl (Nat.le_of_ble_eq_true rfl) ⟨Nat.le_of_ble_eq_true rfl, Nat.le_of_ble_eq_true rfl⟩ dX6_platesNeeded_47 (fun x17 S15 H locs hw h => ?_)
      refine lv_if_ne (tgt := 68) hx hb dX6_platesNeeded_50 (by decide) (fun c18 => ?_) (fun c18 => ?_)
      · have hw := hw.1 c18
        obtain ⟨x19, ex19⟩ : ∃ y : Int32, y = (w5 + (nI 1)) := ⟨_, rfl⟩
        have hw := hw x19 ex19
        refine lv_iinc (v := x19) (lv' := [(5, .int x19), (6, .int x12), (0, .ref a0), (1, .int p1), (2, .ref o4), (3, .int w3), (4, .int x8)]) hx hb dX6_platesNeeded_68 hl (k := 6) rfl (by rw [ex19]; rfl) (by decide) rfl (fun ls hl => ?_)
        refine lv_goto (tgt := 19) hx hb dX6_platesNeeded_71 (by decide) ?_
        exact ih _ _ _ hw _ _ _ h (lv_sub hl [2, 3, 4, 5, 6, 0] rfl)
      · have hw := hw.2 c18
        refine lv_aload_n hx hb dX6_platesNeeded_53 rfl (lv_at hl 1 rfl) ?_
        refine lv_aload_n hx hb dX6_platesNeeded_54 rfl (lv_at hl 3 rfl) ?_
        refine lv_iload hx hb dX6_platesNeeded_55 (lv_at hl 6 rfl) ?_
        refine lv_iload hx hb dX6_platesNeeded_57 (lv_at hl 0 rfl) ?_
        obtain ⟨k21, hw⟩ := hw
        refine rc_V (As := [.ref o4, .int w5, .int x12]) (rest := []) X h k21 (by decide) rfl (meX6_isOnEarlierSide l G _ _ _ _ _ _ hw) gV_X6_219 rfl rfl hdV_X6_isOnEarlierSide rfl ⟨Nat.le_of_ble_eq_true rfl, Nat.le_of_ble_eq_true rfl⟩ hl.1 rfl (Nat.le_of_ble_eq_true rfl) ⟨Nat.le_of_ble_eq_true rfl, Nat.le_of_ble_eq_true rfl⟩ dX6_platesNeeded_59 (fun x22 S20 H locs hw h => ?_)
        refine lv_if_ne (tgt := 68) hx hb dX6_platesNeeded_62 (by decide) (fun c23 => ?_) (fun c23 => ?_)
        · have hw := hw.1 c23
          obtain ⟨x24, ex24⟩ : ∃ y : Int32, y = (w5 + (nI 1)) := ⟨_, rfl⟩
          have hw := hw x24 ex24
          refine lv_iinc (v := x24) (lv' := [(5, .int x24), (6, .int x12), (0, .ref a0), (1, .int p1), (2, .ref o4), (3, .int w3), (4, .int x8)]) hx hb dX6_platesNeeded_68 hl (k := 6) rfl (by rw [ex24]; rfl) (by decide) rfl (fun ls hl => ?_)
          refine lv_goto (tgt := 19) hx hb dX6_platesNeeded_71 (by decide) ?_
          exact ih _ _ _ hw _ _ _ h (lv_sub hl [2, 3, 4, 5, 6, 0] rfl)
        · have hw := hw.2 c23
          obtain ⟨x25, ex25⟩ : ∃ y : Int32, y = (w3 + (nI 1)) := ⟨_, rfl⟩
          have hw := hw x25 ex25
          refine lv_iinc (v := x25) (lv' := [(3, .int x25), (6, .int x12), (0, .ref a0), (1, .int p1), (2, .ref o4), (4, .int x8), (5, .int w5)]) hx hb dX6_platesNeeded_65 hl (k := 4) rfl (by rw [ex25]; rfl) (by decide) rfl (fun ls hl => ?_)
          obtain ⟨x26, ex26⟩ : ∃ y : Int32, y = (w5 + (nI 1)) := ⟨_, rfl⟩
          have hw := hw x26 ex26
          refine lv_iinc (v := x26) (lv' := [(5, .int x26), (3, .int x25), (6, .int x12), (0, .ref a0), (1, .int p1), (2, .ref o4), (4, .int x8)]) hx hb dX6_platesNeeded_68 hl (k := 6) rfl (by rw [ex26]; rfl) (by decide) rfl (fun ls hl => ?_)
          refine lv_goto (tgt := 19) hx hb dX6_platesNeeded_71 (by decide) ?_
          exact ih _ _ _ hw _ _ _ h (lv_sub hl [3, 4, 5, 1, 6, 0] rfl)
def wpX6_platesNeeded (S : Mem) (a0 : Nat) (p1 : Int32) (post : Int32 → Mem → Prop) (px : Nat → Mem → Prop) : Prop := isK S a0 6 ∧ (wpX6_completeJob S a0 p1 (fun r3 S1 => ∃ o4, r3 = some o4 ∧ (isK S1 o4 1 ∧ (wpX1_sheetCount S1 o4 (fun x7 S5 => ∀ x8 : Int32, x8 = ((nI 2) * x7) → (∃ m, wlX6_platesNeeded_19 a0 p1 o4 x8 post px m (nI 0) (nI 0) S5))))) px)
set_option maxHeartbeats 4000000 in
set_option maxRecDepth 100000 in
theorem meX6_platesNeeded (l : Launch) (hl9 : l.stackTraces = false) (G : GT) (S : Mem) (a0 : Nat) (p1 : Int32) (post : Int32 → Mem → Prop) (px : Nat → Mem → Prop) (hw : wpX6_platesNeeded S a0 p1 post px) : CX emI l yX6_platesNeeded (wsU yX6_platesNeeded cX6_platesNeeded 7 (some .int)) rmX6_platesNeeded 2 12 G [.ref a0, .int p1] S post px := by
  refine cx_open RX6 rfl (by decide +kernel) (Nat.le_of_ble_eq_true rfl) ?_
  intro p e s m args below meth c A X h hr hno ls hl
  have hl : lv_has ls 7 [(0, .ref a0), (1, .int p1)] := hl
  have hx := X.1
  have hb := X.2.1
  have hown := X.2.2.2.1
  unfold wpX6_platesNeeded at hw
  refine lv_aload_n hx hb dX6_platesNeeded_0 rfl (lv_at hl 0 rfl) ?_
  refine lv_iload_n hx hb dX6_platesNeeded_1 rfl (lv_at hl 1 rfl) ?_
  obtain ⟨k2, hw⟩ := hw
  refine rx_V (As := [.int p1]) (rest := []) X h hno k2 (by decide) rfl (meX6_completeJob l hl9 G _ _ _ _ _ hw) gV_X6_121 rfl rfl hdV_X6_completeJob rfl ⟨Nat.le_of_ble_eq_true rfl, Nat.le_of_ble_eq_true rfl⟩ hl.1 rfl (Nat.le_of_ble_eq_true rfl) ⟨Nat.le_of_ble_eq_true rfl, Nat.le_of_ble_eq_true rfl⟩ ⟨Nat.le_of_ble_eq_true rfl, Nat.le_of_ble_eq_true rfl⟩ dX6_platesNeeded_2 (fun r3 S1 H locs hw h => ?_)
  obtain ⟨o4, rfl, hw⟩ := hw
  refine lv_astore_n (lv' := [(2, .ref o4), (0, .ref a0), (1, .int p1)]) hx hb dX6_platesNeeded_5 rfl hl (by decide) rfl (fun ls hl => ?_)
  refine lv_iconst (v := (nI 0)) hx hb dX6_platesNeeded_6 (by decide) ?_
  refine lv_istore_n (lv' := [(3, .int (nI 0)), (2, .ref o4), (0, .ref a0), (1, .int p1)]) hx hb dX6_platesNeeded_7 rfl hl (by decide) rfl (fun ls hl => ?_)
  refine lv_iconst (v := (nI 2)) hx hb dX6_platesNeeded_8 (by decide) ?_
  refine lv_aload_n hx hb dX6_platesNeeded_9 rfl (lv_at hl 1 rfl) ?_
  obtain ⟨k6, hw⟩ := hw
  refine rc_V (As := []) (rest := [.int (nI 2)]) X h k6 (by decide) rfl (meX1_sheetCount l G _ _ _ hw) gV_X6_124 rfl rfl hdV_X1_sheetCount rfl ⟨Nat.le_of_ble_eq_true rfl, Nat.le_of_ble_eq_true rfl⟩ hl.1 rfl (Nat.le_of_ble_eq_true rfl) ⟨Nat.le_of_ble_eq_true rfl, Nat.le_of_ble_eq_true rfl⟩ dX6_platesNeeded_10 (fun x7 S5 H locs hw h => ?_)
  refine lv_imul hx hb dX6_platesNeeded_13 ?_
  refine lv_topi (fun x8 ex8 => ?_)
  have hw := hw x8 ex8
  refine lv_istore (lv' := [(4, .int x8), (3, .int (nI 0)), (2, .ref o4), (0, .ref a0), (1, .int p1)]) hx hb dX6_platesNeeded_14 hl (by decide) rfl (fun ls hl => ?_)
  refine lv_iconst (v := (nI 0)) hx hb dX6_platesNeeded_16 (by decide) ?_
  refine lv_istore (lv' := [(5, .int (nI 0)), (4, .int x8), (3, .int (nI 0)), (2, .ref o4), (0, .ref a0), (1, .int p1)]) hx hb dX6_platesNeeded_17 hl (by decide) rfl (fun ls hl => ?_)
  obtain ⟨n27, hw⟩ := hw
  exact llX6_platesNeeded_19 hl9 hno X hr _ _ _ _ _ _ n27 _ _ _ hw _ _ _ h (lv_sub hl [4, 5, 3, 2, 1, 0] rfl)
abbrev rmL_platesNeeded : Room := { frames := 9, cells := 2, slots := 12, locals := 160 }
def wpL_platesNeeded (S : Mem) (a0 : Nat) (p1 : Int32) (post : Int32 → Mem → Prop) : Prop := isK S a0 6 ∧ (wpX6_platesNeeded S a0 p1 (fun x3 S1 => post x3 S1) (fun k4 S5 => (k4 = 1 → (post (-77 : Int32) S5)) ∧ (k4 = 2 → (post (-79 : Int32) S5)) ∧ (k4 = 1 ∨ k4 = 2)))
set_option maxHeartbeats 4000000 in
set_option maxRecDepth 100000 in
theorem meL_platesNeeded (l : Launch) (hl9 : l.stackTraces = false) (G : GT) (S : Mem) (a0 : Nat) (p1 : Int32) (post : Int32 → Mem → Prop) (hw : wpL_platesNeeded S a0 p1 post) : CN emI l yL_platesNeeded (wsH yL_platesNeeded cL_platesNeeded 3 (some .int) [(0, 5, 6, 26), (0, 5, 10, 20)]) rmL_platesNeeded 2 12 G [.ref a0, .int p1] S post := by
  refine ch_open RL rfl (by decide +kernel) (Nat.le_of_ble_eq_true rfl) ?_
  intro p e s m args below meth c A X h hr hTab ls hl
  have hl : lv_has ls 3 [(0, .ref a0), (1, .int p1)] := hl
  have hx := X.1
  have hb := X.2.1
  have hown := X.2.2.2.1
  unfold wpL_platesNeeded at hw
  refine lv_aload_n hx hb dL_platesNeeded_0 rfl (lv_at hl 0 rfl) ?_
  refine lv_iload_n hx hb dL_platesNeeded_1 rfl (lv_at hl 1 rfl) ?_
  obtain ⟨k2, hw⟩ := hw
  refine rx_VH (As := [.int p1]) (rest := []) X h k2 (by decide) rfl (meX6_platesNeeded l hl9 G _ _ _ _ _ hw) gV_L_77 rfl rfl hdV_X6_platesNeeded rfl ⟨Nat.le_of_ble_eq_true rfl, Nat.le_of_ble_eq_true rfl⟩ hl.1 rfl (Nat.le_of_ble_eq_true rfl) ⟨Nat.le_of_ble_eq_true rfl, Nat.le_of_ble_eq_true rfl⟩ dL_platesNeeded_2 (fun k4 S5 H locs q9 ce hw h hce hcv hcl => ?_) (fun x3 S1 H locs hw h => ?_)
  · rcases hw.2.2 with hk9 | hk9
    · subst hk9
      have hw := hw.1 rfl
      refine vx_catch (own := RL) (name := "java/lang/IndexOutOfBoundsException") (E := xn 1) hown [] ⟨0, 5, 6, 26⟩ [⟨0, 5, 10, 20⟩] (by rw [hTab]; rfl) (fun z hz => nomatch hz) (by decide) (by decide) (X.hts q262) (va_Nw.use (by rfl) (X.nw q296)) hce hcv hcl ?_
      refine lv_astore_n (lv' := [(2, .ref q9), (0, .ref a0), (1, .int p1)]) hx hb dL_platesNeeded_6 rfl hl (by decide) rfl (fun ls hl => ?_)
      refine lv_bipush (v := (-77 : Int32)) hx hb dL_platesNeeded_7 (by decide) ?_
      exact (en_i X h hr hw (Nat.le_of_ble_eq_true rfl) (Nat.le_of_ble_eq_true rfl) dL_platesNeeded_9)
    · subst hk9
      have hw := hw.2.1 rfl
      have hpass2 : ∀ z ∈ ([⟨0, 5, 6, 26⟩] : List ExceptionTableEntry), covers z 2 = false ∨ (z.catchType ≠ 0 ∧ ∃ nm : String, (Cond.classLink RL z.catchType nm).before args s = true ∧ va_Nc (xn 2) nm s) := by
        intro z hz
        rcases List.mem_cons.mp hz with rfl | hz
        · exact Or.inr ⟨by decide, "java/lang/IndexOutOfBoundsException", X.hts q262, X.2.2.2.2.2.2.1.2.2.2.2.1 ("java/lang/IllegalStateException", "java/lang/IndexOutOfBoundsException") (by decide +kernel)⟩
        cases hz
      refine vx_catch (own := RL) (name := "java/lang/IllegalStateException") (E := xn 2) hown [⟨0, 5, 6, 26⟩] ⟨0, 5, 10, 20⟩ [] (by rw [hTab]; rfl) (hpass2) (by decide) (by decide) (X.hts q179) (va_Nw.use (by rfl) (X.nw q186)) hce hcv hcl ?_
      refine lv_astore_n (lv' := [(2, .ref q9), (0, .ref a0), (1, .int p1)]) hx hb dL_platesNeeded_10 rfl hl (by decide) rfl (fun ls hl => ?_)
      refine lv_bipush (v := (-79 : Int32)) hx hb dL_platesNeeded_11 (by decide) ?_
      exact (en_i X h hr hw (Nat.le_of_ble_eq_true rfl) (Nat.le_of_ble_eq_true rfl) dL_platesNeeded_13)
  · exact (en_i X h hr hw (Nat.le_of_ble_eq_true rfl) (Nat.le_of_ble_eq_true rfl) dL_platesNeeded_5)
abbrev rmL_areJobs : Room := { frames := 10, cells := 1696, slots := 10220, locals := 182 }
theorem rcL_areJobs {a : Nat} (h : a ≤ 1696) : a ≤ rmL_areJobs.cells := h
theorem rsL_areJobs {a : Nat} (h : a ≤ 10220) : a ≤ rmL_areJobs.slots := h
def wcL_areJobs_370 (a0 : Nat) (p1 : Int64) (a3 : Nat) (a4 : Nat) (post : Int32 → Mem → Prop) (J : Int64 → Int32 → Int32 → Mem → Prop) (w5 : Int64) (w7 : Int32) (w8 : Int32) (S : Mem) : Prop := ∀ x35 : Int32, x35 = (w8 + (nI 1)) → (J w5 w7 x35 S)
set_option maxHeartbeats 8000000 in
set_option maxRecDepth 100000 in
theorem lcL_areJobs_370 {p : Program} {l : Launch} {e : Env} {s : State} {m : MethodId} {args : Array Value} {below : List Frame} {meth : Method} {c : Code} {G : GT} {A : Nat → Prop} (X : Cx p s m args meth c cL_areJobs 16 RL G A) (hr : meth.sig.returnType = (some .boolean)) (hl9 : l.stackTraces = false) (a0 : Nat) (p1 : Int64) (a3 : Nat) (a4 : Nat) (post : Int32 → Mem → Prop) (J : Int64 → Int32 → Int32 → Mem → Prop) (Bc Bs : Nat) (hJ : ∀ (w5 : Int64) (w7 : Int32) (w8 : Int32) (S : Mem), J w5 w7 w8 S → ∀ (H : Heap) (locs : List Loc) (ls : Array Slot) (kc ks : Nat), kc + Bc ≤ 1696 → ks + Bs ≤ 10220 → Hx G A s.heap H locs S → lv_has ls 16 [(0, .ref a0), (1, .long p1), (3, .ref a3), (4, .ref a4), (5, .long w5), (7, .int w7), (8, .int w8)] → W p l e rmL_areJobs s m args below meth c H locs kc ks (MQ below (QN emI post G A) args s 1696 10220 A) (F0 m 12 ls [])) : ∀ (w5 : Int64) (w7 : Int32) (w8 : Int32) (S : Mem) (hw : wcL_areJobs_370 a0 p1 a3 a4 post J w5 w7 w8 S) (H : Heap) (locs : List Loc) (ls : Array Slot) (kc ks : Nat), kc + (0 + Bc) ≤ 1696 → ks + (0 + Bs) ≤ 10220 → Hx G A s.heap H locs S → lv_has ls 16 [(0, .ref a0), (1, .long p1), (3, .ref a3), (4, .ref a4), (5, .long w5), (7, .int w7), (8, .int w8)] → W p l e rmL_areJobs s m args below meth c H locs kc ks (MQ below (QN emI post G A) args s 1696 10220 A) (F0 m 370 ls []) := by
  have hx := X.1
  have hb := X.2.1
  have hown := X.2.2.2.1
  intro w5 w7 w8 S hw H locs ls kc ks hkc hks h hl
  unfold wcL_areJobs_370 at hw
  obtain ⟨x35, ex35⟩ : ∃ y : Int32, y = (w8 + (nI 1)) := ⟨_, rfl⟩
  have hw := hw x35 ex35
  refine lv_iinc (v := x35) (lv' := [(8, .int x35), (0, .ref a0), (1, .long p1), (3, .ref a3), (4, .ref a4), (5, .long w5), (7, .int w7)]) hx hb dL_areJobs_370 hl (k := 6) rfl (by rw [ex35]; rfl) (by decide) rfl (fun ls hl => ?_)
  refine lv_goto (tgt := 12) hx hb dL_areJobs_373 (by decide) ?_
  exact hJ _ _ _ _ hw _ _ _ _ _ (by omega) (by omega) h (lv_sub hl [1, 2, 3, 4, 5, 6, 0] rfl)
def wcL_areJobs_338 (a0 : Nat) (p1 : Int64) (a3 : Nat) (a4 : Nat) (post : Int32 → Mem → Prop) (J : Int64 → Int32 → Int32 → Mem → Prop) (w5 : Int64) (w7 : Int32) (w8 : Int32) (w10 : Int32) (S : Mem) : Prop := (w10 = 0 → (∀ x34 : Int32, x34 = (w7 &&& (nI 1)) → (wcL_areJobs_370 a0 p1 a3 a4 post J w5 x34 w8 S))) ∧ (¬ w10 = 0 → (wpL_platesNeeded S a0 w8 (fun x37 S36 => wpL_sheets S36 a0 w8 (fun x39 S38 => (((nI 2) * x39) < x37 → (False)) ∧ (¬ ((nI 2) * x39) < x37 → (∀ x41 : Int32, x41 = (w7 &&& (nI 1)) → (wcL_areJobs_370 a0 p1 a3 a4 post J w5 x41 w8 S38)))))))
set_option maxHeartbeats 8000000 in
set_option maxRecDepth 100000 in
theorem lcL_areJobs_338 {p : Program} {l : Launch} {e : Env} {s : State} {m : MethodId} {args : Array Value} {below : List Frame} {meth : Method} {c : Code} {G : GT} {A : Nat → Prop} (X : Cx p s m args meth c cL_areJobs 16 RL G A) (hr : meth.sig.returnType = (some .boolean)) (hl9 : l.stackTraces = false) (a0 : Nat) (p1 : Int64) (a3 : Nat) (a4 : Nat) (post : Int32 → Mem → Prop) (J : Int64 → Int32 → Int32 → Mem → Prop) (Bc Bs : Nat) (hJ : ∀ (w5 : Int64) (w7 : Int32) (w8 : Int32) (S : Mem), J w5 w7 w8 S → ∀ (H : Heap) (locs : List Loc) (ls : Array Slot) (kc ks : Nat), kc + Bc ≤ 1696 → ks + Bs ≤ 10220 → Hx G A s.heap H locs S → lv_has ls 16 [(0, .ref a0), (1, .long p1), (3, .ref a3), (4, .ref a4), (5, .long w5), (7, .int w7), (8, .int w8)] → W p l e rmL_areJobs s m args below meth c H locs kc ks (MQ below (QN emI post G A) args s 1696 10220 A) (F0 m 12 ls [])) : ∀ (w5 : Int64) (w7 : Int32) (w8 : Int32) (w10 : Int32) (S : Mem) (hw : wcL_areJobs_338 a0 p1 a3 a4 post J w5 w7 w8 w10 S) (H : Heap) (locs : List Loc) (ls : Array Slot) (kc ks : Nat), kc + (4 + Bc) ≤ 1696 → ks + (24 + Bs) ≤ 10220 → Hx G A s.heap H locs S → lv_has ls 16 [(0, .ref a0), (1, .long p1), (3, .ref a3), (4, .ref a4), (5, .long w5), (7, .int w7), (8, .int w8), (10, .int w10)] → W p l e rmL_areJobs s m args below meth c H locs kc ks (MQ below (QN emI post G A) args s 1696 10220 A) (F0 m 338 ls []) := by
  have hx := X.1
  have hb := X.2.1
  have hown := X.2.2.2.1
  intro w5 w7 w8 w10 S hw H locs ls kc ks hkc hks h hl
  unfold wcL_areJobs_338 at hw
  refine lv_iload hx hb dL_areJobs_338 (lv_at hl 5 rfl) ?_
  refine lv_iload hx hb dL_areJobs_340 (lv_at hl 7 rfl) ?_
  refine lv_if_eq (tgt := 362) hx hb dL_areJobs_342 (by decide) (fun c33 => ?_) (fun c33 => ?_)
  · have hw := hw.1 c33
    refine lv_iconst (v := (nI 1)) hx hb dL_areJobs_362 (by decide) ?_
    refine lv_goto (tgt := 367) hx hb dL_areJobs_363 (by decide) ?_
    refine lv_iand hx hb dL_areJobs_367 ?_
    refine lv_topi (fun x34 ex34 => ?_)
    have hw := hw x34 ex34
    refine lv_istore (lv' := [(7, .int x34), (0, .ref a0), (1, .long p1), (3, .ref a3), (4, .ref a4), (5, .long w5), (8, .int w8), (10, .int w10)]) hx hb dL_areJobs_368 hl (by decide) rfl (fun ls hl => ?_)
    exact lcL_areJobs_370 X hr hl9 _ _ _ _ _ _ Bc Bs hJ _ _ _ _ hw _ _ _ _ _ (by omega) (by omega) h (lv_sub hl [1, 2, 3, 4, 5, 0, 6] rfl)
  · have hw := hw.2 c33
    refine lv_aload_n hx hb dL_areJobs_345 rfl (lv_at hl 0 rfl) ?_
    refine lv_iload hx hb dL_areJobs_346 (lv_at hl 6 rfl) ?_
    refine rc_H (As := [.ref a0, .int w8]) (rest := [.int w7]) X h (meL_platesNeeded l hl9 G _ _ _ _ hw) gS_L_138 rfl rfl hdS_L_platesNeeded rfl ⟨Nat.le_of_ble_eq_true rfl, Nat.le_of_ble_eq_true rfl⟩ hl.1 rfl (Nat.le_of_ble_eq_true rfl) ⟨rcL_areJobs (by omega), rsL_areJobs (by omega)⟩ dL_areJobs_348 (fun x37 S36 H locs hw h => ?_)
    refine lv_iconst (v := (nI 2)) hx hb dL_areJobs_351 (by decide) ?_
    refine lv_aload_n hx hb dL_areJobs_352 rfl (lv_at hl 0 rfl) ?_
    refine lv_iload hx hb dL_areJobs_353 (lv_at hl 6 rfl) ?_
    refine rc_H (As := [.ref a0, .int w8]) (rest := [.int (nI 2), .int x37, .int w7]) X h (meL_sheets l hl9 G _ _ _ _ hw) gS_L_152 rfl rfl hdS_L_sheets rfl ⟨Nat.le_of_ble_eq_true rfl, Nat.le_of_ble_eq_true rfl⟩ hl.1 rfl (Nat.le_of_ble_eq_true rfl) ⟨rcL_areJobs (by omega), rsL_areJobs (by omega)⟩ dL_areJobs_355 (fun x39 S38 H locs hw h => ?_)
    refine lv_imul hx hb dL_areJobs_358 ?_
    refine lv_icmp_gt (tgt := 366) hx hb dL_areJobs_359 (by decide) (fun c40 => ?_) (fun c40 => ?_)
    · have hw := hw.1 c40
      exact hw.elim
    · have hw := hw.2 c40
      refine lv_iconst (v := (nI 1)) hx hb dL_areJobs_362 (by decide) ?_
      refine lv_goto (tgt := 367) hx hb dL_areJobs_363 (by decide) ?_
      refine lv_iand hx hb dL_areJobs_367 ?_
      refine lv_topi (fun x41 ex41 => ?_)
      have hw := hw x41 ex41
      refine lv_istore (lv' := [(7, .int x41), (0, .ref a0), (1, .long p1), (3, .ref a3), (4, .ref a4), (5, .long w5), (8, .int w8), (10, .int w10)]) hx hb dL_areJobs_368 hl (by decide) rfl (fun ls hl => ?_)
      exact lcL_areJobs_370 X hr hl9 _ _ _ _ _ _ Bc Bs hJ _ _ _ _ hw _ _ _ _ _ (by omega) (by omega) h (lv_sub hl [1, 2, 3, 4, 5, 0, 6] rfl)
def wlL_areJobs_299 (a0 : Nat) (p1 : Int64) (a3 : Nat) (a4 : Nat) (post : Int32 → Mem → Prop) (J : Int64 → Int32 → Int32 → Mem → Prop) : Nat → Int64 → Int32 → Int32 → Int32 → Nat → Int32 → Mem → Prop
  | 0 => fun _ _ _ _ _ _ _ => False
  | n + 1 => fun w5 w7 w8 w10 w11 w12 S => isK S a3 8 ∧ (vp_in w8 (mN S a3) ∧ (((mI S a3 w8.toNatClampNeg) < w12 → (wcL_areJobs_338 a0 p1 a3 a4 post J w5 w7 w8 w10 S)) ∧ (¬ (mI S a3 w8.toNatClampNeg) < w12 → ((w10 = 0 → (wcL_areJobs_338 a0 p1 a3 a4 post J w5 w7 w8 w10 S)) ∧ (¬ w10 = 0 → (isK S w11 8 ∧ (vp_in w12 (mN S w11) ∧ ((¬ (mI S w11 w12.toNatClampNeg) = (nI 1) → (False)) ∧ ((mI S w11 w12.toNatClampNeg) = (nI 1) → (∀ x46 : Int32, x46 = (w7 &&& (nI 1)) → (∀ x47 : Int32, x47 = (w12 + (nI 1)) → (wlL_areJobs_299 a0 p1 a3 a4 post J n w5 x46 w8 w10 w11 x47 S))))))))))))
set_option maxHeartbeats 8000000 in
set_option maxRecDepth 100000 in
theorem llL_areJobs_299 {p : Program} {l : Launch} {e : Env} {s : State} {m : MethodId} {args : Array Value} {below : List Frame} {meth : Method} {c : Code} {G : GT} {A : Nat → Prop} (X : Cx p s m args meth c cL_areJobs 16 RL G A) (hr : meth.sig.returnType = (some .boolean)) (hl9 : l.stackTraces = false) (a0 : Nat) (p1 : Int64) (a3 : Nat) (a4 : Nat) (post : Int32 → Mem → Prop) (J : Int64 → Int32 → Int32 → Mem → Prop) (Bc Bs : Nat) (hJ : ∀ (w5 : Int64) (w7 : Int32) (w8 : Int32) (S : Mem), J w5 w7 w8 S → ∀ (H : Heap) (locs : List Loc) (ls : Array Slot) (kc ks : Nat), kc + Bc ≤ 1696 → ks + Bs ≤ 10220 → Hx G A s.heap H locs S → lv_has ls 16 [(0, .ref a0), (1, .long p1), (3, .ref a3), (4, .ref a4), (5, .long w5), (7, .int w7), (8, .int w8)] → W p l e rmL_areJobs s m args below meth c H locs kc ks (MQ below (QN emI post G A) args s 1696 10220 A) (F0 m 12 ls [])) : ∀ (n : Nat) (w5 : Int64) (w7 : Int32) (w8 : Int32) (w10 : Int32) (w11 : Nat) (w12 : Int32) (S : Mem) (hw : wlL_areJobs_299 a0 p1 a3 a4 post J n w5 w7 w8 w10 w11 w12 S) (H : Heap) (locs : List Loc) (ls : Array Slot) (kc ks : Nat), kc + (n * 0 + 4 + Bc) ≤ 1696 → ks + (n * 0 + 24 + Bs) ≤ 10220 → Hx G A s.heap H locs S → lv_has ls 16 [(0, .ref a0), (1, .long p1), (3, .ref a3), (4, .ref a4), (5, .long w5), (7, .int w7), (8, .int w8), (10, .int w10), (11, .ref w11), (12, .int w12)] → W p l e rmL_areJobs s m args below meth c H locs kc ks (MQ below (QN emI post G A) args s 1696 10220 A) (F0 m 299 ls []) := by
  have hx := X.1
  have hb := X.2.1
  have hown := X.2.2.2.1
  intro n
  induction n with
  | zero =>
    intro _ _ _ _ _ _ _ hw
    exact hw.elim
  | succ n ih =>
    intro w5 w7 w8 w10 w11 w12 S hw H locs ls kc ks hkc hks h hl
    refine lv_iload hx hb dL_areJobs_299 (lv_at hl 9 rfl) ?_
    refine lv_aload_n hx hb dL_areJobs_301 rfl (lv_at hl 2 rfl) ?_
    refine lv_iload hx hb dL_areJobs_302 (lv_at hl 6 rfl) ?_
    obtain ⟨k30, hw⟩ := hw
    obtain ⟨v31, hw⟩ := hw
    refine r_iald X h k30 v31 dL_areJobs_304 ?_
    refine lv_icmp_gt (tgt := 338) hx hb dL_areJobs_305 (by decide) (fun c32 => ?_) (fun c32 => ?_)
    · have hw := hw.1 c32
      exact lcL_areJobs_338 X hr hl9 _ _ _ _ _ _ Bc Bs hJ _ _ _ _ _ hw _ _ _ _ _ (by omega) (by omega) h (lv_sub hl [0, 1, 2, 3, 4, 5, 6, 7] rfl)
    · have hw := hw.2 c32
      refine lv_iload hx hb dL_areJobs_308 (lv_at hl 7 rfl) ?_
      refine lv_if_eq (tgt := 338) hx hb dL_areJobs_310 (by decide) (fun c42 => ?_) (fun c42 => ?_)
      · have hw := hw.1 c42
        exact lcL_areJobs_338 X hr hl9 _ _ _ _ _ _ Bc Bs hJ _ _ _ _ _ hw _ _ _ _ _ (by omega) (by omega) h (lv_sub hl [0, 1, 2, 3, 4, 5, 6, 7] rfl)
      · have hw := hw.2 c42
        refine lv_iload hx hb dL_areJobs_313 (lv_at hl 5 rfl) ?_
        refine lv_aload hx hb dL_areJobs_315 (lv_at hl 8 rfl) ?_
        refine lv_iload hx hb dL_areJobs_317 (lv_at hl 9 rfl) ?_
        obtain ⟨k43, hw⟩ := hw
        obtain ⟨v44, hw⟩ := hw
        refine r_iald X h k43 v44 dL_areJobs_319 ?_
        refine lv_iconst (v := (nI 1)) hx hb dL_areJobs_320 (by decide) ?_
        refine lv_icmp_ne (tgt := 328) hx hb dL_areJobs_321 (by decide) (fun c45 => ?_) (fun c45 => ?_)
        · have hw := hw.1 c45
          exact hw.elim
        · have hw := hw.2 c45
          refine lv_iconst (v := (nI 1)) hx hb dL_areJobs_324 (by decide) ?_
          refine lv_goto (tgt := 329) hx hb dL_areJobs_325 (by decide) ?_
          refine lv_iand hx hb dL_areJobs_329 ?_
          refine lv_topi (fun x46 ex46 => ?_)
          have hw := hw x46 ex46
          refine lv_istore (lv' := [(7, .int x46), (0, .ref a0), (1, .long p1), (3, .ref a3), (4, .ref a4), (5, .long w5), (8, .int w8), (10, .int w10), (11, .ref w11), (12, .int w12)]) hx hb dL_areJobs_330 hl (by decide) rfl (fun ls hl => ?_)
          obtain ⟨x47, ex47⟩ : ∃ y : Int32, y = (w12 + (nI 1)) := ⟨_, rfl⟩
          have hw := hw x47 ex47
          refine lv_iinc (v := x47) (lv' := [(12, .int x47), (7, .int x46), (0, .ref a0), (1, .long p1), (3, .ref a3), (4, .ref a4), (5, .long w5), (8, .int w8), (10, .int w10), (11, .ref w11)]) hx hb dL_areJobs_332 hl (k := 9) rfl (by rw [ex47]; rfl) (by decide) rfl (fun ls hl => ?_)
          refine lv_goto (tgt := 299) hx hb dL_areJobs_335 (by decide) ?_
          exact ih _ _ _ _ _ _ _ hw _ _ _ _ _ (by omega) (by omega) h (lv_sub hl [2, 3, 4, 5, 6, 1, 7, 8, 9, 0] rfl)
def wlL_areJobs_218 (a0 : Nat) (p1 : Int64) (a3 : Nat) (a4 : Nat) (post : Int32 → Mem → Prop) (J : Int64 → Int32 → Int32 → Int32 → Int32 → Nat → Int32 → Mem → Prop) : Nat → Int64 → Int32 → Int32 → Int32 → Int32 → Nat → Int32 → Int32 → Mem → Prop
  | 0 => fun _ _ _ _ _ _ _ _ _ => False
  | n + 1 => fun w5 w7 w8 w9 w10 w11 w12 w14 S => (w9 ≤ w14 → (∀ x59 : Int32, x59 = (w12 + (nI 1)) → (J w5 w7 w8 w9 w10 w11 x59 S))) ∧ (¬ w9 ≤ w14 → (wpL_pageAt S a0 w8 w12 w14 (fun x61 S60 => (x61 < (nI 1) → (False)) ∧ (¬ x61 < (nI 1) → (isK S60 a3 8 ∧ (vp_in w8 (mN S60 a3) ∧ (((mI S60 a3 w8.toNatClampNeg) < x61 → (False)) ∧ (¬ (mI S60 a3 w8.toNatClampNeg) < x61 → (wpL_sheetOf S60 a0 w8 x61 (fun x67 S66 => (¬ x67 = w12 → (False)) ∧ (x67 = w12 → (∀ x69 : Int32, x69 = (w7 &&& (nI 1)) → (isK S66 w11 8 ∧ (vp_in x61 (mN S66 w11) ∧ (∀ x72 : Int32, x72 = ((mI S66 w11 x61.toNatClampNeg) + (nI 1)) → (vp_in x61 (mN S66 w11) ∧ (∀ S74 : Mem, S74 = (sI S66 w11 x61.toNatClampNeg x72) → (∀ x75 : Int32, x75 = (w14 + (nI 1)) → (wlL_areJobs_218 a0 p1 a3 a4 post J n w5 x69 w8 w9 w10 w11 w12 x75 S74)))))))))))))))))))
set_option maxHeartbeats 8000000 in
set_option maxRecDepth 100000 in
theorem llL_areJobs_218 {p : Program} {l : Launch} {e : Env} {s : State} {m : MethodId} {args : Array Value} {below : List Frame} {meth : Method} {c : Code} {G : GT} {A : Nat → Prop} (X : Cx p s m args meth c cL_areJobs 16 RL G A) (hr : meth.sig.returnType = (some .boolean)) (hl9 : l.stackTraces = false) (a0 : Nat) (p1 : Int64) (a3 : Nat) (a4 : Nat) (post : Int32 → Mem → Prop) (J : Int64 → Int32 → Int32 → Int32 → Int32 → Nat → Int32 → Mem → Prop) (Bc Bs : Nat) (hJ : ∀ (w5 : Int64) (w7 : Int32) (w8 : Int32) (w9 : Int32) (w10 : Int32) (w11 : Nat) (w12 : Int32) (S : Mem), J w5 w7 w8 w9 w10 w11 w12 S → ∀ (H : Heap) (locs : List Loc) (ls : Array Slot) (kc ks : Nat), kc + Bc ≤ 1696 → ks + Bs ≤ 10220 → Hx G A s.heap H locs S → lv_has ls 16 [(0, .ref a0), (1, .long p1), (3, .ref a3), (4, .ref a4), (5, .long w5), (7, .int w7), (8, .int w8), (9, .int w9), (10, .int w10), (11, .ref w11), (12, .int w12)] → W p l e rmL_areJobs s m args below meth c H locs kc ks (MQ below (QN emI post G A) args s 1696 10220 A) (F0 m 119 ls [])) : ∀ (n : Nat) (w5 : Int64) (w7 : Int32) (w8 : Int32) (w9 : Int32) (w10 : Int32) (w11 : Nat) (w12 : Int32) (w14 : Int32) (S : Mem) (hw : wlL_areJobs_218 a0 p1 a3 a4 post J n w5 w7 w8 w9 w10 w11 w12 w14 S) (H : Heap) (locs : List Loc) (ls : Array Slot) (kc ks : Nat), kc + (n * 7 + 0 + Bc) ≤ 1696 → ks + (n * 42 + 0 + Bs) ≤ 10220 → Hx G A s.heap H locs S → lv_has ls 16 [(0, .ref a0), (1, .long p1), (3, .ref a3), (4, .ref a4), (5, .long w5), (7, .int w7), (8, .int w8), (9, .int w9), (10, .int w10), (11, .ref w11), (12, .int w12), (14, .int w14)] → W p l e rmL_areJobs s m args below meth c H locs kc ks (MQ below (QN emI post G A) args s 1696 10220 A) (F0 m 218 ls []) := by
  have hx := X.1
  have hb := X.2.1
  have hown := X.2.2.2.1
  intro n
  induction n with
  | zero =>
    intro _ _ _ _ _ _ _ _ _ hw
    exact hw.elim
  | succ n ih =>
    intro w5 w7 w8 w9 w10 w11 w12 w14 S hw H locs ls kc ks hkc hks h hl
    refine lv_iload hx hb dL_areJobs_218 (lv_at hl 11 rfl) ?_
    refine lv_iload hx hb dL_areJobs_220 (lv_at hl 7 rfl) ?_
    refine lv_icmp_ge (tgt := 290) hx hb dL_areJobs_222 (by decide) (fun c58 => ?_) (fun c58 => ?_)
    · have hw := hw.1 c58
      obtain ⟨x59, ex59⟩ : ∃ y : Int32, y = (w12 + (nI 1)) := ⟨_, rfl⟩
      have hw := hw x59 ex59
      refine lv_iinc (v := x59) (lv' := [(12, .int x59), (0, .ref a0), (1, .long p1), (3, .ref a3), (4, .ref a4), (5, .long w5), (7, .int w7), (8, .int w8), (9, .int w9), (10, .int w10), (11, .ref w11), (14, .int w14)]) hx hb dL_areJobs_290 hl (k := 10) rfl (by rw [ex59]; rfl) (by decide) rfl (fun ls hl => ?_)
      refine lv_goto (tgt := 119) hx hb dL_areJobs_293 (by decide) ?_
      exact hJ _ _ _ _ _ _ _ _ hw _ _ _ _ _ (by omega) (by omega) h (lv_sub hl [1, 2, 3, 4, 5, 6, 7, 8, 9, 10, 0] rfl)
    · have hw := hw.2 c58
      refine lv_aload_n hx hb dL_areJobs_225 rfl (lv_at hl 0 rfl) ?_
      refine lv_iload hx hb dL_areJobs_226 (lv_at hl 6 rfl) ?_
      refine lv_iload hx hb dL_areJobs_228 (lv_at hl 10 rfl) ?_
      refine lv_iload hx hb dL_areJobs_230 (lv_at hl 11 rfl) ?_
      refine rc_H (As := [.ref a0, .int w8, .int w12, .int w14]) (rest := []) X h (meL_pageAt l hl9 G _ _ _ _ _ _ hw) gS_L_176 rfl rfl hdS_L_pageAt rfl ⟨Nat.le_of_ble_eq_true rfl, Nat.le_of_ble_eq_true rfl⟩ hl.1 rfl (Nat.le_of_ble_eq_true rfl) ⟨rcL_areJobs (by omega), rsL_areJobs (by omega)⟩ dL_areJobs_232 (fun x61 S60 H locs hw h => ?_)
      refine lv_istore (lv' := [(15, .int x61), (0, .ref a0), (1, .long p1), (3, .ref a3), (4, .ref a4), (5, .long w5), (7, .int w7), (8, .int w8), (9, .int w9), (10, .int w10), (11, .ref w11), (12, .int w12), (14, .int w14)]) hx hb dL_areJobs_235 hl (by decide) rfl (fun ls hl => ?_)
      refine lv_iload hx hb dL_areJobs_237 (lv_at hl 6 rfl) ?_
      refine lv_iload hx hb dL_areJobs_239 (lv_at hl 0 rfl) ?_
      refine lv_iconst (v := (nI 1)) hx hb dL_areJobs_241 (by decide) ?_
      refine lv_icmp_lt (tgt := 271) hx hb dL_areJobs_242 (by decide) (fun c62 => ?_) (fun c62 => ?_)
      · have hw := hw.1 c62
        exact hw.elim
      · have hw := hw.2 c62
        refine lv_iload hx hb dL_areJobs_245 (lv_at hl 0 rfl) ?_
        refine lv_aload_n hx hb dL_areJobs_247 rfl (lv_at hl 3 rfl) ?_
        refine lv_iload hx hb dL_areJobs_248 (lv_at hl 7 rfl) ?_
        obtain ⟨k63, hw⟩ := hw
        obtain ⟨v64, hw⟩ := hw
        refine r_iald X h k63 v64 dL_areJobs_250 ?_
        refine lv_icmp_gt (tgt := 271) hx hb dL_areJobs_251 (by decide) (fun c65 => ?_) (fun c65 => ?_)
        · have hw := hw.1 c65
          exact hw.elim
        · have hw := hw.2 c65
          refine lv_aload_n hx hb dL_areJobs_254 rfl (lv_at hl 1 rfl) ?_
          refine lv_iload hx hb dL_areJobs_255 (lv_at hl 7 rfl) ?_
          refine lv_iload hx hb dL_areJobs_257 (lv_at hl 0 rfl) ?_
          refine rc_H (As := [.ref a0, .int w8, .int x61]) (rest := [.int w7]) X h (meL_sheetOf l hl9 G _ _ _ _ _ hw) gS_L_178 rfl rfl hdS_L_sheetOf rfl ⟨Nat.le_of_ble_eq_true rfl, Nat.le_of_ble_eq_true rfl⟩ hl.1 rfl (Nat.le_of_ble_eq_true rfl) ⟨rcL_areJobs (by omega), rsL_areJobs (by omega)⟩ dL_areJobs_259 (fun x67 S66 H locs hw h => ?_)
          refine lv_iload hx hb dL_areJobs_262 (lv_at hl 11 rfl) ?_
          refine lv_icmp_ne (tgt := 271) hx hb dL_areJobs_264 (by decide) (fun c68 => ?_) (fun c68 => ?_)
          · have hw := hw.1 c68
            exact hw.elim
          · have hw := hw.2 c68
            refine lv_iconst (v := (nI 1)) hx hb dL_areJobs_267 (by decide) ?_
            refine lv_goto (tgt := 272) hx hb dL_areJobs_268 (by decide) ?_
            refine lv_iand hx hb dL_areJobs_272 ?_
            refine lv_topi (fun x69 ex69 => ?_)
            have hw := hw x69 ex69
            refine lv_istore (lv' := [(7, .int x69), (15, .int x61), (0, .ref a0), (1, .long p1), (3, .ref a3), (4, .ref a4), (5, .long w5), (8, .int w8), (9, .int w9), (10, .int w10), (11, .ref w11), (12, .int w12), (14, .int w14)]) hx hb dL_areJobs_273 hl (by decide) rfl (fun ls hl => ?_)
            refine lv_aload hx hb dL_areJobs_275 (lv_at hl 10 rfl) ?_
            refine lv_iload hx hb dL_areJobs_277 (lv_at hl 1 rfl) ?_
            refine lv_dup2_11 hx hb dL_areJobs_279 rfl rfl ?_
            obtain ⟨k70, hw⟩ := hw
            obtain ⟨v71, hw⟩ := hw
            refine r_iald X h k70 v71 dL_areJobs_280 ?_
            refine lv_iconst (v := (nI 1)) hx hb dL_areJobs_281 (by decide) ?_
            refine lv_iadd hx hb dL_areJobs_282 ?_
            refine lv_topi (fun x72 ex72 => ?_)
            have hw := hw x72 ex72
            obtain ⟨v73, hw⟩ := hw
            refine r_iast X h k70 v73 dL_areJobs_283 (fun H locs h => ?_)
            obtain ⟨S74, eS74⟩ : ∃ z : Mem, z = (sI S66 w11 x61.toNatClampNeg x72) := ⟨_, rfl⟩
            rw [← eS74] at h
            have hw := hw S74 eS74
            obtain ⟨x75, ex75⟩ : ∃ y : Int32, y = (w14 + (nI 1)) := ⟨_, rfl⟩
            have hw := hw x75 ex75
            refine lv_iinc (v := x75) (lv' := [(14, .int x75), (7, .int x69), (15, .int x61), (0, .ref a0), (1, .long p1), (3, .ref a3), (4, .ref a4), (5, .long w5), (8, .int w8), (9, .int w9), (10, .int w10), (11, .ref w11), (12, .int w12)]) hx hb dL_areJobs_284 hl (k := 12) rfl (by rw [ex75]; rfl) (by decide) rfl (fun ls hl => ?_)
            refine lv_goto (tgt := 218) hx hb dL_areJobs_287 (by decide) ?_
            exact ih _ _ _ _ _ _ _ _ _ hw _ _ _ _ _ (by omega) (by omega) h (lv_sub hl [3, 4, 5, 6, 7, 1, 8, 9, 10, 11, 12, 0] rfl)
def wcL_areJobs_215 (a0 : Nat) (p1 : Int64) (a3 : Nat) (a4 : Nat) (post : Int32 → Mem → Prop) (J : Int64 → Int32 → Int32 → Int32 → Int32 → Nat → Int32 → Mem → Prop) (w5 : Int64) (w7 : Int32) (w8 : Int32) (w9 : Int32) (w10 : Int32) (w11 : Nat) (w12 : Int32) (S : Mem) : Prop := ∃ m, m ≤ 5 ∧ wlL_areJobs_218 a0 p1 a3 a4 post J m w5 w7 w8 w9 w10 w11 w12 (nI 0) S
set_option maxHeartbeats 8000000 in
set_option maxRecDepth 100000 in
theorem lcL_areJobs_215 {p : Program} {l : Launch} {e : Env} {s : State} {m : MethodId} {args : Array Value} {below : List Frame} {meth : Method} {c : Code} {G : GT} {A : Nat → Prop} (X : Cx p s m args meth c cL_areJobs 16 RL G A) (hr : meth.sig.returnType = (some .boolean)) (hl9 : l.stackTraces = false) (a0 : Nat) (p1 : Int64) (a3 : Nat) (a4 : Nat) (post : Int32 → Mem → Prop) (J : Int64 → Int32 → Int32 → Int32 → Int32 → Nat → Int32 → Mem → Prop) (Bc Bs : Nat) (hJ : ∀ (w5 : Int64) (w7 : Int32) (w8 : Int32) (w9 : Int32) (w10 : Int32) (w11 : Nat) (w12 : Int32) (S : Mem), J w5 w7 w8 w9 w10 w11 w12 S → ∀ (H : Heap) (locs : List Loc) (ls : Array Slot) (kc ks : Nat), kc + Bc ≤ 1696 → ks + Bs ≤ 10220 → Hx G A s.heap H locs S → lv_has ls 16 [(0, .ref a0), (1, .long p1), (3, .ref a3), (4, .ref a4), (5, .long w5), (7, .int w7), (8, .int w8), (9, .int w9), (10, .int w10), (11, .ref w11), (12, .int w12)] → W p l e rmL_areJobs s m args below meth c H locs kc ks (MQ below (QN emI post G A) args s 1696 10220 A) (F0 m 119 ls [])) : ∀ (w5 : Int64) (w7 : Int32) (w8 : Int32) (w9 : Int32) (w10 : Int32) (w11 : Nat) (w12 : Int32) (S : Mem) (hw : wcL_areJobs_215 a0 p1 a3 a4 post J w5 w7 w8 w9 w10 w11 w12 S) (H : Heap) (locs : List Loc) (ls : Array Slot) (kc ks : Nat), kc + (35 + Bc) ≤ 1696 → ks + (210 + Bs) ≤ 10220 → Hx G A s.heap H locs S → lv_has ls 16 [(0, .ref a0), (1, .long p1), (3, .ref a3), (4, .ref a4), (5, .long w5), (7, .int w7), (8, .int w8), (9, .int w9), (10, .int w10), (11, .ref w11), (12, .int w12)] → W p l e rmL_areJobs s m args below meth c H locs kc ks (MQ below (QN emI post G A) args s 1696 10220 A) (F0 m 215 ls []) := by
  have hx := X.1
  have hb := X.2.1
  have hown := X.2.2.2.1
  intro w5 w7 w8 w9 w10 w11 w12 S hw H locs ls kc ks hkc hks h hl
  unfold wcL_areJobs_215 at hw
  refine lv_iconst (v := (nI 0)) hx hb dL_areJobs_215 (by decide) ?_
  refine lv_istore (lv' := [(14, .int (nI 0)), (0, .ref a0), (1, .long p1), (3, .ref a3), (4, .ref a4), (5, .long w5), (7, .int w7), (8, .int w8), (9, .int w9), (10, .int w10), (11, .ref w11), (12, .int w12)]) hx hb dL_areJobs_216 hl (by decide) rfl (fun ls hl => ?_)
  obtain ⟨n76, hn76, hw⟩ := hw
  exact llL_areJobs_218 X hr hl9 _ _ _ _ _ _ Bc Bs hJ n76 _ _ _ _ _ _ _ _ _ hw _ _ _ _ _ (by omega) (by omega) h (lv_sub hl [1, 2, 3, 4, 5, 6, 7, 8, 9, 10, 11, 0] rfl)
def wlL_areJobs_119 (a0 : Nat) (p1 : Int64) (a3 : Nat) (a4 : Nat) (post : Int32 → Mem → Prop) (J : Int64 → Int32 → Int32 → Mem → Prop) : Nat → Int64 → Int32 → Int32 → Int32 → Int32 → Nat → Int32 → Mem → Prop
  | 0 => fun _ _ _ _ _ _ _ _ => False
  | n + 1 => fun w5 w7 w8 w9 w10 w11 w12 S => wpL_sheets S a0 w8 (fun x28 S27 => (x28 ≤ w12 → (∃ m, m ≤ 17 ∧ wlL_areJobs_299 a0 p1 a3 a4 post J m w5 w7 w8 w10 w11 (nI 1) S27)) ∧ (¬ x28 ≤ w12 → (wpL_makeready S27 a0 w8 w12 (fun x50 S49 => wpL_stock S49 a0 w8 w12 (fun x52 S51 => wpL_stock S51 a0 w8 w12 (fun x54 S53 => (x54 < 0 → (False)) ∧ (¬ x54 < 0 → ((x50 = 0 → (∀ x57 : Int32, x57 = (w7 &&& (nI 1)) → (wcL_areJobs_215 a0 p1 a3 a4 post (wlL_areJobs_119 a0 p1 a3 a4 post J n) (w5 + x52.toInt64) x57 w8 w9 w10 w11 w12 S53))) ∧ (¬ x50 = 0 → ((x50 = (nI 15) → (∀ x78 : Int32, x78 = (w7 &&& (nI 1)) → (wcL_areJobs_215 a0 p1 a3 a4 post (wlL_areJobs_119 a0 p1 a3 a4 post J n) (w5 + x52.toInt64) x78 w8 w9 w10 w11 w12 S53))) ∧ (¬ x50 = (nI 15) → ((x50 = (nI 20) → (∀ x80 : Int32, x80 = (w7 &&& (nI 1)) → (wcL_areJobs_215 a0 p1 a3 a4 post (wlL_areJobs_119 a0 p1 a3 a4 post J n) (w5 + x52.toInt64) x80 w8 w9 w10 w11 w12 S53))) ∧ (¬ x50 = (nI 20) → ((x50 = (nI 35) → (∀ x82 : Int32, x82 = (w7 &&& (nI 1)) → (wcL_areJobs_215 a0 p1 a3 a4 post (wlL_areJobs_119 a0 p1 a3 a4 post J n) (w5 + x52.toInt64) x82 w8 w9 w10 w11 w12 S53))) ∧ (¬ x50 = (nI 35) → ((x50 = (nI 40) → (∀ x84 : Int32, x84 = (w7 &&& (nI 1)) → (wcL_areJobs_215 a0 p1 a3 a4 post (wlL_areJobs_119 a0 p1 a3 a4 post J n) (w5 + x52.toInt64) x84 w8 w9 w10 w11 w12 S53))) ∧ (¬ x50 = (nI 40) → ((¬ x50 = (nI 55) → (False)) ∧ (x50 = (nI 55) → (∀ x86 : Int32, x86 = (w7 &&& (nI 1)) → (wcL_areJobs_215 a0 p1 a3 a4 post (wlL_areJobs_119 a0 p1 a3 a4 post J n) (w5 + x52.toInt64) x86 w8 w9 w10 w11 w12 S53)))))))))))))))))))))
set_option maxHeartbeats 8000000 in
set_option maxRecDepth 100000 in
theorem llL_areJobs_119 {p : Program} {l : Launch} {e : Env} {s : State} {m : MethodId} {args : Array Value} {below : List Frame} {meth : Method} {c : Code} {G : GT} {A : Nat → Prop} (X : Cx p s m args meth c cL_areJobs 16 RL G A) (hr : meth.sig.returnType = (some .boolean)) (hl9 : l.stackTraces = false) (a0 : Nat) (p1 : Int64) (a3 : Nat) (a4 : Nat) (post : Int32 → Mem → Prop) (J : Int64 → Int32 → Int32 → Mem → Prop) (Bc Bs : Nat) (hJ : ∀ (w5 : Int64) (w7 : Int32) (w8 : Int32) (S : Mem), J w5 w7 w8 S → ∀ (H : Heap) (locs : List Loc) (ls : Array Slot) (kc ks : Nat), kc + Bc ≤ 1696 → ks + Bs ≤ 10220 → Hx G A s.heap H locs S → lv_has ls 16 [(0, .ref a0), (1, .long p1), (3, .ref a3), (4, .ref a4), (5, .long w5), (7, .int w7), (8, .int w8)] → W p l e rmL_areJobs s m args below meth c H locs kc ks (MQ below (QN emI post G A) args s 1696 10220 A) (F0 m 12 ls [])) : ∀ (n : Nat) (w5 : Int64) (w7 : Int32) (w8 : Int32) (w9 : Int32) (w10 : Int32) (w11 : Nat) (w12 : Int32) (S : Mem) (hw : wlL_areJobs_119 a0 p1 a3 a4 post J n w5 w7 w8 w9 w10 w11 w12 S) (H : Heap) (locs : List Loc) (ls : Array Slot) (kc ks : Nat), kc + (n * 46 + 6 + Bc) ≤ 1696 → ks + (n * 276 + 36 + Bs) ≤ 10220 → Hx G A s.heap H locs S → lv_has ls 16 [(0, .ref a0), (1, .long p1), (3, .ref a3), (4, .ref a4), (5, .long w5), (7, .int w7), (8, .int w8), (9, .int w9), (10, .int w10), (11, .ref w11), (12, .int w12)] → W p l e rmL_areJobs s m args below meth c H locs kc ks (MQ below (QN emI post G A) args s 1696 10220 A) (F0 m 119 ls []) := by
  have hx := X.1
  have hb := X.2.1
  have hown := X.2.2.2.1
  intro n
  induction n with
  | zero =>
    intro _ _ _ _ _ _ _ _ hw
    exact hw.elim
  | succ n ih =>
    intro w5 w7 w8 w9 w10 w11 w12 S hw H locs ls kc ks hkc hks h hl
    refine lv_iload hx hb dL_areJobs_119 (lv_at hl 10 rfl) ?_
    refine lv_aload_n hx hb dL_areJobs_121 rfl (lv_at hl 0 rfl) ?_
    refine lv_iload hx hb dL_areJobs_122 (lv_at hl 6 rfl) ?_
    refine rc_H (As := [.ref a0, .int w8]) (rest := [.int w12]) X h (meL_sheets l hl9 G _ _ _ _ hw) gS_L_152 rfl rfl hdS_L_sheets rfl ⟨Nat.le_of_ble_eq_true rfl, Nat.le_of_ble_eq_true rfl⟩ hl.1 rfl (Nat.le_of_ble_eq_true rfl) ⟨rcL_areJobs (by omega), rsL_areJobs (by omega)⟩ dL_areJobs_124 (fun x28 S27 H locs hw h => ?_)
    refine lv_icmp_ge (tgt := 296) hx hb dL_areJobs_127 (by decide) (fun c29 => ?_) (fun c29 => ?_)
    · have hw := hw.1 c29
      refine lv_iconst (v := (nI 1)) hx hb dL_areJobs_296 (by decide) ?_
      refine lv_istore (lv' := [(12, .int (nI 1)), (0, .ref a0), (1, .long p1), (3, .ref a3), (4, .ref a4), (5, .long w5), (7, .int w7), (8, .int w8), (9, .int w9), (10, .int w10), (11, .ref w11)]) hx hb dL_areJobs_297 hl (by decide) rfl (fun ls hl => ?_)
      obtain ⟨n48, hn48, hw⟩ := hw
      exact llL_areJobs_299 X hr hl9 _ _ _ _ _ _ Bc Bs hJ n48 _ _ _ _ _ _ _ hw _ _ _ _ _ (by omega) (by omega) h (lv_sub hl [1, 2, 3, 4, 5, 6, 7, 9, 10, 0] rfl)
    · have hw := hw.2 c29
      refine lv_aload_n hx hb dL_areJobs_130 rfl (lv_at hl 0 rfl) ?_
      refine lv_iload hx hb dL_areJobs_131 (lv_at hl 6 rfl) ?_
      refine lv_iload hx hb dL_areJobs_133 (lv_at hl 10 rfl) ?_
      refine rc_H (As := [.ref a0, .int w8, .int w12]) (rest := []) X h (meL_makeready l hl9 G _ _ _ _ _ hw) gS_L_131 rfl rfl hdS_L_makeready rfl ⟨Nat.le_of_ble_eq_true rfl, Nat.le_of_ble_eq_true rfl⟩ hl.1 rfl (Nat.le_of_ble_eq_true rfl) ⟨rcL_areJobs (by omega), rsL_areJobs (by omega)⟩ dL_areJobs_135 (fun x50 S49 H locs hw h => ?_)
      refine lv_istore (lv' := [(13, .int x50), (0, .ref a0), (1, .long p1), (3, .ref a3), (4, .ref a4), (5, .long w5), (7, .int w7), (8, .int w8), (9, .int w9), (10, .int w10), (11, .ref w11), (12, .int w12)]) hx hb dL_areJobs_138 hl (by decide) rfl (fun ls hl => ?_)
      refine lv_lload hx hb dL_areJobs_140 (lv_at hl 5 rfl) ?_
      refine lv_aload_n hx hb dL_areJobs_142 rfl (lv_at hl 1 rfl) ?_
      refine lv_iload hx hb dL_areJobs_143 (lv_at hl 7 rfl) ?_
      refine lv_iload hx hb dL_areJobs_145 (lv_at hl 11 rfl) ?_
      refine rc_H (As := [.ref a0, .int w8, .int w12]) (rest := [.long w5]) X h (meL_stock l hl9 G _ _ _ _ _ hw) gS_L_133 rfl rfl hdS_L_stock rfl ⟨Nat.le_of_ble_eq_true rfl, Nat.le_of_ble_eq_true rfl⟩ hl.1 rfl (Nat.le_of_ble_eq_true rfl) ⟨rcL_areJobs (by omega), rsL_areJobs (by omega)⟩ dL_areJobs_147 (fun x52 S51 H locs hw h => ?_)
      refine lv_i2l (v := x52.toInt64) hx hb dL_areJobs_150 rfl ?_
      refine lv_ladd hx hb dL_areJobs_151 ?_
      refine lv_lstore (lv' := [(5, .long (w5 + x52.toInt64)), (13, .int x50), (0, .ref a0), (1, .long p1), (3, .ref a3), (4, .ref a4), (7, .int w7), (8, .int w8), (9, .int w9), (10, .int w10), (11, .ref w11), (12, .int w12)]) hx hb dL_areJobs_152 hl (by decide) rfl (fun ls hl => ?_)
      refine lv_iload hx hb dL_areJobs_154 (lv_at hl 6 rfl) ?_
      refine lv_aload_n hx hb dL_areJobs_156 rfl (lv_at hl 2 rfl) ?_
      refine lv_iload hx hb dL_areJobs_157 (lv_at hl 7 rfl) ?_
      refine lv_iload hx hb dL_areJobs_159 (lv_at hl 11 rfl) ?_
      refine rc_H (As := [.ref a0, .int w8, .int w12]) (rest := [.int w7]) X h (meL_stock l hl9 G _ _ _ _ _ hw) gS_L_133 rfl rfl hdS_L_stock rfl ⟨Nat.le_of_ble_eq_true rfl, Nat.le_of_ble_eq_true rfl⟩ hl.1 rfl (Nat.le_of_ble_eq_true rfl) ⟨rcL_areJobs (by omega), rsL_areJobs (by omega)⟩ dL_areJobs_161 (fun x54 S53 H locs hw h => ?_)
      refine lv_if_lt (tgt := 211) hx hb dL_areJobs_164 (by decide) (fun c55 => ?_) (fun c55 => ?_)
      · have hw := hw.1 c55
        exact hw.elim
      · have hw := hw.2 c55
        refine lv_iload hx hb dL_areJobs_167 (lv_at hl 1 rfl) ?_
        refine lv_if_eq (tgt := 207) hx hb dL_areJobs_169 (by decide) (fun c56 => ?_) (fun c56 => ?_)
        · have hw := hw.1 c56
          refine lv_iconst (v := (nI 1)) hx hb dL_areJobs_207 (by decide) ?_
          refine lv_goto (tgt := 212) hx hb dL_areJobs_208 (by decide) ?_
          refine lv_iand hx hb dL_areJobs_212 ?_
          refine lv_topi (fun x57 ex57 => ?_)
          have hw := hw x57 ex57
          refine lv_istore (lv' := [(7, .int x57), (5, .long (w5 + x52.toInt64)), (13, .int x50), (0, .ref a0), (1, .long p1), (3, .ref a3), (4, .ref a4), (8, .int w8), (9, .int w9), (10, .int w10), (11, .ref w11), (12, .int w12)]) hx hb dL_areJobs_213 hl (by decide) rfl (fun ls hl => ?_)
          exact lcL_areJobs_215 X hr hl9 _ _ _ _ _ _ (n * 46 + 6 + Bc) (n * 276 + 36 + Bs) (fun w5 w7 w8 w9 w10 w11 w12 S hw H locs ls kc ks h1 h2 h hl => ih w5 w7 w8 w9 w10 w11 w12 S hw H locs ls kc ks (by omega) (by omega) h hl) _ _ _ _ _ _ _ _ hw _ _ _ _ _ (by omega) (by omega) h (lv_sub hl [3, 4, 5, 6, 1, 0, 7, 8, 9, 10, 11] rfl)
        · have hw := hw.2 c56
          refine lv_iload hx hb dL_areJobs_172 (lv_at hl 1 rfl) ?_
          refine lv_bipush (v := (nI 15)) hx hb dL_areJobs_174 (by decide) ?_
          refine lv_icmp_eq (tgt := 207) hx hb dL_areJobs_176 (by decide) (fun c77 => ?_) (fun c77 => ?_)
          · have hw := hw.1 c77
            refine lv_iconst (v := (nI 1)) hx hb dL_areJobs_207 (by decide) ?_
            refine lv_goto (tgt := 212) hx hb dL_areJobs_208 (by decide) ?_
            refine lv_iand hx hb dL_areJobs_212 ?_
            refine lv_topi (fun x78 ex78 => ?_)
            have hw := hw x78 ex78
            refine lv_istore (lv' := [(7, .int x78), (5, .long (w5 + x52.toInt64)), (13, .int x50), (0, .ref a0), (1, .long p1), (3, .ref a3), (4, .ref a4), (8, .int w8), (9, .int w9), (10, .int w10), (11, .ref w11), (12, .int w12)]) hx hb dL_areJobs_213 hl (by decide) rfl (fun ls hl => ?_)
            exact lcL_areJobs_215 X hr hl9 _ _ _ _ _ _ (n * 46 + 6 + Bc) (n * 276 + 36 + Bs) (fun w5 w7 w8 w9 w10 w11 w12 S hw H locs ls kc ks h1 h2 h hl => ih w5 w7 w8 w9 w10 w11 w12 S hw H locs ls kc ks (by omega) (by omega) h hl) _ _ _ _ _ _ _ _ hw _ _ _ _ _ (by omega) (by omega) h (lv_sub hl [3, 4, 5, 6, 1, 0, 7, 8, 9, 10, 11] rfl)
          · have hw := hw.2 c77
            refine lv_iload hx hb dL_areJobs_179 (lv_at hl 1 rfl) ?_
            refine lv_bipush (v := (nI 20)) hx hb dL_areJobs_181 (by decide) ?_
            refine lv_icmp_eq (tgt := 207) hx hb dL_areJobs_183 (by decide) (fun c79 => ?_) (fun c79 => ?_)
            · have hw := hw.1 c79
              refine lv_iconst (v := (nI 1)) hx hb dL_areJobs_207 (by decide) ?_
              refine lv_goto (tgt := 212) hx hb dL_areJobs_208 (by decide) ?_
              refine lv_iand hx hb dL_areJobs_212 ?_
              refine lv_topi (fun x80 ex80 => ?_)
              have hw := hw x80 ex80
              refine lv_istore (lv' := [(7, .int x80), (5, .long (w5 + x52.toInt64)), (13, .int x50), (0, .ref a0), (1, .long p1), (3, .ref a3), (4, .ref a4), (8, .int w8), (9, .int w9), (10, .int w10), (11, .ref w11), (12, .int w12)]) hx hb dL_areJobs_213 hl (by decide) rfl (fun ls hl => ?_)
              exact lcL_areJobs_215 X hr hl9 _ _ _ _ _ _ (n * 46 + 6 + Bc) (n * 276 + 36 + Bs) (fun w5 w7 w8 w9 w10 w11 w12 S hw H locs ls kc ks h1 h2 h hl => ih w5 w7 w8 w9 w10 w11 w12 S hw H locs ls kc ks (by omega) (by omega) h hl) _ _ _ _ _ _ _ _ hw _ _ _ _ _ (by omega) (by omega) h (lv_sub hl [3, 4, 5, 6, 1, 0, 7, 8, 9, 10, 11] rfl)
            · have hw := hw.2 c79
              refine lv_iload hx hb dL_areJobs_186 (lv_at hl 1 rfl) ?_
              refine lv_bipush (v := (nI 35)) hx hb dL_areJobs_188 (by decide) ?_
              refine lv_icmp_eq (tgt := 207) hx hb dL_areJobs_190 (by decide) (fun c81 => ?_) (fun c81 => ?_)
              · have hw := hw.1 c81
                refine lv_iconst (v := (nI 1)) hx hb dL_areJobs_207 (by decide) ?_
                refine lv_goto (tgt := 212) hx hb dL_areJobs_208 (by decide) ?_
                refine lv_iand hx hb dL_areJobs_212 ?_
                refine lv_topi (fun x82 ex82 => ?_)
                have hw := hw x82 ex82
                refine lv_istore (lv' := [(7, .int x82), (5, .long (w5 + x52.toInt64)), (13, .int x50), (0, .ref a0), (1, .long p1), (3, .ref a3), (4, .ref a4), (8, .int w8), (9, .int w9), (10, .int w10), (11, .ref w11), (12, .int w12)]) hx hb dL_areJobs_213 hl (by decide) rfl (fun ls hl => ?_)
                exact lcL_areJobs_215 X hr hl9 _ _ _ _ _ _ (n * 46 + 6 + Bc) (n * 276 + 36 + Bs) (fun w5 w7 w8 w9 w10 w11 w12 S hw H locs ls kc ks h1 h2 h hl => ih w5 w7 w8 w9 w10 w11 w12 S hw H locs ls kc ks (by omega) (by omega) h hl) _ _ _ _ _ _ _ _ hw _ _ _ _ _ (by omega) (by omega) h (lv_sub hl [3, 4, 5, 6, 1, 0, 7, 8, 9, 10, 11] rfl)
              · have hw := hw.2 c81
                refine lv_iload hx hb dL_areJobs_193 (lv_at hl 1 rfl) ?_
                refine lv_bipush (v := (nI 40)) hx hb dL_areJobs_195 (by decide) ?_
                refine lv_icmp_eq (tgt := 207) hx hb dL_areJobs_197 (by decide) (fun c83 => ?_) (fun c83 => ?_)
                · have hw := hw.1 c83
                  refine lv_iconst (v := (nI 1)) hx hb dL_areJobs_207 (by decide) ?_
                  refine lv_goto (tgt := 212) hx hb dL_areJobs_208 (by decide) ?_
                  refine lv_iand hx hb dL_areJobs_212 ?_
                  refine lv_topi (fun x84 ex84 => ?_)
                  have hw := hw x84 ex84
                  refine lv_istore (lv' := [(7, .int x84), (5, .long (w5 + x52.toInt64)), (13, .int x50), (0, .ref a0), (1, .long p1), (3, .ref a3), (4, .ref a4), (8, .int w8), (9, .int w9), (10, .int w10), (11, .ref w11), (12, .int w12)]) hx hb dL_areJobs_213 hl (by decide) rfl (fun ls hl => ?_)
                  exact lcL_areJobs_215 X hr hl9 _ _ _ _ _ _ (n * 46 + 6 + Bc) (n * 276 + 36 + Bs) (fun w5 w7 w8 w9 w10 w11 w12 S hw H locs ls kc ks h1 h2 h hl => ih w5 w7 w8 w9 w10 w11 w12 S hw H locs ls kc ks (by omega) (by omega) h hl) _ _ _ _ _ _ _ _ hw _ _ _ _ _ (by omega) (by omega) h (lv_sub hl [3, 4, 5, 6, 1, 0, 7, 8, 9, 10, 11] rfl)
                · have hw := hw.2 c83
                  refine lv_iload hx hb dL_areJobs_200 (lv_at hl 1 rfl) ?_
                  refine lv_bipush (v := (nI 55)) hx hb dL_areJobs_202 (by decide) ?_
                  refine lv_icmp_ne (tgt := 211) hx hb dL_areJobs_204 (by decide) (fun c85 => ?_) (fun c85 => ?_)
                  · have hw := hw.1 c85
                    exact hw.elim
                  · have hw := hw.2 c85
                    refine lv_iconst (v := (nI 1)) hx hb dL_areJobs_207 (by decide) ?_
                    refine lv_goto (tgt := 212) hx hb dL_areJobs_208 (by decide) ?_
                    refine lv_iand hx hb dL_areJobs_212 ?_
                    refine lv_topi (fun x86 ex86 => ?_)
                    have hw := hw x86 ex86
                    refine lv_istore (lv' := [(7, .int x86), (5, .long (w5 + x52.toInt64)), (13, .int x50), (0, .ref a0), (1, .long p1), (3, .ref a3), (4, .ref a4), (8, .int w8), (9, .int w9), (10, .int w10), (11, .ref w11), (12, .int w12)]) hx hb dL_areJobs_213 hl (by decide) rfl (fun ls hl => ?_)
                    exact lcL_areJobs_215 X hr hl9 _ _ _ _ _ _ (n * 46 + 6 + Bc) (n * 276 + 36 + Bs) (fun w5 w7 w8 w9 w10 w11 w12 S hw H locs ls kc ks h1 h2 h hl => ih w5 w7 w8 w9 w10 w11 w12 S hw H locs ls kc ks (by omega) (by omega) h hl) _ _ _ _ _ _ _ _ hw _ _ _ _ _ (by omega) (by omega) h (lv_sub hl [3, 4, 5, 6, 1, 0, 7, 8, 9, 10, 11] rfl)
def wcL_areJobs_110 (a0 : Nat) (p1 : Int64) (a3 : Nat) (a4 : Nat) (post : Int32 → Mem → Prop) (J : Int64 → Int32 → Int32 → Mem → Prop) (w5 : Int64) (w7 : Int32) (w8 : Int32) (w9 : Int32) (w10 : Int32) (S : Mem) : Prop := ∀ o25 : Nat, o25 ∉ mL S → (∀ S26 : Mem, S26 = (nA S o25 8 17) → (∃ m, m ≤ 9 ∧ wlL_areJobs_119 a0 p1 a3 a4 post J m w5 w7 w8 w9 w10 o25 (nI 0) S26))
set_option maxHeartbeats 8000000 in
set_option maxRecDepth 100000 in
theorem lcL_areJobs_110 {p : Program} {l : Launch} {e : Env} {s : State} {m : MethodId} {args : Array Value} {below : List Frame} {meth : Method} {c : Code} {G : GT} {A : Nat → Prop} (X : Cx p s m args meth c cL_areJobs 16 RL G A) (hr : meth.sig.returnType = (some .boolean)) (hl9 : l.stackTraces = false) (a0 : Nat) (p1 : Int64) (a3 : Nat) (a4 : Nat) (post : Int32 → Mem → Prop) (J : Int64 → Int32 → Int32 → Mem → Prop) (Bc Bs : Nat) (hJ : ∀ (w5 : Int64) (w7 : Int32) (w8 : Int32) (S : Mem), J w5 w7 w8 S → ∀ (H : Heap) (locs : List Loc) (ls : Array Slot) (kc ks : Nat), kc + Bc ≤ 1696 → ks + Bs ≤ 10220 → Hx G A s.heap H locs S → lv_has ls 16 [(0, .ref a0), (1, .long p1), (3, .ref a3), (4, .ref a4), (5, .long w5), (7, .int w7), (8, .int w8)] → W p l e rmL_areJobs s m args below meth c H locs kc ks (MQ below (QN emI post G A) args s 1696 10220 A) (F0 m 12 ls [])) : ∀ (w5 : Int64) (w7 : Int32) (w8 : Int32) (w9 : Int32) (w10 : Int32) (S : Mem) (hw : wcL_areJobs_110 a0 p1 a3 a4 post J w5 w7 w8 w9 w10 S) (H : Heap) (locs : List Loc) (ls : Array Slot) (kc ks : Nat), kc + (421 + Bc) ≤ 1696 → ks + (2537 + Bs) ≤ 10220 → Hx G A s.heap H locs S → lv_has ls 16 [(0, .ref a0), (1, .long p1), (3, .ref a3), (4, .ref a4), (5, .long w5), (7, .int w7), (8, .int w8), (9, .int w9), (10, .int w10)] → W p l e rmL_areJobs s m args below meth c H locs kc ks (MQ below (QN emI post G A) args s 1696 10220 A) (F0 m 110 ls []) := by
  have hx := X.1
  have hb := X.2.1
  have hown := X.2.2.2.1
  intro w5 w7 w8 w9 w10 S hw H locs ls kc ks hkc hks h hl
  unfold wcL_areJobs_110 at hw
  refine lv_bipush (v := (nI 17)) hx hb dL_areJobs_110 (by decide) ?_
  refine r_newI X h 17 q64 (by decide) ⟨rcL_areJobs (by omega), rsL_areJobs (by omega)⟩ dL_areJobs_112 (fun o25 H ho25 h => ?_)
  have hw := hw o25 ho25
  obtain ⟨S26, eS26⟩ : ∃ z : Mem, z = (nA S o25 8 17) := ⟨_, rfl⟩
  rw [← eS26] at h
  have hw := hw S26 eS26
  refine lv_astore (lv' := [(11, .ref o25), (0, .ref a0), (1, .long p1), (3, .ref a3), (4, .ref a4), (5, .long w5), (7, .int w7), (8, .int w8), (9, .int w9), (10, .int w10)]) hx hb dL_areJobs_114 hl (by decide) rfl (fun ls hl => ?_)
  refine lv_iconst (v := (nI 0)) hx hb dL_areJobs_116 (by decide) ?_
  refine lv_istore (lv' := [(12, .int (nI 0)), (11, .ref o25), (0, .ref a0), (1, .long p1), (3, .ref a3), (4, .ref a4), (5, .long w5), (7, .int w7), (8, .int w8), (9, .int w9), (10, .int w10)]) hx hb dL_areJobs_117 hl (by decide) rfl (fun ls hl => ?_)
  obtain ⟨n87, hn87, hw⟩ := hw
  exact llL_areJobs_119 X hr hl9 _ _ _ _ _ _ Bc Bs hJ n87 _ _ _ _ _ _ _ _ hw _ _ _ _ _ (by omega) (by omega) h (lv_sub hl [2, 3, 4, 5, 6, 7, 8, 9, 10, 1, 0] rfl)
def wcL_areJobs_52 (a0 : Nat) (p1 : Int64) (a3 : Nat) (a4 : Nat) (post : Int32 → Mem → Prop) (J : Int64 → Int32 → Int32 → Mem → Prop) (w5 : Int64) (w7 : Int32) (w8 : Int32) (w9 : Int32) (w10 : Int32) (S : Mem) : Prop := wpL_pages S a0 w8 (fun x16 S15 => isK S15 a3 8 ∧ (vp_in w8 (mN S15 a3) ∧ ((¬ x16 = (mI S15 a3 w8.toNatClampNeg) → (False)) ∧ (x16 = (mI S15 a3 w8.toNatClampNeg) → ((w10 = 0 → (wpL_sheets S15 a0 w8 (fun x22 S21 => (¬ x22 = (-79 : Int32) → (False)) ∧ (x22 = (-79 : Int32) → (∀ x24 : Int32, x24 = (w7 &&& (nI 1)) → (wcL_areJobs_110 a0 p1 a3 a4 post J w5 x24 w8 w9 w10 S21)))))) ∧ (¬ w10 = 0 → (wpL_sheets S15 a0 w8 (fun x89 S88 => isK S88 a3 8 ∧ (vp_in w8 (mN S88 a3) ∧ (¬ w9 = 0 ∧ ((¬ x89 = ((mI S88 a3 w8.toNatClampNeg) / w9) → (False)) ∧ (x89 = ((mI S88 a3 w8.toNatClampNeg) / w9) → (∀ x94 : Int32, x94 = (w7 &&& (nI 1)) → (wcL_areJobs_110 a0 p1 a3 a4 post J w5 x94 w8 w9 w10 S88))))))))))))))
set_option maxHeartbeats 8000000 in
set_option maxRecDepth 100000 in
theorem lcL_areJobs_52 {p : Program} {l : Launch} {e : Env} {s : State} {m : MethodId} {args : Array Value} {below : List Frame} {meth : Method} {c : Code} {G : GT} {A : Nat → Prop} (X : Cx p s m args meth c cL_areJobs 16 RL G A) (hr : meth.sig.returnType = (some .boolean)) (hl9 : l.stackTraces = false) (a0 : Nat) (p1 : Int64) (a3 : Nat) (a4 : Nat) (post : Int32 → Mem → Prop) (J : Int64 → Int32 → Int32 → Mem → Prop) (Bc Bs : Nat) (hJ : ∀ (w5 : Int64) (w7 : Int32) (w8 : Int32) (S : Mem), J w5 w7 w8 S → ∀ (H : Heap) (locs : List Loc) (ls : Array Slot) (kc ks : Nat), kc + Bc ≤ 1696 → ks + Bs ≤ 10220 → Hx G A s.heap H locs S → lv_has ls 16 [(0, .ref a0), (1, .long p1), (3, .ref a3), (4, .ref a4), (5, .long w5), (7, .int w7), (8, .int w8)] → W p l e rmL_areJobs s m args below meth c H locs kc ks (MQ below (QN emI post G A) args s 1696 10220 A) (F0 m 12 ls [])) : ∀ (w5 : Int64) (w7 : Int32) (w8 : Int32) (w9 : Int32) (w10 : Int32) (S : Mem) (hw : wcL_areJobs_52 a0 p1 a3 a4 post J w5 w7 w8 w9 w10 S) (H : Heap) (locs : List Loc) (ls : Array Slot) (kc ks : Nat), kc + (424 + Bc) ≤ 1696 → ks + (2555 + Bs) ≤ 10220 → Hx G A s.heap H locs S → lv_has ls 16 [(0, .ref a0), (1, .long p1), (3, .ref a3), (4, .ref a4), (5, .long w5), (7, .int w7), (8, .int w8), (9, .int w9), (10, .int w10)] → W p l e rmL_areJobs s m args below meth c H locs kc ks (MQ below (QN emI post G A) args s 1696 10220 A) (F0 m 52 ls []) := by
  have hx := X.1
  have hb := X.2.1
  have hown := X.2.2.2.1
  intro w5 w7 w8 w9 w10 S hw H locs ls kc ks hkc hks h hl
  unfold wcL_areJobs_52 at hw
  refine lv_iload hx hb dL_areJobs_52 (lv_at hl 5 rfl) ?_
  refine lv_aload_n hx hb dL_areJobs_54 rfl (lv_at hl 0 rfl) ?_
  refine lv_iload hx hb dL_areJobs_55 (lv_at hl 6 rfl) ?_
  refine rc_H (As := [.ref a0, .int w8]) (rest := [.int w7]) X h (meL_pages l hl9 G _ _ _ _ hw) gS_L_129 rfl rfl hdS_L_pages rfl ⟨Nat.le_of_ble_eq_true rfl, Nat.le_of_ble_eq_true rfl⟩ hl.1 rfl (Nat.le_of_ble_eq_true rfl) ⟨rcL_areJobs (by omega), rsL_areJobs (by omega)⟩ dL_areJobs_57 (fun x16 S15 H locs hw h => ?_)
  refine lv_aload_n hx hb dL_areJobs_60 rfl (lv_at hl 2 rfl) ?_
  refine lv_iload hx hb dL_areJobs_61 (lv_at hl 6 rfl) ?_
  obtain ⟨k17, hw⟩ := hw
  obtain ⟨v18, hw⟩ := hw
  refine r_iald X h k17 v18 dL_areJobs_63 ?_
  refine lv_icmp_ne (tgt := 106) hx hb dL_areJobs_64 (by decide) (fun c19 => ?_) (fun c19 => ?_)
  · have hw := hw.1 c19
    exact hw.elim
  · have hw := hw.2 c19
    refine lv_iload hx hb dL_areJobs_67 (lv_at hl 8 rfl) ?_
    refine lv_if_eq (tgt := 91) hx hb dL_areJobs_69 (by decide) (fun c20 => ?_) (fun c20 => ?_)
    · have hw := hw.1 c20
      refine lv_aload_n hx hb dL_areJobs_91 rfl (lv_at hl 0 rfl) ?_
      refine lv_iload hx hb dL_areJobs_92 (lv_at hl 6 rfl) ?_
      refine rc_H (As := [.ref a0, .int w8]) (rest := [.int w7]) X h (meL_sheets l hl9 G _ _ _ _ hw) gS_L_152 rfl rfl hdS_L_sheets rfl ⟨Nat.le_of_ble_eq_true rfl, Nat.le_of_ble_eq_true rfl⟩ hl.1 rfl (Nat.le_of_ble_eq_true rfl) ⟨rcL_areJobs (by omega), rsL_areJobs (by omega)⟩ dL_areJobs_94 (fun x22 S21 H locs hw h => ?_)
      refine lv_bipush (v := (-79 : Int32)) hx hb dL_areJobs_97 (by decide) ?_
      refine lv_icmp_ne (tgt := 106) hx hb dL_areJobs_99 (by decide) (fun c23 => ?_) (fun c23 => ?_)
      · have hw := hw.1 c23
        exact hw.elim
      · have hw := hw.2 c23
        refine lv_iconst (v := (nI 1)) hx hb dL_areJobs_102 (by decide) ?_
        refine lv_goto (tgt := 107) hx hb dL_areJobs_103 (by decide) ?_
        refine lv_iand hx hb dL_areJobs_107 ?_
        refine lv_topi (fun x24 ex24 => ?_)
        have hw := hw x24 ex24
        refine lv_istore (lv' := [(7, .int x24), (0, .ref a0), (1, .long p1), (3, .ref a3), (4, .ref a4), (5, .long w5), (8, .int w8), (9, .int w9), (10, .int w10)]) hx hb dL_areJobs_108 hl (by decide) rfl (fun ls hl => ?_)
        exact lcL_areJobs_110 X hr hl9 _ _ _ _ _ _ Bc Bs hJ _ _ _ _ _ _ hw _ _ _ _ _ (by omega) (by omega) h (lv_sub hl [1, 2, 3, 4, 5, 0, 6, 7, 8] rfl)
    · have hw := hw.2 c20
      refine lv_aload_n hx hb dL_areJobs_72 rfl (lv_at hl 0 rfl) ?_
      refine lv_iload hx hb dL_areJobs_73 (lv_at hl 6 rfl) ?_
      refine rc_H (As := [.ref a0, .int w8]) (rest := [.int w7]) X h (meL_sheets l hl9 G _ _ _ _ hw) gS_L_152 rfl rfl hdS_L_sheets rfl ⟨Nat.le_of_ble_eq_true rfl, Nat.le_of_ble_eq_true rfl⟩ hl.1 rfl (Nat.le_of_ble_eq_true rfl) ⟨rcL_areJobs (by omega), rsL_areJobs (by omega)⟩ dL_areJobs_75 (fun x89 S88 H locs hw h => ?_)
      refine lv_aload_n hx hb dL_areJobs_78 rfl (lv_at hl 2 rfl) ?_
      refine lv_iload hx hb dL_areJobs_79 (lv_at hl 6 rfl) ?_
      obtain ⟨k90, hw⟩ := hw
      obtain ⟨v91, hw⟩ := hw
      refine r_iald X h k90 v91 dL_areJobs_81 ?_
      refine lv_iload hx hb dL_areJobs_82 (lv_at hl 7 rfl) ?_
      obtain ⟨z92, hw⟩ := hw
      refine lv_idiv hx hb dL_areJobs_84 z92 ?_
      refine lv_icmp_ne (tgt := 106) hx hb dL_areJobs_85 (by decide) (fun c93 => ?_) (fun c93 => ?_)
      · have hw := hw.1 c93
        exact hw.elim
      · have hw := hw.2 c93
        refine lv_goto (tgt := 102) hx hb dL_areJobs_88 (by decide) ?_
        refine lv_iconst (v := (nI 1)) hx hb dL_areJobs_102 (by decide) ?_
        refine lv_goto (tgt := 107) hx hb dL_areJobs_103 (by decide) ?_
        refine lv_iand hx hb dL_areJobs_107 ?_
        refine lv_topi (fun x94 ex94 => ?_)
        have hw := hw x94 ex94
        refine lv_istore (lv' := [(7, .int x94), (0, .ref a0), (1, .long p1), (3, .ref a3), (4, .ref a4), (5, .long w5), (8, .int w8), (9, .int w9), (10, .int w10)]) hx hb dL_areJobs_108 hl (by decide) rfl (fun ls hl => ?_)
        exact lcL_areJobs_110 X hr hl9 _ _ _ _ _ _ Bc Bs hJ _ _ _ _ _ _ hw _ _ _ _ _ (by omega) (by omega) h (lv_sub hl [1, 2, 3, 4, 5, 0, 6, 7, 8] rfl)
def wcL_areJobs_35 (a0 : Nat) (p1 : Int64) (a3 : Nat) (a4 : Nat) (post : Int32 → Mem → Prop) (J : Int64 → Int32 → Int32 → Mem → Prop) (w5 : Int64) (w7 : Int32) (w8 : Int32) (w9 : Int32) (S : Mem) : Prop := isK S a3 8 ∧ (vp_in w8 (mN S a3) ∧ (¬ w9 = 0 ∧ ((¬ ((mI S a3 w8.toNatClampNeg) - (mI S a3 w8.toNatClampNeg) / w9 * w9) = 0 → (wcL_areJobs_52 a0 p1 a3 a4 post J w5 w7 w8 w9 (nI 0) S)) ∧ (((mI S a3 w8.toNatClampNeg) - (mI S a3 w8.toNatClampNeg) / w9 * w9) = 0 → (wcL_areJobs_52 a0 p1 a3 a4 post J w5 w7 w8 w9 (nI 1) S)))))
set_option maxHeartbeats 8000000 in
set_option maxRecDepth 100000 in
theorem lcL_areJobs_35 {p : Program} {l : Launch} {e : Env} {s : State} {m : MethodId} {args : Array Value} {below : List Frame} {meth : Method} {c : Code} {G : GT} {A : Nat → Prop} (X : Cx p s m args meth c cL_areJobs 16 RL G A) (hr : meth.sig.returnType = (some .boolean)) (hl9 : l.stackTraces = false) (a0 : Nat) (p1 : Int64) (a3 : Nat) (a4 : Nat) (post : Int32 → Mem → Prop) (J : Int64 → Int32 → Int32 → Mem → Prop) (Bc Bs : Nat) (hJ : ∀ (w5 : Int64) (w7 : Int32) (w8 : Int32) (S : Mem), J w5 w7 w8 S → ∀ (H : Heap) (locs : List Loc) (ls : Array Slot) (kc ks : Nat), kc + Bc ≤ 1696 → ks + Bs ≤ 10220 → Hx G A s.heap H locs S → lv_has ls 16 [(0, .ref a0), (1, .long p1), (3, .ref a3), (4, .ref a4), (5, .long w5), (7, .int w7), (8, .int w8)] → W p l e rmL_areJobs s m args below meth c H locs kc ks (MQ below (QN emI post G A) args s 1696 10220 A) (F0 m 12 ls [])) : ∀ (w5 : Int64) (w7 : Int32) (w8 : Int32) (w9 : Int32) (S : Mem) (hw : wcL_areJobs_35 a0 p1 a3 a4 post J w5 w7 w8 w9 S) (H : Heap) (locs : List Loc) (ls : Array Slot) (kc ks : Nat), kc + (424 + Bc) ≤ 1696 → ks + (2555 + Bs) ≤ 10220 → Hx G A s.heap H locs S → lv_has ls 16 [(0, .ref a0), (1, .long p1), (3, .ref a3), (4, .ref a4), (5, .long w5), (7, .int w7), (8, .int w8), (9, .int w9)] → W p l e rmL_areJobs s m args below meth c H locs kc ks (MQ below (QN emI post G A) args s 1696 10220 A) (F0 m 35 ls []) := by
  have hx := X.1
  have hb := X.2.1
  have hown := X.2.2.2.1
  intro w5 w7 w8 w9 S hw H locs ls kc ks hkc hks h hl
  unfold wcL_areJobs_35 at hw
  refine lv_aload_n hx hb dL_areJobs_35 rfl (lv_at hl 2 rfl) ?_
  refine lv_iload hx hb dL_areJobs_36 (lv_at hl 6 rfl) ?_
  obtain ⟨k11, hw⟩ := hw
  obtain ⟨v12, hw⟩ := hw
  refine r_iald X h k11 v12 dL_areJobs_38 ?_
  refine lv_iload hx hb dL_areJobs_39 (lv_at hl 7 rfl) ?_
  obtain ⟨z13, hw⟩ := hw
  refine lv_irem hx hb dL_areJobs_41 z13 ?_
  refine lv_if_ne (tgt := 49) hx hb dL_areJobs_42 (by decide) (fun c14 => ?_) (fun c14 => ?_)
  · have hw := hw.1 c14
    refine lv_iconst (v := (nI 0)) hx hb dL_areJobs_49 (by decide) ?_
    refine lv_istore (lv' := [(10, .int (nI 0)), (0, .ref a0), (1, .long p1), (3, .ref a3), (4, .ref a4), (5, .long w5), (7, .int w7), (8, .int w8), (9, .int w9)]) hx hb dL_areJobs_50 hl (by decide) rfl (fun ls hl => ?_)
    exact lcL_areJobs_52 X hr hl9 _ _ _ _ _ _ Bc Bs hJ _ _ _ _ _ _ hw _ _ _ _ _ (by omega) (by omega) h (lv_sub hl [1, 2, 3, 4, 5, 6, 7, 8, 0] rfl)
  · have hw := hw.2 c14
    refine lv_iconst (v := (nI 1)) hx hb dL_areJobs_45 (by decide) ?_
    refine lv_goto (tgt := 50) hx hb dL_areJobs_46 (by decide) ?_
    refine lv_istore (lv' := [(10, .int (nI 1)), (0, .ref a0), (1, .long p1), (3, .ref a3), (4, .ref a4), (5, .long w5), (7, .int w7), (8, .int w8), (9, .int w9)]) hx hb dL_areJobs_50 hl (by decide) rfl (fun ls hl => ?_)
    exact lcL_areJobs_52 X hr hl9 _ _ _ _ _ _ Bc Bs hJ _ _ _ _ _ _ hw _ _ _ _ _ (by omega) (by omega) h (lv_sub hl [1, 2, 3, 4, 5, 6, 7, 8, 0] rfl)
def wlL_areJobs_12 (a0 : Nat) (p1 : Int64) (a3 : Nat) (a4 : Nat) (post : Int32 → Mem → Prop) : Nat → Int64 → Int32 → Int32 → Mem → Prop
  | 0 => fun _ _ _ _ => False
  | n + 1 => fun w5 w7 w8 S => ((nI 3) ≤ w8 → ((w7 = 0 → (False)) ∧ (¬ w7 = 0 → ((¬ (lg_cmp w5 p1) = 0 → (False)) ∧ ((lg_cmp w5 p1) = 0 → (vz_nar (nI 1) ∧ (post (nI 1) S))))))) ∧ (¬ (nI 3) ≤ w8 → (isK S a4 9 ∧ (vp_in w8 (mN S a4) ∧ ((¬ (mI S a4 w8.toNatClampNeg) = (nI 119) → (wcL_areJobs_35 a0 p1 a3 a4 post (wlL_areJobs_12 a0 p1 a3 a4 post n) w5 w7 w8 (nI 4) S)) ∧ ((mI S a4 w8.toNatClampNeg) = (nI 119) → (wcL_areJobs_35 a0 p1 a3 a4 post (wlL_areJobs_12 a0 p1 a3 a4 post n) w5 w7 w8 (nI 2) S))))))
set_option maxHeartbeats 8000000 in
set_option maxRecDepth 100000 in
theorem llL_areJobs_12 {p : Program} {l : Launch} {e : Env} {s : State} {m : MethodId} {args : Array Value} {below : List Frame} {meth : Method} {c : Code} {G : GT} {A : Nat → Prop} (X : Cx p s m args meth c cL_areJobs 16 RL G A) (hr : meth.sig.returnType = (some .boolean)) (hl9 : l.stackTraces = false) (a0 : Nat) (p1 : Int64) (a3 : Nat) (a4 : Nat) (post : Int32 → Mem → Prop) : ∀ (n : Nat) (w5 : Int64) (w7 : Int32) (w8 : Int32) (S : Mem) (hw : wlL_areJobs_12 a0 p1 a3 a4 post n w5 w7 w8 S) (H : Heap) (locs : List Loc) (ls : Array Slot) (kc ks : Nat), kc + (n * 424 + 0) ≤ 1696 → ks + (n * 2555 + 0) ≤ 10220 → Hx G A s.heap H locs S → lv_has ls 16 [(0, .ref a0), (1, .long p1), (3, .ref a3), (4, .ref a4), (5, .long w5), (7, .int w7), (8, .int w8)] → W p l e rmL_areJobs s m args below meth c H locs kc ks (MQ below (QN emI post G A) args s 1696 10220 A) (F0 m 12 ls []) := by
  have hx := X.1
  have hb := X.2.1
  have hown := X.2.2.2.1
  intro n
  induction n with
  | zero =>
    intro _ _ _ _ hw
    exact hw.elim
  | succ n ih =>
    intro w5 w7 w8 S hw H locs ls kc ks hkc hks h hl
    refine lv_iload hx hb dL_areJobs_12 (lv_at hl 6 rfl) ?_
    refine lv_iconst (v := (nI 3)) hx hb dL_areJobs_14 (by decide) ?_
    refine lv_icmp_ge (tgt := 376) hx hb dL_areJobs_15 (by decide) (fun c4 => ?_) (fun c4 => ?_)
    · have hw := hw.1 c4
      refine lv_iload hx hb dL_areJobs_376 (lv_at hl 5 rfl) ?_
      refine lv_if_eq (tgt := 392) hx hb dL_areJobs_378 (by decide) (fun c5 => ?_) (fun c5 => ?_)
      · have hw := hw.1 c5
        exact hw.elim
      · have hw := hw.2 c5
        refine lv_lload hx hb dL_areJobs_381 (lv_at hl 4 rfl) ?_
        refine lv_lload_n hx hb dL_areJobs_383 rfl (lv_at hl 1 rfl) ?_
        refine W.lcmp hx hb dL_areJobs_384 ?_
        refine lv_if_ne (tgt := 392) hx hb dL_areJobs_385 (by decide) (fun c6 => ?_) (fun c6 => ?_)
        · have hw := hw.1 c6
          exact hw.elim
        · have hw := hw.2 c6
          refine lv_iconst (v := (nI 1)) hx hb dL_areJobs_388 (by decide) ?_
          refine lv_goto (tgt := 393) hx hb dL_areJobs_389 (by decide) ?_
          obtain ⟨b7, hw⟩ := hw
          exact (en_z X h hr b7 hw (by omega) (by omega) dL_areJobs_393)
    · have hw := hw.2 c4
      refine lv_aload hx hb dL_areJobs_18 (lv_at hl 3 rfl) ?_
      refine lv_iload hx hb dL_areJobs_20 (lv_at hl 6 rfl) ?_
      obtain ⟨k8, hw⟩ := hw
      obtain ⟨v9, hw⟩ := hw
      refine r_cald X h k8 v9 dL_areJobs_22 ?_
      refine lv_bipush (v := (nI 119)) hx hb dL_areJobs_23 (by decide) ?_
      refine lv_icmp_ne (tgt := 32) hx hb dL_areJobs_25 (by decide) (fun c10 => ?_) (fun c10 => ?_)
      · have hw := hw.1 c10
        refine lv_iconst (v := (nI 4)) hx hb dL_areJobs_32 (by decide) ?_
        refine lv_istore (lv' := [(9, .int (nI 4)), (0, .ref a0), (1, .long p1), (3, .ref a3), (4, .ref a4), (5, .long w5), (7, .int w7), (8, .int w8)]) hx hb dL_areJobs_33 hl (by decide) rfl (fun ls hl => ?_)
        exact lcL_areJobs_35 X hr hl9 _ _ _ _ _ _ (n * 424 + 0) (n * 2555 + 0) (fun w5 w7 w8 S hw H locs ls kc ks h1 h2 h hl => ih w5 w7 w8 S hw H locs ls kc ks (by omega) (by omega) h hl) _ _ _ _ _ hw _ _ _ _ _ (by omega) (by omega) h (lv_sub hl [1, 2, 3, 4, 5, 6, 7, 0] rfl)
      · have hw := hw.2 c10
        refine lv_iconst (v := (nI 2)) hx hb dL_areJobs_28 (by decide) ?_
        refine lv_goto (tgt := 33) hx hb dL_areJobs_29 (by decide) ?_
        refine lv_istore (lv' := [(9, .int (nI 2)), (0, .ref a0), (1, .long p1), (3, .ref a3), (4, .ref a4), (5, .long w5), (7, .int w7), (8, .int w8)]) hx hb dL_areJobs_33 hl (by decide) rfl (fun ls hl => ?_)
        exact lcL_areJobs_35 X hr hl9 _ _ _ _ _ _ (n * 424 + 0) (n * 2555 + 0) (fun w5 w7 w8 S hw H locs ls kc ks h1 h2 h hl => ih w5 w7 w8 S hw H locs ls kc ks (by omega) (by omega) h hl) _ _ _ _ _ hw _ _ _ _ _ (by omega) (by omega) h (lv_sub hl [1, 2, 3, 4, 5, 6, 7, 0] rfl)
def wpL_areJobs (S : Mem) (a0 : Nat) (p1 : Int64) (a3 : Nat) (a4 : Nat) (post : Int32 → Mem → Prop) : Prop := isK S a0 6 ∧ (wpX6_waste S a0 (fun x3 S1 => ∃ m, m ≤ 4 ∧ wlL_areJobs_12 a0 p1 a3 a4 post m x3 (nI 1) (nI 0) S1))
set_option maxHeartbeats 4000000 in
set_option maxRecDepth 100000 in
theorem meL_areJobs (l : Launch) (hl9 : l.stackTraces = false) (G : GT) (S : Mem) (a0 : Nat) (p1 : Int64) (a3 : Nat) (a4 : Nat) (post : Int32 → Mem → Prop) (hw : wpL_areJobs S a0 p1 a3 a4 post) : CN emI l yL_areJobs (wsU yL_areJobs cL_areJobs 16 (some .boolean)) rmL_areJobs 1696 10220 G [.ref a0, .long p1, .ref a3, .ref a4] S post := by
  refine cn_open RL rfl (by decide +kernel) (Nat.le_of_ble_eq_true rfl) ?_
  intro p e s m args below meth c A X h hr hin ls hl
  have hl : lv_has ls 16 [(0, .ref a0), (1, .long p1), (3, .ref a3), (4, .ref a4)] := hl
  have hx := X.1
  have hb := X.2.1
  have hown := X.2.2.2.1
  unfold wpL_areJobs at hw
  refine lv_aload_n hx hb dL_areJobs_0 rfl (lv_at hl 0 rfl) ?_
  obtain ⟨k2, hw⟩ := hw
  refine rc_V (As := []) (rest := []) X h k2 (by decide) rfl (meX6_waste l G _ _ _ hw) gV_L_121 rfl rfl hdV_X6_waste rfl ⟨Nat.le_of_ble_eq_true rfl, Nat.le_of_ble_eq_true rfl⟩ hl.1 rfl (Nat.le_of_ble_eq_true rfl) ⟨rcL_areJobs (by omega), rsL_areJobs (by omega)⟩ dL_areJobs_1 (fun x3 S1 H locs hw h => ?_)
  refine lv_lstore (lv' := [(5, .long x3), (0, .ref a0), (1, .long p1), (3, .ref a3), (4, .ref a4)]) hx hb dL_areJobs_4 hl (by decide) rfl (fun ls hl => ?_)
  refine lv_iconst (v := (nI 1)) hx hb dL_areJobs_6 (by decide) ?_
  refine lv_istore (lv' := [(7, .int (nI 1)), (5, .long x3), (0, .ref a0), (1, .long p1), (3, .ref a3), (4, .ref a4)]) hx hb dL_areJobs_7 hl (by decide) rfl (fun ls hl => ?_)
  refine lv_iconst (v := (nI 0)) hx hb dL_areJobs_9 (by decide) ?_
  refine lv_istore (lv' := [(8, .int (nI 0)), (7, .int (nI 1)), (5, .long x3), (0, .ref a0), (1, .long p1), (3, .ref a3), (4, .ref a4)]) hx hb dL_areJobs_10 hl (by decide) rfl (fun ls hl => ?_)
  obtain ⟨n95, hn95, hw⟩ := hw
  exact llL_areJobs_12 X hr hl9 _ _ _ _ _ n95 _ _ _ _ hw _ _ _ _ _ (by omega) (by omega) h (lv_sub hl [3, 4, 5, 6, 2, 1, 0] rfl)
abbrev rmX3_start : Room := { frames := 1, cells := 0, slots := 0, locals := 22 }
def wpX3_start (S : Mem) (a0 : Nat) (p1 : Int32) (p2 : Int32) (p3 : Int32) (post : Unit → Mem → Prop) : Prop := ∀ x1 : Int32, x1 = (if (nI 0) < (if (nI 8) < p1 then (nI 8) else p1) then (if (nI 8) < p1 then (nI 8) else p1) else (nI 0)) → (isK S a0 3 ∧ (∀ S3 : Mem, S3 = (sI S a0 3 x1) → (∃ o4, mR S3 a0 0 = some o4 ∧ (wpX6_put S3 o4 (nI 8) p2 (fun u6 S5 => isK S5 a0 3 ∧ (∃ o8, mR S5 a0 1 = some o8 ∧ (wpX6_put S5 o8 (nI 8) p3 (fun u10 S9 => post () S9))))))))
set_option maxHeartbeats 4000000 in
set_option maxRecDepth 100000 in
theorem meX3_start (l : Launch) (G : GT) (S : Mem) (a0 : Nat) (p1 : Int32) (p2 : Int32) (p3 : Int32) (post : Unit → Mem → Prop) (hw : wpX3_start S a0 p1 p2 p3 post) : CN emV l yX3_start (wsU yX3_start cX3_start 4 none) rmX3_start 0 0 G [.ref a0, .int p1, .int p2, .int p3] S post := by
  refine cn_open RX3 rfl (by decide +kernel) (Nat.le_of_ble_eq_true rfl) ?_
  intro p e s m args below meth c A X h hr hin ls hl
  have hl : lv_has ls 4 [(0, .ref a0), (1, .int p1), (2, .int p2), (3, .int p3)] := hl
  have hx := X.1
  have hb := X.2.1
  have hown := X.2.2.2.1
  unfold wpX3_start at hw
  refine lv_aload_n hx hb dX3_start_0 rfl (lv_at hl 0 rfl) ?_
  refine lv_iconst (v := (nI 0)) hx hb dX3_start_1 (by decide) ?_
  refine lv_iload_n hx hb dX3_start_2 rfl (lv_at hl 1 rfl) ?_
  refine lv_bipush (v := (nI 8)) hx hb dX3_start_3 (by decide) ?_
  refine r_min X hl.1 q774 q775 q30 q776 ⟨Nat.le_of_ble_eq_true rfl, Nat.le_of_ble_eq_true rfl⟩ ⟨Nat.le_of_ble_eq_true rfl, Nat.le_of_ble_eq_true rfl⟩ dX3_start_5 ?_
  refine r_max X hl.1 q777 q609 q30 q610 ⟨Nat.le_of_ble_eq_true rfl, Nat.le_of_ble_eq_true rfl⟩ ⟨Nat.le_of_ble_eq_true rfl, Nat.le_of_ble_eq_true rfl⟩ dX3_start_8 ?_
  refine lv_topi (fun x1 ex1 => ?_)
  have hw := hw x1 ex1
  obtain ⟨k2, hw⟩ := hw
  refine r_putI X h k2 3 (by decide) rfl inX3 tyX3 tyX3_ok nmX3 (by decide) rfl (Nat.le_of_ble_eq_true rfl) q108 rfl rfl (tyX3_ok 3 (by decide)) rfl rfl dX3_start_11 (fun H locs h => ?_)
  obtain ⟨S3, eS3⟩ : ∃ z : Mem, z = (sI S a0 3 x1) := ⟨_, rfl⟩
  rw [← eS3] at h
  have hw := hw S3 eS3
  refine lv_aload_n hx hb dX3_start_14 rfl (lv_at hl 0 rfl) ?_
  obtain ⟨o4, eo4, hw⟩ := hw
  refine r_getR X h (kI eS3 k2) 0 eo4  (by decide) rfl inX3 (by decide) rfl q105 rfl dX3_start_15 ?_
  refine lv_bipush (v := (nI 8)) hx hb dX3_start_18 (by decide) ?_
  refine lv_iload_n hx hb dX3_start_20 rfl (lv_at hl 2 rfl) ?_
  refine rc_SN (As := [.ref o4, .int (nI 8), .int p2]) (rest := []) X h (meX6_put l G _ _ _ _ _ hw) gU_X3_34 q778 q14 q319 rfl rfl hdS_X6_put rfl ⟨Nat.le_of_ble_eq_true rfl, Nat.le_of_ble_eq_true rfl⟩ hl.1 rfl (Nat.le_of_ble_eq_true rfl) ⟨Nat.le_of_ble_eq_true rfl, Nat.le_of_ble_eq_true rfl⟩ dX3_start_21 (fun u6 S5 H locs hw h => ?_)
  refine lv_aload_n hx hb dX3_start_24 rfl (lv_at hl 0 rfl) ?_
  obtain ⟨k7, hw⟩ := hw
  obtain ⟨o8, eo8, hw⟩ := hw
  refine r_getR X h k7 1 eo8  (by decide) rfl inX3 (by decide) rfl q106 rfl dX3_start_25 ?_
  refine lv_bipush (v := (nI 8)) hx hb dX3_start_28 (by decide) ?_
  refine lv_iload_n hx hb dX3_start_30 rfl (lv_at hl 3 rfl) ?_
  refine rc_SN (As := [.ref o8, .int (nI 8), .int p3]) (rest := []) X h (meX6_put l G _ _ _ _ _ hw) gU_X3_34 q778 q14 q319 rfl rfl hdS_X6_put rfl ⟨Nat.le_of_ble_eq_true rfl, Nat.le_of_ble_eq_true rfl⟩ hl.1 rfl (Nat.le_of_ble_eq_true rfl) ⟨Nat.le_of_ble_eq_true rfl, Nat.le_of_ble_eq_true rfl⟩ dX3_start_31 (fun u10 S9 H locs hw h => ?_)
  exact (en_v X h hr hw (Nat.le_of_ble_eq_true rfl) (Nat.le_of_ble_eq_true rfl) dX3_start_34)
abbrev rmX3_setSheet : Room := { frames := 1, cells := 0, slots := 0, locals := 22 }
def wpX3_setSheet (S : Mem) (a0 : Nat) (p1 : Int32) (p2 : Int32) (p3 : Int32) (post : Unit → Mem → Prop) : Prop := isK S a0 3 ∧ (∃ o2, mR S a0 0 = some o2 ∧ (wpX6_put S o2 p1 p2 (fun u4 S3 => isK S3 a0 3 ∧ (∃ o6, mR S3 a0 1 = some o6 ∧ (wpX6_put S3 o6 p1 p3 (fun u8 S7 => post () S7))))))
set_option maxHeartbeats 4000000 in
set_option maxRecDepth 100000 in
theorem meX3_setSheet (l : Launch) (G : GT) (S : Mem) (a0 : Nat) (p1 : Int32) (p2 : Int32) (p3 : Int32) (post : Unit → Mem → Prop) (hw : wpX3_setSheet S a0 p1 p2 p3 post) : CN emV l yX3_setSheet (wsU yX3_setSheet cX3_setSheet 4 none) rmX3_setSheet 0 0 G [.ref a0, .int p1, .int p2, .int p3] S post := by
  refine cn_open RX3 rfl (by decide +kernel) (Nat.le_of_ble_eq_true rfl) ?_
  intro p e s m args below meth c A X h hr hin ls hl
  have hl : lv_has ls 4 [(0, .ref a0), (1, .int p1), (2, .int p2), (3, .int p3)] := hl
  have hx := X.1
  have hb := X.2.1
  have hown := X.2.2.2.1
  unfold wpX3_setSheet at hw
  refine lv_aload_n hx hb dX3_setSheet_0 rfl (lv_at hl 0 rfl) ?_
  obtain ⟨k1, hw⟩ := hw
  obtain ⟨o2, eo2, hw⟩ := hw
  refine r_getR X h k1 0 eo2  (by decide) rfl inX3 (by decide) rfl q105 rfl dX3_setSheet_1 ?_
  refine lv_iload_n hx hb dX3_setSheet_4 rfl (lv_at hl 1 rfl) ?_
  refine lv_iload_n hx hb dX3_setSheet_5 rfl (lv_at hl 2 rfl) ?_
  refine rc_SN (As := [.ref o2, .int p1, .int p2]) (rest := []) X h (meX6_put l G _ _ _ _ _ hw) gU_X3_34 q778 q14 q319 rfl rfl hdS_X6_put rfl ⟨Nat.le_of_ble_eq_true rfl, Nat.le_of_ble_eq_true rfl⟩ hl.1 rfl (Nat.le_of_ble_eq_true rfl) ⟨Nat.le_of_ble_eq_true rfl, Nat.le_of_ble_eq_true rfl⟩ dX3_setSheet_6 (fun u4 S3 H locs hw h => ?_)
  refine lv_aload_n hx hb dX3_setSheet_9 rfl (lv_at hl 0 rfl) ?_
  obtain ⟨k5, hw⟩ := hw
  obtain ⟨o6, eo6, hw⟩ := hw
  refine r_getR X h k5 1 eo6  (by decide) rfl inX3 (by decide) rfl q106 rfl dX3_setSheet_10 ?_
  refine lv_iload_n hx hb dX3_setSheet_13 rfl (lv_at hl 1 rfl) ?_
  refine lv_iload_n hx hb dX3_setSheet_14 rfl (lv_at hl 3 rfl) ?_
  refine rc_SN (As := [.ref o6, .int p1, .int p3]) (rest := []) X h (meX6_put l G _ _ _ _ _ hw) gU_X3_34 q778 q14 q319 rfl rfl hdS_X6_put rfl ⟨Nat.le_of_ble_eq_true rfl, Nat.le_of_ble_eq_true rfl⟩ hl.1 rfl (Nat.le_of_ble_eq_true rfl) ⟨Nat.le_of_ble_eq_true rfl, Nat.le_of_ble_eq_true rfl⟩ dX3_setSheet_15 (fun u8 S7 H locs hw h => ?_)
  exact (en_v X h hr hw (Nat.le_of_ble_eq_true rfl) (Nat.le_of_ble_eq_true rfl) dX3_setSheet_18)
