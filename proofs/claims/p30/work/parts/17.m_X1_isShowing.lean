abbrev rmX1_isShowing : Room := { frames := 3, cells := 0, slots := 0, locals := 64 }
def wlX1_isShowing_8 (a0 : Nat) (p1 : Int32) (p2 : Int32) (x3 : Int32) (post : Int32 → Mem → Prop)  : Nat → Int32 → Mem → Prop
  | 0 => fun _ _ => False
  | n + 1 => fun w4 S => (x3 ≤ w4 → (vz_nar (nI 0) ∧ (post (nI 0) S))) ∧ (¬ x3 ≤ w4 → (isK S a0 1 ∧ (wpX1_contentOn S a0 p1 w4 (fun x8 S6 => (¬ x8 = p2 → (∀ x10 : Int32, x10 = (w4 + (nI 1)) → (wlX1_isShowing_8 a0 p1 p2 x3 post n x10 S6))) ∧ (x8 = p2 → (vz_nar (nI 1) ∧ (post (nI 1) S6)))))))
set_option maxHeartbeats 4000000 in
set_option maxRecDepth 100000 in
theorem llX1_isShowing_8 {p : Program} {l : Launch} {e : Env} {s : State} {m : MethodId} {args : Array Value} {below : List Frame} {meth : Method} {c : Code} {G : GT} {A : Nat → Prop} (X : Cx p s m args meth c cX1_isShowing 5 RX1 G A) (hr : meth.sig.returnType = (some .boolean)) (a0 : Nat) (p1 : Int32) (p2 : Int32) (x3 : Int32) (post : Int32 → Mem → Prop)   : ∀ (n : Nat) (w4 : Int32) (S : Mem), wlX1_isShowing_8 a0 p1 p2 x3 post n w4 S → ∀ (H : Heap) (locs : List Loc) (ls : Array Slot), Hx G A s.heap H locs S → lv_has ls 5 [(0, .ref a0), (1, .int p1), (2, .int p2), (3, .int x3), (4, .int w4)] → W p l e rmX1_isShowing s m args below meth c H locs 0 0 (MQ below (QN emI post G A) args s 0 0 A) (F0 m 8 ls []) := by
  have hx := X.1
  have hb := X.2.1
  have hown := X.2.2.2.1
  intro n
  induction n with
  | zero =>
    intro _ _ hw
    exact hw.elim
  | succ n ih =>
    intro w4 S hw H locs ls h hl
    refine lv_iload hx hb dX1_isShowing_8 (lv_at hl 4 rfl) ?_
    refine lv_iload_n hx hb dX1_isShowing_10 rfl (lv_at hl 3 rfl) ?_
    refine lv_icmp_ge (tgt := 33) hx hb dX1_isShowing_11 (by decide) (fun c4 => ?_) (fun c4 => ?_)
    · have hw := hw.1 c4
      refine lv_iconst (v := (nI 0)) hx hb dX1_isShowing_33 (by decide) ?_
      obtain ⟨b5, hw⟩ := hw
      exact (en_z X h hr b5 hw (Nat.le_of_ble_eq_true rfl) (Nat.le_of_ble_eq_true rfl) dX1_isShowing_34)
    · have hw := hw.2 c4
      refine lv_aload_n hx hb dX1_isShowing_14 rfl (lv_at hl 0 rfl) ?_
      refine lv_iload_n hx hb dX1_isShowing_15 rfl (lv_at hl 1 rfl) ?_
      refine lv_iload hx hb dX1_isShowing_16 (lv_at hl 4 rfl) ?_
      obtain ⟨k7, hw⟩ := hw
      refine rc_V (As := [.int p1, .int w4]) (rest := []) X h k7 (by decide) rfl (meX1_contentOn l G _ _ _ _ _ hw) gV_X1_53 rfl rfl hdV_X1_contentOn rfl ⟨Nat.le_of_ble_eq_true rfl, Nat.le_of_ble_eq_true rfl⟩ hl.1 rfl (Nat.le_of_ble_eq_true rfl) ⟨Nat.le_of_ble_eq_true rfl, Nat.le_of_ble_eq_true rfl⟩ dX1_isShowing_18 (fun x8 S6 H locs hw h => ?_)
      refine lv_iload_n hx hb dX1_isShowing_21 rfl (lv_at hl 2 rfl) ?_
      refine lv_icmp_ne (tgt := 27) hx hb dX1_isShowing_22 (by decide) (fun c9 => ?_) (fun c9 => ?_)
      · have hw := hw.1 c9
        obtain ⟨x10, ex10⟩ : ∃ y : Int32, y = (w4 + (nI 1)) := ⟨_, rfl⟩
        have hw := hw x10 ex10
        refine lv_iinc (v := x10) (lv' := [(4, .int x10), (0, .ref a0), (1, .int p1), (2, .int p2), (3, .int x3)]) hx hb dX1_isShowing_27 hl (k := 4) rfl (by rw [ex10]; rfl) (by decide) rfl (fun ls hl => ?_)
        refine lv_goto (tgt := 8) hx hb dX1_isShowing_30 (by decide) ?_
        exact ih _ _ hw _ _ _ h (lv_sub hl [1, 2, 3, 4, 0] rfl)
      · have hw := hw.2 c9
        refine lv_iconst (v := (nI 1)) hx hb dX1_isShowing_25 (by decide) ?_
        obtain ⟨b11, hw⟩ := hw
        exact (en_z X h hr b11 hw (Nat.le_of_ble_eq_true rfl) (Nat.le_of_ble_eq_true rfl) dX1_isShowing_26)
def wpX1_isShowing (S : Mem) (a0 : Nat) (p1 : Int32) (p2 : Int32) (post : Int32 → Mem → Prop) : Prop := isK S a0 1 ∧ (wpX1_placeCount S a0 (fun x3 S1 => ∃ m, wlX1_isShowing_8 a0 p1 p2 x3 post m (nI 0) S1))
set_option maxHeartbeats 4000000 in
set_option maxRecDepth 100000 in
theorem meX1_isShowing (l : Launch) (G : GT) (S : Mem) (a0 : Nat) (p1 : Int32) (p2 : Int32) (post : Int32 → Mem → Prop) (hw : wpX1_isShowing S a0 p1 p2 post) : CN emI l yX1_isShowing (wsU yX1_isShowing cX1_isShowing 5 (some .boolean)) rmX1_isShowing 0 0 G [.ref a0, .int p1, .int p2] S post := by
  refine cn_open RX1 rfl (by decide +kernel) (Nat.le_of_ble_eq_true rfl) ?_
  intro p e s m args below meth c A X h hr hin ls hl
  have hl : lv_has ls 5 [(0, .ref a0), (1, .int p1), (2, .int p2)] := hl
  have hx := X.1
  have hb := X.2.1
  have hown := X.2.2.2.1
  unfold wpX1_isShowing at hw
  refine lv_aload_n hx hb dX1_isShowing_0 rfl (lv_at hl 0 rfl) ?_
  obtain ⟨k2, hw⟩ := hw
  refine rc_V (As := []) (rest := []) X h k2 (by decide) rfl (meX1_placeCount l G _ _ _ hw) gV_X1_42 rfl rfl hdV_X1_placeCount rfl ⟨Nat.le_of_ble_eq_true rfl, Nat.le_of_ble_eq_true rfl⟩ hl.1 rfl (Nat.le_of_ble_eq_true rfl) ⟨Nat.le_of_ble_eq_true rfl, Nat.le_of_ble_eq_true rfl⟩ dX1_isShowing_1 (fun x3 S1 H locs hw h => ?_)
  refine lv_istore_n (lv' := [(3, .int x3), (0, .ref a0), (1, .int p1), (2, .int p2)]) hx hb dX1_isShowing_4 rfl hl (by decide) rfl (fun ls hl => ?_)
  refine lv_iconst (v := (nI 0)) hx hb dX1_isShowing_5 (by decide) ?_
  refine lv_istore (lv' := [(4, .int (nI 0)), (3, .int x3), (0, .ref a0), (1, .int p1), (2, .int p2)]) hx hb dX1_isShowing_6 hl (by decide) rfl (fun ls hl => ?_)
  obtain ⟨n12, hw⟩ := hw
  exact llX1_isShowing_8  X hr _ _ _ _ _ n12 _ _ hw _ _ _ h (lv_sub hl [2, 3, 4, 1, 0] rfl)
abbrev rmX1_takeSheetsShowing : Room := { frames := 4, cells := 0, slots := 0, locals := 88 }
def wlX1_takeSheetsShowing_10 (a0 : Nat) (p1 : Int32) (x3 : Int32) (post : Int32 → Mem → Prop)  : Nat → Int32 → Int32 → Mem → Prop
  | 0 => fun _ _ _ => False
  | n + 1 => fun w2 w4 S => (x3 ≤ w4 → (post w2 S)) ∧ (¬ x3 ≤ w4 → (isK S a0 1 ∧ (wpX1_isShowing S a0 w4 p1 (fun x7 S5 => (x7 = 0 → (∀ x9 : Int32, x9 = (w4 + (nI 1)) → (wlX1_takeSheetsShowing_10 a0 p1 x3 post n w2 x9 S5))) ∧ (¬ x7 = 0 → (isK S5 a0 1 ∧ (wpX1_takeSheets S5 a0 w4 (fun x12 S10 => ∀ x13 : Int32, x13 = (w2 + x12) → (∀ x14 : Int32, x14 = (w4 + (nI 1)) → (wlX1_takeSheetsShowing_10 a0 p1 x3 post n x13 x14 S10))))))))))
set_option maxHeartbeats 4000000 in
set_option maxRecDepth 100000 in
theorem llX1_takeSheetsShowing_10 {p : Program} {l : Launch} {e : Env} {s : State} {m : MethodId} {args : Array Value} {below : List Frame} {meth : Method} {c : Code} {G : GT} {A : Nat → Prop} (X : Cx p s m args meth c cX1_takeSheetsShowing 5 RX1 G A) (hr : meth.sig.returnType = (some .int)) (a0 : Nat) (p1 : Int32) (x3 : Int32) (post : Int32 → Mem → Prop)   : ∀ (n : Nat) (w2 : Int32) (w4 : Int32) (S : Mem), wlX1_takeSheetsShowing_10 a0 p1 x3 post n w2 w4 S → ∀ (H : Heap) (locs : List Loc) (ls : Array Slot), Hx G A s.heap H locs S → lv_has ls 5 [(0, .ref a0), (1, .int p1), (2, .int w2), (3, .int x3), (4, .int w4)] → W p l e rmX1_takeSheetsShowing s m args below meth c H locs 0 0 (MQ below (QN emI post G A) args s 0 0 A) (F0 m 10 ls []) := by
  have hx := X.1
  have hb := X.2.1
  have hown := X.2.2.2.1
  intro n
  induction n with
  | zero =>
    intro _ _ _ hw
    exact hw.elim
  | succ n ih =>
    intro w2 w4 S hw H locs ls h hl
    refine lv_iload hx hb dX1_takeSheetsShowing_10 (lv_at hl 4 rfl) ?_
    refine lv_iload_n hx hb dX1_takeSheetsShowing_12 rfl (lv_at hl 3 rfl) ?_
    refine lv_icmp_ge (tgt := 41) hx hb dX1_takeSheetsShowing_13 (by decide) (fun c4 => ?_) (fun c4 => ?_)
    · have hw := hw.1 c4
      refine lv_iload_n hx hb dX1_takeSheetsShowing_41 rfl (lv_at hl 2 rfl) ?_
      exact (en_i X h hr hw (Nat.le_of_ble_eq_true rfl) (Nat.le_of_ble_eq_true rfl) dX1_takeSheetsShowing_42)
    · have hw := hw.2 c4
      refine lv_aload_n hx hb dX1_takeSheetsShowing_16 rfl (lv_at hl 0 rfl) ?_
      refine lv_iload hx hb dX1_takeSheetsShowing_17 (lv_at hl 4 rfl) ?_
      refine lv_iload_n hx hb dX1_takeSheetsShowing_19 rfl (lv_at hl 1 rfl) ?_
      obtain ⟨k6, hw⟩ := hw
      refine rc_V (As := [.int w4, .int p1]) (rest := []) X h k6 (by decide) rfl (meX1_isShowing l G _ _ _ _ _ hw) gV_X1_59 rfl rfl hdV_X1_isShowing rfl ⟨Nat.le_of_ble_eq_true rfl, Nat.le_of_ble_eq_true rfl⟩ hl.1 rfl (Nat.le_of_ble_eq_true rfl) ⟨Nat.le_of_ble_eq_true rfl, Nat.le_of_ble_eq_true rfl⟩ dX1_takeSheetsShowing_20 (fun x7 S5 H locs hw h => ?_)
      refine lv_if_eq (tgt := 35) hx hb dX1_takeSheetsShowing_23 (by decide) (fun c8 => ?_) (fun c8 => ?_)
      · have hw := hw.1 c8
        obtain ⟨x9, ex9⟩ : ∃ y : Int32, y = (w4 + (nI 1)) := ⟨_, rfl⟩
        have hw := hw x9 ex9
        refine lv_iinc (v := x9) (lv' := [(4, .int x9), (0, .ref a0), (1, .int p1), (2, .int w2), (3, .int x3)]) hx hb dX1_takeSheetsShowing_35 hl (k := 4) rfl (by rw [ex9]; rfl) (by decide) rfl (fun ls hl => ?_)
        refine lv_goto (tgt := 10) hx hb dX1_takeSheetsShowing_38 (by decide) ?_
        exact ih _ _ _ hw _ _ _ h (lv_sub hl [1, 2, 3, 4, 0] rfl)
      · have hw := hw.2 c8
        refine lv_iload_n hx hb dX1_takeSheetsShowing_26 rfl (lv_at hl 2 rfl) ?_
        refine lv_aload_n hx hb dX1_takeSheetsShowing_27 rfl (lv_at hl 0 rfl) ?_
        refine lv_iload hx hb dX1_takeSheetsShowing_28 (lv_at hl 4 rfl) ?_
        obtain ⟨k11, hw⟩ := hw
        refine rc_V (As := [.int w4]) (rest := [.int w2]) X h k11 (by decide) rfl (meX1_takeSheets l G _ _ _ _ hw) gV_X1_56 rfl rfl hdV_X1_takeSheets rfl ⟨Nat.le_of_ble_eq_true rfl, Nat.le_of_ble_eq_true rfl⟩ hl.1 rfl (Nat.le_of_ble_eq_true rfl) ⟨Nat.le_of_ble_eq_true rfl, Nat.le_of_ble_eq_true rfl⟩ dX1_takeSheetsShowing_30 (fun x12 S10 H locs hw h => ?_)
        refine lv_iadd hx hb dX1_takeSheetsShowing_33 ?_
        refine lv_topi (fun x13 ex13 => ?_)
        have hw := hw x13 ex13
        refine lv_istore_n (lv' := [(2, .int x13), (0, .ref a0), (1, .int p1), (3, .int x3), (4, .int w4)]) hx hb dX1_takeSheetsShowing_34 rfl hl (by decide) rfl (fun ls hl => ?_)
        obtain ⟨x14, ex14⟩ : ∃ y : Int32, y = (w4 + (nI 1)) := ⟨_, rfl⟩
        have hw := hw x14 ex14
        refine lv_iinc (v := x14) (lv' := [(4, .int x14), (2, .int x13), (0, .ref a0), (1, .int p1), (3, .int x3)]) hx hb dX1_takeSheetsShowing_35 hl (k := 4) rfl (by rw [ex14]; rfl) (by decide) rfl (fun ls hl => ?_)
        refine lv_goto (tgt := 10) hx hb dX1_takeSheetsShowing_38 (by decide) ?_
        exact ih _ _ _ hw _ _ _ h (lv_sub hl [2, 3, 1, 4, 0] rfl)
def wpX1_takeSheetsShowing (S : Mem) (a0 : Nat) (p1 : Int32) (post : Int32 → Mem → Prop) : Prop := isK S a0 1 ∧ (wpX1_sheetCount S a0 (fun x3 S1 => ∃ m, wlX1_takeSheetsShowing_10 a0 p1 x3 post m (nI 0) (nI 0) S1))
set_option maxHeartbeats 4000000 in
set_option maxRecDepth 100000 in
theorem meX1_takeSheetsShowing (l : Launch) (G : GT) (S : Mem) (a0 : Nat) (p1 : Int32) (post : Int32 → Mem → Prop) (hw : wpX1_takeSheetsShowing S a0 p1 post) : CN emI l yX1_takeSheetsShowing (wsU yX1_takeSheetsShowing cX1_takeSheetsShowing 5 (some .int)) rmX1_takeSheetsShowing 0 0 G [.ref a0, .int p1] S post := by
  refine cn_open RX1 rfl (by decide +kernel) (Nat.le_of_ble_eq_true rfl) ?_
  intro p e s m args below meth c A X h hr hin ls hl
  have hl : lv_has ls 5 [(0, .ref a0), (1, .int p1)] := hl
  have hx := X.1
  have hb := X.2.1
  have hown := X.2.2.2.1
  unfold wpX1_takeSheetsShowing at hw
  refine lv_iconst (v := (nI 0)) hx hb dX1_takeSheetsShowing_0 (by decide) ?_
  refine lv_istore_n (lv' := [(2, .int (nI 0)), (0, .ref a0), (1, .int p1)]) hx hb dX1_takeSheetsShowing_1 rfl hl (by decide) rfl (fun ls hl => ?_)
  refine lv_aload_n hx hb dX1_takeSheetsShowing_2 rfl (lv_at hl 1 rfl) ?_
  obtain ⟨k2, hw⟩ := hw
  refine rc_V (As := []) (rest := []) X h k2 (by decide) rfl (meX1_sheetCount l G _ _ _ hw) gV_X1_46 rfl rfl hdV_X1_sheetCount rfl ⟨Nat.le_of_ble_eq_true rfl, Nat.le_of_ble_eq_true rfl⟩ hl.1 rfl (Nat.le_of_ble_eq_true rfl) ⟨Nat.le_of_ble_eq_true rfl, Nat.le_of_ble_eq_true rfl⟩ dX1_takeSheetsShowing_3 (fun x3 S1 H locs hw h => ?_)
  refine lv_istore_n (lv' := [(3, .int x3), (2, .int (nI 0)), (0, .ref a0), (1, .int p1)]) hx hb dX1_takeSheetsShowing_6 rfl hl (by decide) rfl (fun ls hl => ?_)
  refine lv_iconst (v := (nI 0)) hx hb dX1_takeSheetsShowing_7 (by decide) ?_
  refine lv_istore (lv' := [(4, .int (nI 0)), (3, .int x3), (2, .int (nI 0)), (0, .ref a0), (1, .int p1)]) hx hb dX1_takeSheetsShowing_8 hl (by decide) rfl (fun ls hl => ?_)
  obtain ⟨n15, hw⟩ := hw
  exact llX1_takeSheetsShowing_10  X hr _ _ _ _ n15 _ _ _ hw _ _ _ h (lv_sub hl [3, 4, 2, 1, 0] rfl)
abbrev rmX0_noteCorrection : Room := { frames := 2, cells := 0, slots := 0, locals := 44 }
def wpX0_noteCorrection (S : Mem) (a0 : Nat) (p1 : Int32) (post : Unit → Mem → Prop) : Prop := isK S a0 0 ∧ (∃ o2, mR S a0 0 = some o2 ∧ (wpX0_stateOf S a0 p1 (fun x4 S3 => wpX6_put S3 o2 p1 (x4 + (nI 1)) (fun u6 S5 => isK S5 a0 0 ∧ (wpX0_setApproved S5 a0 p1 (nI 0) (fun u9 S7 => isK S7 a0 0 ∧ (∃ o11, mR S7 a0 2 = some o11 ∧ (wpX6_put S7 o11 (mI S7 a0 4) p1 (fun u13 S12 => isK S12 a0 0 ∧ (∀ x15 : Int32, x15 = ((mI S12 a0 4) + (nI 1)) → (∀ S16 : Mem, S16 = (sI S12 a0 4 x15) → (post () S16))))))))))))
set_option maxHeartbeats 4000000 in
set_option maxRecDepth 100000 in
theorem meX0_noteCorrection (l : Launch) (G : GT) (S : Mem) (a0 : Nat) (p1 : Int32) (post : Unit → Mem → Prop) (hw : wpX0_noteCorrection S a0 p1 post) : CN emV l yX0_noteCorrection (wsU yX0_noteCorrection cX0_noteCorrection 2 none) rmX0_noteCorrection 0 0 G [.ref a0, .int p1] S post := by
  refine cn_open RX0 rfl (by decide +kernel) (Nat.le_of_ble_eq_true rfl) ?_
  intro p e s m args below meth c A X h hr hin ls hl
  have hl : lv_has ls 2 [(0, .ref a0), (1, .int p1)] := hl
  have hx := X.1
  have hb := X.2.1
  have hown := X.2.2.2.1
  unfold wpX0_noteCorrection at hw
  refine lv_aload_n hx hb dX0_noteCorrection_0 rfl (lv_at hl 0 rfl) ?_
  obtain ⟨k1, hw⟩ := hw
  obtain ⟨o2, eo2, hw⟩ := hw
  refine r_getR X h k1 0 eo2  (by decide) rfl inX0 (by decide) rfl q46 rfl dX0_noteCorrection_1 ?_
  refine lv_iload_n hx hb dX0_noteCorrection_4 rfl (lv_at hl 1 rfl) ?_
  refine lv_aload_n hx hb dX0_noteCorrection_5 rfl (lv_at hl 0 rfl) ?_
  refine lv_iload_n hx hb dX0_noteCorrection_6 rfl (lv_at hl 1 rfl) ?_
  refine rc_V (As := [.int p1]) (rest := [.int p1, .ref o2]) X h k1 (by decide) rfl (meX0_stateOf l G _ _ _ _ hw) gV_X0_33 rfl rfl hdV_X0_stateOf rfl ⟨Nat.le_of_ble_eq_true rfl, Nat.le_of_ble_eq_true rfl⟩ hl.1 rfl (Nat.le_of_ble_eq_true rfl) ⟨Nat.le_of_ble_eq_true rfl, Nat.le_of_ble_eq_true rfl⟩ dX0_noteCorrection_7 (fun x4 S3 H locs hw h => ?_)
  refine lv_iconst (v := (nI 1)) hx hb dX0_noteCorrection_10 (by decide) ?_
  refine lv_iadd hx hb dX0_noteCorrection_11 ?_
  refine rc_SN (As := [.ref o2, .int p1, .int (x4 + (nI 1))]) (rest := []) X h (meX6_put l G _ _ _ _ _ hw) gU_X0_29 q318 q14 q319 rfl rfl hdS_X6_put rfl ⟨Nat.le_of_ble_eq_true rfl, Nat.le_of_ble_eq_true rfl⟩ hl.1 rfl (Nat.le_of_ble_eq_true rfl) ⟨Nat.le_of_ble_eq_true rfl, Nat.le_of_ble_eq_true rfl⟩ dX0_noteCorrection_12 (fun u6 S5 H locs hw h => ?_)
  refine lv_aload_n hx hb dX0_noteCorrection_15 rfl (lv_at hl 0 rfl) ?_
  refine lv_iload_n hx hb dX0_noteCorrection_16 rfl (lv_at hl 1 rfl) ?_
  refine lv_iconst (v := (nI 0)) hx hb dX0_noteCorrection_17 (by decide) ?_
  obtain ⟨k8, hw⟩ := hw
  refine rc_V (As := [.int p1, .int (nI 0)]) (rest := []) X h k8 (by decide) rfl (meX0_setApproved l G _ _ _ _ _ hw) gV_X0_37 rfl rfl hdV_X0_setApproved rfl ⟨Nat.le_of_ble_eq_true rfl, Nat.le_of_ble_eq_true rfl⟩ hl.1 rfl (Nat.le_of_ble_eq_true rfl) ⟨Nat.le_of_ble_eq_true rfl, Nat.le_of_ble_eq_true rfl⟩ dX0_noteCorrection_18 (fun u9 S7 H locs hw h => ?_)
  refine lv_aload_n hx hb dX0_noteCorrection_21 rfl (lv_at hl 0 rfl) ?_
  obtain ⟨k10, hw⟩ := hw
  obtain ⟨o11, eo11, hw⟩ := hw
  refine r_getR X h k10 2 eo11  (by decide) rfl inX0 (by decide) rfl q48 rfl dX0_noteCorrection_22 ?_
  refine lv_aload_n hx hb dX0_noteCorrection_25 rfl (lv_at hl 0 rfl) ?_
  refine r_getI X h k10 4  (by decide) rfl inX0 (by decide) rfl q51 rfl dX0_noteCorrection_26 ?_
  refine lv_iload_n hx hb dX0_noteCorrection_29 rfl (lv_at hl 1 rfl) ?_
  refine rc_SN (As := [.ref o11, .int (mI S7 a0 4), .int p1]) (rest := []) X h (meX6_put l G _ _ _ _ _ hw) gU_X0_29 q318 q14 q319 rfl rfl hdS_X6_put rfl ⟨Nat.le_of_ble_eq_true rfl, Nat.le_of_ble_eq_true rfl⟩ hl.1 rfl (Nat.le_of_ble_eq_true rfl) ⟨Nat.le_of_ble_eq_true rfl, Nat.le_of_ble_eq_true rfl⟩ dX0_noteCorrection_30 (fun u13 S12 H locs hw h => ?_)
  refine lv_aload_n hx hb dX0_noteCorrection_33 rfl (lv_at hl 0 rfl) ?_
  refine lv_dup hx hb dX0_noteCorrection_34 rfl ?_
  obtain ⟨k14, hw⟩ := hw
  refine r_getI X h k14 4  (by decide) rfl inX0 (by decide) rfl q51 rfl dX0_noteCorrection_35 ?_
  refine lv_iconst (v := (nI 1)) hx hb dX0_noteCorrection_38 (by decide) ?_
  refine lv_iadd hx hb dX0_noteCorrection_39 ?_
  refine lv_topi (fun x15 ex15 => ?_)
  have hw := hw x15 ex15
  refine r_putI X h k14 4 (by decide) rfl inX0 tyX0 tyX0_ok nmX0 (by decide) rfl (Nat.le_of_ble_eq_true rfl) q51 rfl rfl (tyX0_ok 4 (by decide)) rfl rfl dX0_noteCorrection_40 (fun H locs h => ?_)
  obtain ⟨S16, eS16⟩ : ∃ z : Mem, z = (sI S12 a0 4 x15) := ⟨_, rfl⟩
  rw [← eS16] at h
  have hw := hw S16 eS16
  exact (en_v X h hr hw (Nat.le_of_ble_eq_true rfl) (Nat.le_of_ble_eq_true rfl) dX0_noteCorrection_43)
abbrev rmX6_correct : Room := { frames := 7, cells := 2, slots := 12, locals := 112 }
def wlX6_correct_32 (a0 : Nat) (p1 : Int32)  (post : Int32 → Mem → Prop) (px : Nat → Mem → Prop)  : Nat → Int32 → Int32 → Mem → Prop
  | 0 => fun _ _ _ => False
  | n + 1 => fun w2 w3 S => ((nI 4) ≤ w3 → (isK S a0 6 ∧ (∃ o12, mR S a0 0 = some o12 ∧ (isK S o12 0 ∧ (wpX0_noteCorrection S o12 p1 (fun u15 S13 => isK S13 a0 6 ∧ (∀ S17 : Mem, S17 = (sJ S13 a0 8 ((mJ S13 a0 8) + w2.toInt64)) → (post w2 S17)))))))) ∧ (¬ (nI 4) ≤ w3 → (isK S a0 6 ∧ (wpX6_findJob S a0 w3 (fun r20 S18 => (r20 = none → (∀ x22 : Int32, x22 = (w3 + (nI 1)) → (wlX6_correct_32 a0 p1 post px n w2 x22 S18))) ∧ (∀ o21, r20 = some o21 → (isK S18 o21 1 ∧ (wpX1_takeSheetsShowing S18 o21 p1 (fun x25 S23 => ∀ x26 : Int32, x26 = (w2 + x25) → (∀ x27 : Int32, x27 = (w3 + (nI 1)) → (wlX6_correct_32 a0 p1 post px n x26 x27 S23))))))))))
set_option maxHeartbeats 4000000 in
set_option maxRecDepth 100000 in
theorem llX6_correct_32 {p : Program} {l : Launch} {e : Env} {s : State} {m : MethodId} {args : Array Value} {below : List Frame} {meth : Method} {c : Code} {G : GT} {A : Nat → Prop} (hl9 : l.stackTraces = false) (hno : ∀ x ∈ c.exceptionTable.toList, False) (X : Cx p s m args meth c cX6_correct 5 RX6 G A) (hr : meth.sig.returnType = (some .int)) (a0 : Nat) (p1 : Int32)  (post : Int32 → Mem → Prop) (px : Nat → Mem → Prop)   : ∀ (n : Nat) (w2 : Int32) (w3 : Int32) (S : Mem), wlX6_correct_32 a0 p1 post px n w2 w3 S → ∀ (H : Heap) (locs : List Loc) (ls : Array Slot), Hx G A s.heap H locs S → lv_has ls 5 [(0, .ref a0), (1, .int p1), (2, .int w2), (3, .int w3)] → W p l e rmX6_correct s m args below meth c H locs 1 6 (vx_MQ below (QN emI post G A) (QX px G A) args s 2 12 A) (F0 m 32 ls []) := by
  have hx := X.1
  have hb := X.2.1
  have hown := X.2.2.2.1
  intro n
  induction n with
  | zero =>
    intro _ _ _ hw
    exact hw.elim
  | succ n ih =>
    intro w2 w3 S hw H locs ls h hl
    refine lv_iload_n hx hb dX6_correct_32 rfl (lv_at hl 3 rfl) ?_
    refine lv_iconst (v := (nI 4)) hx hb dX6_correct_33 (by decide) ?_
    refine lv_icmp_ge (tgt := 64) hx hb dX6_correct_34 (by decide) (fun c10 => ?_) (fun c10 => ?_)
    · have hw := hw.1 c10
      refine lv_aload_n hx hb dX6_correct_64 rfl (lv_at hl 0 rfl) ?_
      obtain ⟨k11, hw⟩ := hw
      obtain ⟨o12, eo12, hw⟩ := hw
      refine r_getR X h k11 0 eo12  (by decide) rfl inX6 (by decide) rfl q120 rfl dX6_correct_65 ?_
      refine lv_iload_n hx hb dX6_correct_68 rfl (lv_at hl 1 rfl) ?_
      obtain ⟨k14, hw⟩ := hw
      refine rc_V (As := [.int p1]) (rest := []) X h k14 (by decide) rfl (meX0_noteCorrection l G _ _ _ _ hw) gV_X6_89 rfl rfl hdV_X0_noteCorrection rfl ⟨Nat.le_of_ble_eq_true rfl, Nat.le_of_ble_eq_true rfl⟩ hl.1 rfl (Nat.le_of_ble_eq_true rfl) ⟨Nat.le_of_ble_eq_true rfl, Nat.le_of_ble_eq_true rfl⟩ dX6_correct_69 (fun u15 S13 H locs hw h => ?_)
      refine lv_aload_n hx hb dX6_correct_72 rfl (lv_at hl 0 rfl) ?_
      refine lv_dup hx hb dX6_correct_73 rfl ?_
      obtain ⟨k16, hw⟩ := hw
      refine r_getJ X h k16 8  (by decide) rfl inX6 (by decide) rfl q128 rfl dX6_correct_74 ?_
      refine lv_iload_n hx hb dX6_correct_77 rfl (lv_at hl 2 rfl) ?_
      refine lv_i2l (v := w2.toInt64) hx hb dX6_correct_78 rfl ?_
      refine lv_ladd hx hb dX6_correct_79 ?_
      refine r_putJ X h k16 8 (by decide) rfl inX6 tyX6 tyX6_ok nmX6 (by decide) rfl (Nat.le_of_ble_eq_true rfl) q128 rfl rfl (tyX6_ok 8 (by decide)) rfl rfl dX6_correct_80 (fun H locs h => ?_)
      obtain ⟨S17, eS17⟩ : ∃ z : Mem, z = (sJ S13 a0 8 ((mJ S13 a0 8) + w2.toInt64)) := ⟨_, rfl⟩
      rw [← eS17] at h
      have hw := hw S17 eS17
      refine lv_iload_n hx hb dX6_correct_83 rfl (lv_at hl 2 rfl) ?_
      exact vx_ret (en_i X h hr hw (Nat.le_of_ble_eq_true rfl) (Nat.le_of_ble_eq_true rfl) dX6_correct_84)
    · have hw := hw.2 c10
      refine lv_aload_n hx hb dX6_correct_37 rfl (lv_at hl 0 rfl) ?_
      refine lv_iload_n hx hb dX6_correct_38 rfl (lv_at hl 3 rfl) ?_
      obtain ⟨k19, hw⟩ := hw
      refine rc_V (As := [.int w3]) (rest := []) X h k19 (by decide) rfl (meX6_findJob l G _ _ _ _ hw) gV_X6_82 rfl rfl hdV_X6_findJob rfl ⟨Nat.le_of_ble_eq_true rfl, Nat.le_of_ble_eq_true rfl⟩ hl.1 rfl (Nat.le_of_ble_eq_true rfl) ⟨Nat.le_of_ble_eq_true rfl, Nat.le_of_ble_eq_true rfl⟩ dX6_correct_39 (fun r20 S18 H locs hw h => ?_)
      rcases r20 with _ | o21
      · have hw := hw.1 rfl
        refine lv_astoreN (lv' := [(4, .null), (0, .ref a0), (1, .int p1), (2, .int w2), (3, .int w3)]) hx hb dX6_correct_42 hl (by decide) rfl (fun ls hl => ?_)
        refine lv_aloadN hx hb dX6_correct_44 (lv_at hl 0 rfl) ?_
        refine lv_ifnullN (tgt := 58) hx hb dX6_correct_46 (by decide) ?_
        obtain ⟨x22, ex22⟩ : ∃ y : Int32, y = (w3 + (nI 1)) := ⟨_, rfl⟩
        have hw := hw x22 ex22
        refine lv_iinc (v := x22) (lv' := [(3, .int x22), (4, .null), (0, .ref a0), (1, .int p1), (2, .int w2)]) hx hb dX6_correct_58 hl (k := 4) rfl (by rw [ex22]; rfl) (by decide) rfl (fun ls hl => ?_)
        refine lv_goto (tgt := 32) hx hb dX6_correct_61 (by decide) ?_
        exact ih _ _ _ hw _ _ _ h (lv_sub hl [2, 3, 4, 0] rfl)
      · have hw := hw.2 o21 rfl
        refine lv_astore (lv' := [(4, .ref o21), (0, .ref a0), (1, .int p1), (2, .int w2), (3, .int w3)]) hx hb dX6_correct_42 hl (by decide) rfl (fun ls hl => ?_)
        refine lv_aload hx hb dX6_correct_44 (lv_at hl 0 rfl) ?_
        refine lv_ifnull hx hb dX6_correct_46 ?_
        refine lv_iload_n hx hb dX6_correct_49 rfl (lv_at hl 3 rfl) ?_
        refine lv_aload hx hb dX6_correct_50 (lv_at hl 0 rfl) ?_
        refine lv_iload_n hx hb dX6_correct_52 rfl (lv_at hl 2 rfl) ?_
        obtain ⟨k24, hw⟩ := hw
        refine rc_V (As := [.int p1]) (rest := [.int w2]) X h k24 (by decide) rfl (meX1_takeSheetsShowing l G _ _ _ _ hw) gV_X6_86 rfl rfl hdV_X1_takeSheetsShowing rfl ⟨Nat.le_of_ble_eq_true rfl, Nat.le_of_ble_eq_true rfl⟩ hl.1 rfl (Nat.le_of_ble_eq_true rfl) ⟨Nat.le_of_ble_eq_true rfl, Nat.le_of_ble_eq_true rfl⟩ dX6_correct_53 (fun x25 S23 H locs hw h => ?_)
        refine lv_iadd hx hb dX6_correct_56 ?_
        refine lv_topi (fun x26 ex26 => ?_)
        have hw := hw x26 ex26
        refine lv_istore_n (lv' := [(2, .int x26), (4, .ref o21), (0, .ref a0), (1, .int p1), (3, .int w3)]) hx hb dX6_correct_57 rfl hl (by decide) rfl (fun ls hl => ?_)
        obtain ⟨x27, ex27⟩ : ∃ y : Int32, y = (w3 + (nI 1)) := ⟨_, rfl⟩
        have hw := hw x27 ex27
        refine lv_iinc (v := x27) (lv' := [(3, .int x27), (2, .int x26), (4, .ref o21), (0, .ref a0), (1, .int p1)]) hx hb dX6_correct_58 hl (k := 4) rfl (by rw [ex27]; rfl) (by decide) rfl (fun ls hl => ?_)
        refine lv_goto (tgt := 32) hx hb dX6_correct_61 (by decide) ?_
        exact ih _ _ _ hw _ _ _ h (lv_sub hl [3, 4, 1, 0] rfl)
def wpX6_correct (S : Mem) (a0 : Nat) (p1 : Int32) (post : Int32 → Mem → Prop) (px : Nat → Mem → Prop) : Prop := isK S a0 6 ∧ (wpX6_requireContent S a0 p1 (fun u3 S1 => isK S1 a0 6 ∧ (∃ o5, mR S1 a0 0 = some o5 ∧ (isK S1 o5 0 ∧ (wpX0_stateOf S1 o5 p1 (fun x8 S6 => (x8 < (nI 99) → (∃ m, wlX6_correct_32 a0 p1 post px m (nI 0) (nI 0) S6)) ∧ (¬ x8 < (nI 99) → (px 2 S6))))))) px)
set_option maxHeartbeats 4000000 in
set_option maxRecDepth 100000 in
theorem meX6_correct (l : Launch) (hl9 : l.stackTraces = false) (G : GT) (S : Mem) (a0 : Nat) (p1 : Int32) (post : Int32 → Mem → Prop) (px : Nat → Mem → Prop) (hw : wpX6_correct S a0 p1 post px) : CX emI l yX6_correct (wsU yX6_correct cX6_correct 5 (some .int)) rmX6_correct 2 12 G [.ref a0, .int p1] S post px := by
  refine cx_open RX6 rfl (by decide +kernel) (Nat.le_of_ble_eq_true rfl) ?_
  intro p e s m args below meth c A X h hr hno ls hl
  have hl : lv_has ls 5 [(0, .ref a0), (1, .int p1)] := hl
  have hx := X.1
  have hb := X.2.1
  have hown := X.2.2.2.1
  unfold wpX6_correct at hw
  refine lv_aload_n hx hb dX6_correct_0 rfl (lv_at hl 0 rfl) ?_
  refine lv_iload_n hx hb dX6_correct_1 rfl (lv_at hl 1 rfl) ?_
  obtain ⟨k2, hw⟩ := hw
  refine rx_V (As := [.int p1]) (rest := []) X h hno k2 (by decide) rfl (meX6_requireContent l hl9 G _ _ _ _ _ hw) gV_X6_64 rfl rfl hdV_X6_requireContent rfl ⟨Nat.le_of_ble_eq_true rfl, Nat.le_of_ble_eq_true rfl⟩ hl.1 rfl (Nat.le_of_ble_eq_true rfl) ⟨Nat.le_of_ble_eq_true rfl, Nat.le_of_ble_eq_true rfl⟩ ⟨Nat.le_of_ble_eq_true rfl, Nat.le_of_ble_eq_true rfl⟩ dX6_correct_2 (fun u3 S1 H locs hw h => ?_)
  refine lv_aload_n hx hb dX6_correct_5 rfl (lv_at hl 0 rfl) ?_
  obtain ⟨k4, hw⟩ := hw
  obtain ⟨o5, eo5, hw⟩ := hw
  refine r_getR X h k4 0 eo5  (by decide) rfl inX6 (by decide) rfl q120 rfl dX6_correct_6 ?_
  refine lv_iload_n hx hb dX6_correct_9 rfl (lv_at hl 1 rfl) ?_
  obtain ⟨k7, hw⟩ := hw
  refine rc_V (As := [.int p1]) (rest := []) X h k7 (by decide) rfl (meX0_stateOf l G _ _ _ _ hw) gV_X6_76 rfl rfl hdV_X0_stateOf rfl ⟨Nat.le_of_ble_eq_true rfl, Nat.le_of_ble_eq_true rfl⟩ hl.1 rfl (Nat.le_of_ble_eq_true rfl) ⟨Nat.le_of_ble_eq_true rfl, Nat.le_of_ble_eq_true rfl⟩ dX6_correct_10 (fun x8 S6 H locs hw h => ?_)
  refine lv_bipush (v := (nI 99)) hx hb dX6_correct_13 (by decide) ?_
  refine lv_icmp_lt (tgt := 28) hx hb dX6_correct_15 (by decide) (fun c9 => ?_) (fun c9 => ?_)
  · have hw := hw.1 c9
    refine lv_iconst (v := (nI 0)) hx hb dX6_correct_28 (by decide) ?_
    refine lv_istore_n (lv' := [(2, .int (nI 0)), (0, .ref a0), (1, .int p1)]) hx hb dX6_correct_29 rfl hl (by decide) rfl (fun ls hl => ?_)
    refine lv_iconst (v := (nI 0)) hx hb dX6_correct_30 (by decide) ?_
    refine lv_istore_n (lv' := [(3, .int (nI 0)), (2, .int (nI 0)), (0, .ref a0), (1, .int p1)]) hx hb dX6_correct_31 rfl hl (by decide) rfl (fun ls hl => ?_)
    obtain ⟨n28, hw⟩ := hw
    exact llX6_correct_32 hl9 hno X hr _ _ _ _ n28 _ _ _ hw _ _ _ h (lv_sub hl [2, 3, 1, 0] rfl)
  · have hw := hw.2 c9
    exact en_x 2 X h hl9 th_X6_80 hl.1 hno dX6_correct_18 dX6_correct_21 dX6_correct_22 dX6_correct_24 dX6_correct_27 ⟨Nat.le_of_ble_eq_true rfl, Nat.le_of_ble_eq_true rfl⟩ ⟨Nat.le_of_ble_eq_true rfl, Nat.le_of_ble_eq_true rfl⟩ ⟨Nat.le_of_ble_eq_true rfl, Nat.le_of_ble_eq_true rfl⟩ hw
abbrev rmL_correct : Room := { frames := 8, cells := 2, slots := 12, locals := 136 }
def wpL_correct (S : Mem) (a0 : Nat) (p1 : Int32) (post : Int32 → Mem → Prop) : Prop := isK S a0 6 ∧ (wpX6_correct S a0 p1 (fun x3 S1 => post x3 S1) (fun k4 S5 => (k4 = 1 → (post (-77 : Int32) S5)) ∧ (k4 = 2 → (post (-79 : Int32) S5)) ∧ (k4 = 1 ∨ k4 = 2)))
set_option maxHeartbeats 4000000 in
set_option maxRecDepth 100000 in
theorem meL_correct (l : Launch) (hl9 : l.stackTraces = false) (G : GT) (S : Mem) (a0 : Nat) (p1 : Int32) (post : Int32 → Mem → Prop) (hw : wpL_correct S a0 p1 post) : CN emI l yL_correct (wsH yL_correct cL_correct 3 (some .int) [(0, 5, 6, 26), (0, 5, 10, 20)]) rmL_correct 2 12 G [.ref a0, .int p1] S post := by
  refine ch_open RL rfl (by decide +kernel) (Nat.le_of_ble_eq_true rfl) ?_
  intro p e s m args below meth c A X h hr hTab ls hl
  have hl : lv_has ls 3 [(0, .ref a0), (1, .int p1)] := hl
  have hx := X.1
  have hb := X.2.1
  have hown := X.2.2.2.1
  unfold wpL_correct at hw
  refine lv_aload_n hx hb dL_correct_0 rfl (lv_at hl 0 rfl) ?_
  refine lv_iload_n hx hb dL_correct_1 rfl (lv_at hl 1 rfl) ?_
  obtain ⟨k2, hw⟩ := hw
  refine rx_VH (As := [.int p1]) (rest := []) X h k2 (by decide) rfl (meX6_correct l hl9 G _ _ _ _ _ hw) gV_L_28 rfl rfl hdV_X6_correct rfl ⟨Nat.le_of_ble_eq_true rfl, Nat.le_of_ble_eq_true rfl⟩ hl.1 rfl (Nat.le_of_ble_eq_true rfl) ⟨Nat.le_of_ble_eq_true rfl, Nat.le_of_ble_eq_true rfl⟩ dL_correct_2 (fun k4 S5 H locs q9 ce hw h hce hcv hcl => ?_) (fun x3 S1 H locs hw h => ?_)
  · rcases hw.2.2 with hk9 | hk9
    · subst hk9
      have hw := hw.1 rfl
      refine vx_catch (own := RL) (name := "java/lang/IndexOutOfBoundsException") (E := xn 1) hown [] ⟨0, 5, 6, 26⟩ [⟨0, 5, 10, 20⟩] (by rw [hTab]; rfl) (fun z hz => nomatch hz) (by decide) (by decide) (X.hts q262) (va_Nw.use (by rfl) (X.nw q296)) hce hcv hcl ?_
      refine lv_astore_n (lv' := [(2, .ref q9), (0, .ref a0), (1, .int p1)]) hx hb dL_correct_6 rfl hl (by decide) rfl (fun ls hl => ?_)
      refine lv_bipush (v := (-77 : Int32)) hx hb dL_correct_7 (by decide) ?_
      exact (en_i X h hr hw (Nat.le_of_ble_eq_true rfl) (Nat.le_of_ble_eq_true rfl) dL_correct_9)
    · subst hk9
      have hw := hw.2.1 rfl
      have hpass2 : ∀ z ∈ ([⟨0, 5, 6, 26⟩] : List ExceptionTableEntry), covers z 2 = false ∨ (z.catchType ≠ 0 ∧ ∃ nm : String, (Cond.classLink RL z.catchType nm).before args s = true ∧ va_Nc (xn 2) nm s) := by
        intro z hz
        rcases List.mem_cons.mp hz with rfl | hz
        · exact Or.inr ⟨by decide, "java/lang/IndexOutOfBoundsException", X.hts q262, X.2.2.2.2.2.2.1.2.2.2.2.1 ("java/lang/IllegalStateException", "java/lang/IndexOutOfBoundsException") (by decide +kernel)⟩
        cases hz
      refine vx_catch (own := RL) (name := "java/lang/IllegalStateException") (E := xn 2) hown [⟨0, 5, 6, 26⟩] ⟨0, 5, 10, 20⟩ [] (by rw [hTab]; rfl) (hpass2) (by decide) (by decide) (X.hts q179) (va_Nw.use (by rfl) (X.nw q186)) hce hcv hcl ?_
      refine lv_astore_n (lv' := [(2, .ref q9), (0, .ref a0), (1, .int p1)]) hx hb dL_correct_10 rfl hl (by decide) rfl (fun ls hl => ?_)
      refine lv_bipush (v := (-79 : Int32)) hx hb dL_correct_11 (by decide) ?_
      exact (en_i X h hr hw (Nat.le_of_ble_eq_true rfl) (Nat.le_of_ble_eq_true rfl) dL_correct_13)
  · exact (en_i X h hr hw (Nat.le_of_ble_eq_true rfl) (Nat.le_of_ble_eq_true rfl) dL_correct_5)
abbrev rmX6_lacks : Room := { frames := 7, cells := 3, slots := 18, locals := 112 }
def wpX6_lacks (S : Mem) (a0 : Nat) (p1 : Int32) (p2 : Int32) (post : Int32 → Mem → Prop) (px : Nat → Mem → Prop) : Prop := isK S a0 6 ∧ (wpX6_existingJob S a0 p1 (fun r3 S1 => ∃ o4, r3 = some o4 ∧ (wpX6_requireCount S1 p2 (fun u6 S5 => wpX6_requireComplete S5 o4 (fun u8 S7 => isK S7 o4 1 ∧ (wpX1_lackFor S7 o4 p2 (fun x11 S9 => post x11 S9))) px) px)) px)
set_option maxHeartbeats 4000000 in
set_option maxRecDepth 100000 in
theorem meX6_lacks (l : Launch) (hl9 : l.stackTraces = false) (G : GT) (S : Mem) (a0 : Nat) (p1 : Int32) (p2 : Int32) (post : Int32 → Mem → Prop) (px : Nat → Mem → Prop) (hw : wpX6_lacks S a0 p1 p2 post px) : CX emI l yX6_lacks (wsU yX6_lacks cX6_lacks 4 (some .int)) rmX6_lacks 3 18 G [.ref a0, .int p1, .int p2] S post px := by
  refine cx_open RX6 rfl (by decide +kernel) (Nat.le_of_ble_eq_true rfl) ?_
  intro p e s m args below meth c A X h hr hno ls hl
  have hl : lv_has ls 4 [(0, .ref a0), (1, .int p1), (2, .int p2)] := hl
  have hx := X.1
  have hb := X.2.1
  have hown := X.2.2.2.1
  unfold wpX6_lacks at hw
  refine lv_aload_n hx hb dX6_lacks_0 rfl (lv_at hl 0 rfl) ?_
  refine lv_iload_n hx hb dX6_lacks_1 rfl (lv_at hl 1 rfl) ?_
  obtain ⟨k2, hw⟩ := hw
  refine rx_V (As := [.int p1]) (rest := []) X h hno k2 (by decide) rfl (meX6_existingJob l hl9 G _ _ _ _ _ hw) gV_X6_109 rfl rfl hdV_X6_existingJob rfl ⟨Nat.le_of_ble_eq_true rfl, Nat.le_of_ble_eq_true rfl⟩ hl.1 rfl (Nat.le_of_ble_eq_true rfl) ⟨Nat.le_of_ble_eq_true rfl, Nat.le_of_ble_eq_true rfl⟩ ⟨Nat.le_of_ble_eq_true rfl, Nat.le_of_ble_eq_true rfl⟩ dX6_lacks_2 (fun r3 S1 H locs hw h => ?_)
  obtain ⟨o4, rfl, hw⟩ := hw
  refine lv_astore_n (lv' := [(3, .ref o4), (0, .ref a0), (1, .int p1), (2, .int p2)]) hx hb dX6_lacks_5 rfl hl (by decide) rfl (fun ls hl => ?_)
  refine lv_iload_n hx hb dX6_lacks_6 rfl (lv_at hl 3 rfl) ?_
  refine rx_S (As := [.int p2]) (rest := []) X h hno (meX6_requireCount l hl9 G _ _ _ _ hw) gS_X6_148 rfl rfl hdS_X6_requireCount rfl ⟨Nat.le_of_ble_eq_true rfl, Nat.le_of_ble_eq_true rfl⟩ hl.1 rfl (Nat.le_of_ble_eq_true rfl) ⟨Nat.le_of_ble_eq_true rfl, Nat.le_of_ble_eq_true rfl⟩ ⟨Nat.le_of_ble_eq_true rfl, Nat.le_of_ble_eq_true rfl⟩ dX6_lacks_7 (fun u6 S5 H locs hw h => ?_)
  refine lv_aload_n hx hb dX6_lacks_10 rfl (lv_at hl 0 rfl) ?_
  refine rx_S (As := [.ref o4]) (rest := []) X h hno (meX6_requireComplete l hl9 G _ _ _ _ hw) gS_X6_223 rfl rfl hdS_X6_requireComplete rfl ⟨Nat.le_of_ble_eq_true rfl, Nat.le_of_ble_eq_true rfl⟩ hl.1 rfl (Nat.le_of_ble_eq_true rfl) ⟨Nat.le_of_ble_eq_true rfl, Nat.le_of_ble_eq_true rfl⟩ ⟨Nat.le_of_ble_eq_true rfl, Nat.le_of_ble_eq_true rfl⟩ dX6_lacks_11 (fun u8 S7 H locs hw h => ?_)
  refine lv_aload_n hx hb dX6_lacks_14 rfl (lv_at hl 0 rfl) ?_
  refine lv_iload_n hx hb dX6_lacks_15 rfl (lv_at hl 3 rfl) ?_
  obtain ⟨k10, hw⟩ := hw
  refine rc_V (As := [.int p2]) (rest := []) X h k10 (by decide) rfl (meX1_lackFor l G _ _ _ _ hw) gV_X6_231 rfl rfl hdV_X1_lackFor rfl ⟨Nat.le_of_ble_eq_true rfl, Nat.le_of_ble_eq_true rfl⟩ hl.1 rfl (Nat.le_of_ble_eq_true rfl) ⟨Nat.le_of_ble_eq_true rfl, Nat.le_of_ble_eq_true rfl⟩ dX6_lacks_16 (fun x11 S9 H locs hw h => ?_)
  exact vx_ret (en_i X h hr hw (Nat.le_of_ble_eq_true rfl) (Nat.le_of_ble_eq_true rfl) dX6_lacks_19)
abbrev rmL_lacks : Room := { frames := 8, cells := 3, slots := 18, locals := 135 }
def wpL_lacks (S : Mem) (a0 : Nat) (p1 : Int32) (p2 : Int32) (post : Int32 → Mem → Prop) : Prop := isK S a0 6 ∧ (wpX6_lacks S a0 p1 p2 (fun x3 S1 => post x3 S1) (fun k4 S5 => (k4 = 1 → (post (-77 : Int32) S5)) ∧ (k4 = 2 → (post (-79 : Int32) S5)) ∧ (k4 = 4 → (post (-78 : Int32) S5)) ∧ (k4 = 1 ∨ k4 = 2 ∨ k4 = 4)))
set_option maxHeartbeats 4000000 in
set_option maxRecDepth 100000 in
theorem meL_lacks (l : Launch) (hl9 : l.stackTraces = false) (G : GT) (S : Mem) (a0 : Nat) (p1 : Int32) (p2 : Int32) (post : Int32 → Mem → Prop) (hw : wpL_lacks S a0 p1 p2 post) : CN emI l yL_lacks (wsH yL_lacks cL_lacks 4 (some .int) [(0, 6, 7, 26), (0, 6, 11, 39), (0, 6, 15, 20)]) rmL_lacks 3 18 G [.ref a0, .int p1, .int p2] S post := by
  refine ch_open RL rfl (by decide +kernel) (Nat.le_of_ble_eq_true rfl) ?_
  intro p e s m args below meth c A X h hr hTab ls hl
  have hl : lv_has ls 4 [(0, .ref a0), (1, .int p1), (2, .int p2)] := hl
  have hx := X.1
  have hb := X.2.1
  have hown := X.2.2.2.1
  unfold wpL_lacks at hw
  refine lv_aload_n hx hb dL_lacks_0 rfl (lv_at hl 0 rfl) ?_
  refine lv_iload_n hx hb dL_lacks_1 rfl (lv_at hl 1 rfl) ?_
  refine lv_iload_n hx hb dL_lacks_2 rfl (lv_at hl 2 rfl) ?_
  obtain ⟨k2, hw⟩ := hw
  refine rx_VH (As := [.int p1, .int p2]) (rest := []) X h k2 (by decide) rfl (meX6_lacks l hl9 G _ _ _ _ _ _ hw) gV_L_83 rfl rfl hdV_X6_lacks rfl ⟨Nat.le_of_ble_eq_true rfl, Nat.le_of_ble_eq_true rfl⟩ hl.1 rfl (Nat.le_of_ble_eq_true rfl) ⟨Nat.le_of_ble_eq_true rfl, Nat.le_of_ble_eq_true rfl⟩ dL_lacks_3 (fun k4 S5 H locs q9 ce hw h hce hcv hcl => ?_) (fun x3 S1 H locs hw h => ?_)
  · rcases hw.2.2.2 with hk9 | hk9 | hk9
    · subst hk9
      have hw := hw.1 rfl
      refine vx_catch (own := RL) (name := "java/lang/IndexOutOfBoundsException") (E := xn 1) hown [] ⟨0, 6, 7, 26⟩ [⟨0, 6, 11, 39⟩, ⟨0, 6, 15, 20⟩] (by rw [hTab]; rfl) (fun z hz => nomatch hz) (by decide) (by decide) (X.hts q262) (va_Nw.use (by rfl) (X.nw q296)) hce hcv hcl ?_
      refine lv_astore_n (lv' := [(3, .ref q9), (0, .ref a0), (1, .int p1), (2, .int p2)]) hx hb dL_lacks_7 rfl hl (by decide) rfl (fun ls hl => ?_)
      refine lv_bipush (v := (-77 : Int32)) hx hb dL_lacks_8 (by decide) ?_
      exact (en_i X h hr hw (Nat.le_of_ble_eq_true rfl) (Nat.le_of_ble_eq_true rfl) dL_lacks_10)
    · subst hk9
      have hw := hw.2.1 rfl
      have hpass2 : ∀ z ∈ ([⟨0, 6, 7, 26⟩, ⟨0, 6, 11, 39⟩] : List ExceptionTableEntry), covers z 3 = false ∨ (z.catchType ≠ 0 ∧ ∃ nm : String, (Cond.classLink RL z.catchType nm).before args s = true ∧ va_Nc (xn 2) nm s) := by
        intro z hz
        rcases List.mem_cons.mp hz with rfl | hz
        · exact Or.inr ⟨by decide, "java/lang/IndexOutOfBoundsException", X.hts q262, X.2.2.2.2.2.2.1.2.2.2.2.1 ("java/lang/IllegalStateException", "java/lang/IndexOutOfBoundsException") (by decide +kernel)⟩
        rcases List.mem_cons.mp hz with rfl | hz
        · exact Or.inr ⟨by decide, "java/lang/IllegalArgumentException", X.hts q387, X.2.2.2.2.2.2.1.2.2.2.2.1 ("java/lang/IllegalStateException", "java/lang/IllegalArgumentException") (by decide +kernel)⟩
        cases hz
      refine vx_catch (own := RL) (name := "java/lang/IllegalStateException") (E := xn 2) hown [⟨0, 6, 7, 26⟩, ⟨0, 6, 11, 39⟩] ⟨0, 6, 15, 20⟩ [] (by rw [hTab]; rfl) (hpass2) (by decide) (by decide) (X.hts q179) (va_Nw.use (by rfl) (X.nw q186)) hce hcv hcl ?_
      refine lv_astore_n (lv' := [(3, .ref q9), (0, .ref a0), (1, .int p1), (2, .int p2)]) hx hb dL_lacks_15 rfl hl (by decide) rfl (fun ls hl => ?_)
      refine lv_bipush (v := (-79 : Int32)) hx hb dL_lacks_16 (by decide) ?_
      exact (en_i X h hr hw (Nat.le_of_ble_eq_true rfl) (Nat.le_of_ble_eq_true rfl) dL_lacks_18)
    · subst hk9
      have hw := hw.2.2.1 rfl
      have hpass4 : ∀ z ∈ ([⟨0, 6, 7, 26⟩] : List ExceptionTableEntry), covers z 3 = false ∨ (z.catchType ≠ 0 ∧ ∃ nm : String, (Cond.classLink RL z.catchType nm).before args s = true ∧ va_Nc (xn 4) nm s) := by
        intro z hz
        rcases List.mem_cons.mp hz with rfl | hz
        · exact Or.inr ⟨by decide, "java/lang/IndexOutOfBoundsException", X.hts q262, X.2.2.2.2.2.2.1.2.2.2.2.1 ("java/lang/IllegalArgumentException", "java/lang/IndexOutOfBoundsException") (by decide +kernel)⟩
        cases hz
      refine vx_catch (own := RL) (name := "java/lang/IllegalArgumentException") (E := xn 4) hown [⟨0, 6, 7, 26⟩] ⟨0, 6, 11, 39⟩ [⟨0, 6, 15, 20⟩] (by rw [hTab]; rfl) (hpass4) (by decide) (by decide) (X.hts q387) (va_Nw.use (by rfl) (X.nw q394)) hce hcv hcl ?_
      refine lv_astore_n (lv' := [(3, .ref q9), (0, .ref a0), (1, .int p1), (2, .int p2)]) hx hb dL_lacks_11 rfl hl (by decide) rfl (fun ls hl => ?_)
      refine lv_bipush (v := (-78 : Int32)) hx hb dL_lacks_12 (by decide) ?_
      exact (en_i X h hr hw (Nat.le_of_ble_eq_true rfl) (Nat.le_of_ble_eq_true rfl) dL_lacks_14)
  · exact (en_i X h hr hw (Nat.le_of_ble_eq_true rfl) (Nat.le_of_ble_eq_true rfl) dL_lacks_6)
abbrev rmX0_init : Room := { frames := 1, cells := 3, slots := 1212, locals := 20 }
def wpX0_init (S : Mem) (a0 : Nat) (post : Unit → Mem → Prop) : Prop := ∀ o1 : Nat, o1 ∉ mL S → (∀ S2 : Mem, S2 = (nA S o1 8 12) → (isK S2 a0 0 ∧ (∀ S4 : Mem, S4 = (sR S2 a0 0 (some o1)) → (∀ o5 : Nat, o5 ∉ mL S4 → (∀ S6 : Mem, S6 = (nA S4 o5 8 12) → (∀ S7 : Mem, S7 = (sR S6 a0 1 (some o5)) → (∀ o8 : Nat, o8 ∉ mL S7 → (∀ S9 : Mem, S9 = (nA S7 o8 8 1188) → (∀ S10 : Mem, S10 = (sR S9 a0 2 (some o8)) → (post () S10))))))))))
set_option maxHeartbeats 4000000 in
set_option maxRecDepth 100000 in
theorem meX0_init (l : Launch) (G : GT) (S : Mem) (a0 : Nat) (post : Unit → Mem → Prop) (hw : wpX0_init S a0 post) : CN emV l yX0_init (wsU yX0_init cX0_init 1 none) rmX0_init 3 1212 G [.ref a0] S post := by
  refine cn_open RX0 rfl (by decide +kernel) (Nat.le_of_ble_eq_true rfl) ?_
  intro p e s m args below meth c A X h hr hin ls hl
  have hl : lv_has ls 1 [(0, .ref a0)] := hl
  have hx := X.1
  have hb := X.2.1
  have hown := X.2.2.2.1
  unfold wpX0_init at hw
  refine lv_aload_n hx hb dX0_init_0 rfl (lv_at hl 0 rfl) ?_
  refine r_obj X hl.1 q45 q38 q39 ⟨Nat.le_of_ble_eq_true rfl, Nat.le_of_ble_eq_true rfl⟩ ⟨Nat.le_of_ble_eq_true rfl, Nat.le_of_ble_eq_true rfl⟩ dX0_init_1 ?_
  refine lv_aload_n hx hb dX0_init_4 rfl (lv_at hl 0 rfl) ?_
  refine lv_bipush (v := (nI 12)) hx hb dX0_init_5 (by decide) ?_
  refine r_newI X h 12 q64 (by decide) ⟨Nat.le_of_ble_eq_true rfl, Nat.le_of_ble_eq_true rfl⟩ dX0_init_7 (fun o1 H ho1 h => ?_)
  have hw := hw o1 ho1
  obtain ⟨S2, eS2⟩ : ∃ z : Mem, z = (nA S o1 8 12) := ⟨_, rfl⟩
  rw [← eS2] at h
  have hw := hw S2 eS2
  obtain ⟨k3, hw⟩ := hw
  refine r_putRF X h k3 0 (by decide) rfl inX0 tyX0 tyX0_ok nmX0 (by decide) rfl (Nat.le_of_ble_eq_true rfl) q46 rfl rfl hin rfl (tyX0_ok 0 (by decide)) rfl rfl dX0_init_9 (fun H locs h => ?_)
  obtain ⟨S4, eS4⟩ : ∃ z : Mem, z = (sR S2 a0 0 (some o1)) := ⟨_, rfl⟩
  rw [← eS4] at h
  have hw := hw S4 eS4
  refine lv_aload_n hx hb dX0_init_12 rfl (lv_at hl 0 rfl) ?_
  refine lv_bipush (v := (nI 12)) hx hb dX0_init_13 (by decide) ?_
  refine r_newI X h 12 q64 (by decide) ⟨Nat.le_of_ble_eq_true rfl, Nat.le_of_ble_eq_true rfl⟩ dX0_init_15 (fun o5 H ho5 h => ?_)
  have hw := hw o5 ho5
  obtain ⟨S6, eS6⟩ : ∃ z : Mem, z = (nA S4 o5 8 12) := ⟨_, rfl⟩
  rw [← eS6] at h
  have hw := hw S6 eS6
  refine r_putRF X h (kE eS6 (nA_keep (kR eS4 k3) ho5)) 1 (by decide) rfl inX0 tyX0 tyX0_ok nmX0 (by decide) rfl (Nat.le_of_ble_eq_true rfl) q47 rfl rfl hin rfl (tyX0_ok 1 (by decide)) rfl rfl dX0_init_17 (fun H locs h => ?_)
  obtain ⟨S7, eS7⟩ : ∃ z : Mem, z = (sR S6 a0 1 (some o5)) := ⟨_, rfl⟩
  rw [← eS7] at h
  have hw := hw S7 eS7
  refine lv_aload_n hx hb dX0_init_20 rfl (lv_at hl 0 rfl) ?_
  refine lv_sipush (v := (nI 1188)) hx hb dX0_init_21 (by decide) ?_
  refine r_newI X h 1188 q64 (by decide) ⟨Nat.le_of_ble_eq_true rfl, Nat.le_of_ble_eq_true rfl⟩ dX0_init_24 (fun o8 H ho8 h => ?_)
  have hw := hw o8 ho8
  obtain ⟨S9, eS9⟩ : ∃ z : Mem, z = (nA S7 o8 8 1188) := ⟨_, rfl⟩
  rw [← eS9] at h
  have hw := hw S9 eS9
  refine r_putRF X h (kE eS9 (nA_keep (kR eS7 (kE eS6 (nA_keep (kR eS4 k3) ho5))) ho8)) 2 (by decide) rfl inX0 tyX0 tyX0_ok nmX0 (by decide) rfl (Nat.le_of_ble_eq_true rfl) q48 rfl rfl hin rfl (tyX0_ok 2 (by decide)) rfl rfl dX0_init_26 (fun H locs h => ?_)
  obtain ⟨S10, eS10⟩ : ∃ z : Mem, z = (sR S9 a0 2 (some o8)) := ⟨_, rfl⟩
  rw [← eS10] at h
  have hw := hw S10 eS10
  exact (en_v X h hr hw (Nat.le_of_ble_eq_true rfl) (Nat.le_of_ble_eq_true rfl) dX0_init_29)
abbrev rmX5_init : Room := { frames := 1, cells := 0, slots := 0, locals := 20 }
def wpX5_init (S : Mem) (a0 : Nat) (post : Unit → Mem → Prop) : Prop := isK S a0 5 ∧ (∀ S2 : Mem, S2 = (sI S a0 0 (-1 : Int32)) → (∀ S3 : Mem, S3 = (sI S2 a0 1 (-1 : Int32)) → (vz_chr (nI 32) ∧ (∀ S5 : Mem, S5 = (sI S3 a0 2 (nI 32)) → (post () S5)))))
set_option maxHeartbeats 4000000 in
set_option maxRecDepth 100000 in
theorem meX5_init (l : Launch) (G : GT) (S : Mem) (a0 : Nat) (post : Unit → Mem → Prop) (hw : wpX5_init S a0 post) : CN emV l yX5_init (wsU yX5_init cX5_init 1 none) rmX5_init 0 0 G [.ref a0] S post := by
  refine cn_open RX5 rfl (by decide +kernel) (Nat.le_of_ble_eq_true rfl) ?_
  intro p e s m args below meth c A X h hr hin ls hl
  have hl : lv_has ls 1 [(0, .ref a0)] := hl
  have hx := X.1
  have hb := X.2.1
  have hown := X.2.2.2.1
  unfold wpX5_init at hw
  refine lv_aload_n hx hb dX5_init_0 rfl (lv_at hl 0 rfl) ?_
  refine r_obj X hl.1 q72 q38 q39 ⟨Nat.le_of_ble_eq_true rfl, Nat.le_of_ble_eq_true rfl⟩ ⟨Nat.le_of_ble_eq_true rfl, Nat.le_of_ble_eq_true rfl⟩ dX5_init_1 ?_
  refine lv_aload_n hx hb dX5_init_4 rfl (lv_at hl 0 rfl) ?_
  refine lv_iconst (v := (-1 : Int32)) hx hb dX5_init_5 (by decide) ?_
  obtain ⟨k1, hw⟩ := hw
  refine r_putI X h k1 0 (by decide) rfl inX5 tyX5 tyX5_ok nmX5 (by decide) rfl (Nat.le_of_ble_eq_true rfl) q73 rfl rfl (tyX5_ok 0 (by decide)) rfl rfl dX5_init_6 (fun H locs h => ?_)
  obtain ⟨S2, eS2⟩ : ∃ z : Mem, z = (sI S a0 0 (-1 : Int32)) := ⟨_, rfl⟩
  rw [← eS2] at h
  have hw := hw S2 eS2
  refine lv_aload_n hx hb dX5_init_9 rfl (lv_at hl 0 rfl) ?_
  refine lv_iconst (v := (-1 : Int32)) hx hb dX5_init_10 (by decide) ?_
  refine r_putI X h (kI eS2 k1) 1 (by decide) rfl inX5 tyX5 tyX5_ok nmX5 (by decide) rfl (Nat.le_of_ble_eq_true rfl) q75 rfl rfl (tyX5_ok 1 (by decide)) rfl rfl dX5_init_11 (fun H locs h => ?_)
  obtain ⟨S3, eS3⟩ : ∃ z : Mem, z = (sI S2 a0 1 (-1 : Int32)) := ⟨_, rfl⟩
  rw [← eS3] at h
  have hw := hw S3 eS3
  refine lv_aload_n hx hb dX5_init_14 rfl (lv_at hl 0 rfl) ?_
  refine lv_bipush (v := (nI 32)) hx hb dX5_init_15 (by decide) ?_
  obtain ⟨b4, hw⟩ := hw
  refine r_putI X h (kI eS3 (kI eS2 k1)) 2 (by decide) rfl inX5 tyX5 tyX5_ok nmX5 (by decide) rfl (Nat.le_of_ble_eq_true rfl) q77 rfl rfl (tyX5_ok 2 (by decide)) b4.1 b4.2 dX5_init_17 (fun H locs h => ?_)
  obtain ⟨S5, eS5⟩ : ∃ z : Mem, z = (sI S3 a0 2 (nI 32)) := ⟨_, rfl⟩
  rw [← eS5] at h
  have hw := hw S5 eS5
  exact (en_v X h hr hw (Nat.le_of_ble_eq_true rfl) (Nat.le_of_ble_eq_true rfl) dX5_init_20)
abbrev rmX4_init : Room := { frames := 1, cells := 1, slots := 156, locals := 20 }
def wlX4_init_15 (a0 : Nat)  (post : Unit → Mem → Prop)  : Nat → Int32 → Mem → Prop
  | 0 => fun _ _ => False
  | n + 1 => fun w1 S => isK S a0 4 ∧ (∃ o6, mR S a0 0 = some o6 ∧ (isK S o6 8 ∧ (((nI (mN S o6)) ≤ w1 → (post () S)) ∧ (¬ (nI (mN S o6)) ≤ w1 → (vp_in w1 (mN S o6) ∧ (∀ S10 : Mem, S10 = (sI S o6 w1.toNatClampNeg (-1 : Int32)) → (∀ x11 : Int32, x11 = (w1 + (nI 1)) → (wlX4_init_15 a0 post n x11 S10))))))))
set_option maxHeartbeats 4000000 in
set_option maxRecDepth 100000 in
theorem llX4_init_15 {p : Program} {l : Launch} {e : Env} {s : State} {m : MethodId} {args : Array Value} {below : List Frame} {meth : Method} {c : Code} {G : GT} {A : Nat → Prop} (hin : meth.name = "<init>") (X : Cx p s m args meth c cX4_init 2 RX4 G A) (hr : meth.sig.returnType = none) (a0 : Nat)  (post : Unit → Mem → Prop)   : ∀ (n : Nat) (w1 : Int32) (S : Mem), wlX4_init_15 a0 post n w1 S → ∀ (H : Heap) (locs : List Loc) (ls : Array Slot), Hx G A s.heap H locs S → lv_has ls 2 [(0, .ref a0), (1, .int w1)] → W p l e rmX4_init s m args below meth c H locs 1 156 (MQ below (QN emV post G A) args s 1 156 A) (F0 m 15 ls []) := by
  have hx := X.1
  have hb := X.2.1
  have hown := X.2.2.2.1
  intro n
  induction n with
  | zero =>
    intro _ _ hw
    exact hw.elim
  | succ n ih =>
    intro w1 S hw H locs ls h hl
    refine lv_iload_n hx hb dX4_init_15 rfl (lv_at hl 1 rfl) ?_
    refine lv_aload_n hx hb dX4_init_16 rfl (lv_at hl 0 rfl) ?_
    obtain ⟨k5, hw⟩ := hw
    obtain ⟨o6, eo6, hw⟩ := hw
    refine r_getR X h k5 0 eo6  (by decide) rfl inX4 (by decide) rfl q91 rfl dX4_init_17 ?_
    obtain ⟨k7, hw⟩ := hw
    refine r_alen X h k7 (by decide) dX4_init_20 ?_
    refine lv_icmp_ge (tgt := 37) hx hb dX4_init_21 (by decide) (fun c8 => ?_) (fun c8 => ?_)
    · have hw := hw.1 c8
      exact (en_v X h hr hw (Nat.le_of_ble_eq_true rfl) (Nat.le_of_ble_eq_true rfl) dX4_init_37)
    · have hw := hw.2 c8
      refine lv_aload_n hx hb dX4_init_24 rfl (lv_at hl 0 rfl) ?_
      refine r_getR X h k5 0 eo6  (by decide) rfl inX4 (by decide) rfl q91 rfl dX4_init_25 ?_
      refine lv_iload_n hx hb dX4_init_28 rfl (lv_at hl 1 rfl) ?_
      refine lv_iconst (v := (-1 : Int32)) hx hb dX4_init_29 (by decide) ?_
      obtain ⟨v9, hw⟩ := hw
      refine r_iast X h k7 v9 dX4_init_30 (fun H locs h => ?_)
      obtain ⟨S10, eS10⟩ : ∃ z : Mem, z = (sI S o6 w1.toNatClampNeg (-1 : Int32)) := ⟨_, rfl⟩
      rw [← eS10] at h
      have hw := hw S10 eS10
      obtain ⟨x11, ex11⟩ : ∃ y : Int32, y = (w1 + (nI 1)) := ⟨_, rfl⟩
      have hw := hw x11 ex11
      refine lv_iinc (v := x11) (lv' := [(1, .int x11), (0, .ref a0)]) hx hb dX4_init_31 hl (k := 1) rfl (by rw [ex11]; rfl) (by decide) rfl (fun ls hl => ?_)
      refine lv_goto (tgt := 15) hx hb dX4_init_34 (by decide) ?_
      exact ih _ _ hw _ _ _ h (lv_sub hl [1, 0] rfl)
def wpX4_init (S : Mem) (a0 : Nat) (post : Unit → Mem → Prop) : Prop := ∀ o1 : Nat, o1 ∉ mL S → (∀ S2 : Mem, S2 = (nA S o1 8 156) → (isK S2 a0 4 ∧ (∀ S4 : Mem, S4 = (sR S2 a0 0 (some o1)) → (∃ m, wlX4_init_15 a0 post m (nI 0) S4))))
set_option maxHeartbeats 4000000 in
set_option maxRecDepth 100000 in
theorem meX4_init (l : Launch) (G : GT) (S : Mem) (a0 : Nat) (post : Unit → Mem → Prop) (hw : wpX4_init S a0 post) : CN emV l yX4_init (wsU yX4_init cX4_init 2 none) rmX4_init 1 156 G [.ref a0] S post := by
  refine cn_open RX4 rfl (by decide +kernel) (Nat.le_of_ble_eq_true rfl) ?_
  intro p e s m args below meth c A X h hr hin ls hl
  have hl : lv_has ls 2 [(0, .ref a0)] := hl
  have hx := X.1
  have hb := X.2.1
  have hown := X.2.2.2.1
  unfold wpX4_init at hw
  refine lv_aload_n hx hb dX4_init_0 rfl (lv_at hl 0 rfl) ?_
  refine r_obj X hl.1 q90 q38 q39 ⟨Nat.le_of_ble_eq_true rfl, Nat.le_of_ble_eq_true rfl⟩ ⟨Nat.le_of_ble_eq_true rfl, Nat.le_of_ble_eq_true rfl⟩ dX4_init_1 ?_
  refine lv_aload_n hx hb dX4_init_4 rfl (lv_at hl 0 rfl) ?_
  refine lv_sipush (v := (nI 156)) hx hb dX4_init_5 (by decide) ?_
  refine r_newI X h 156 q64 (by decide) ⟨Nat.le_of_ble_eq_true rfl, Nat.le_of_ble_eq_true rfl⟩ dX4_init_8 (fun o1 H ho1 h => ?_)
  have hw := hw o1 ho1
  obtain ⟨S2, eS2⟩ : ∃ z : Mem, z = (nA S o1 8 156) := ⟨_, rfl⟩
  rw [← eS2] at h
  have hw := hw S2 eS2
  obtain ⟨k3, hw⟩ := hw
  refine r_putRF X h k3 0 (by decide) rfl inX4 tyX4 tyX4_ok nmX4 (by decide) rfl (Nat.le_of_ble_eq_true rfl) q91 rfl rfl hin rfl (tyX4_ok 0 (by decide)) rfl rfl dX4_init_10 (fun H locs h => ?_)
  obtain ⟨S4, eS4⟩ : ∃ z : Mem, z = (sR S2 a0 0 (some o1)) := ⟨_, rfl⟩
  rw [← eS4] at h
  have hw := hw S4 eS4
  refine lv_iconst (v := (nI 0)) hx hb dX4_init_13 (by decide) ?_
  refine lv_istore_n (lv' := [(1, .int (nI 0)), (0, .ref a0)]) hx hb dX4_init_14 rfl hl (by decide) rfl (fun ls hl => ?_)
  obtain ⟨n12, hw⟩ := hw
  exact llX4_init_15  hin X hr _ _ n12 _ _ hw _ _ _ h (lv_sub hl [1, 0] rfl)
abbrev rmX3_init : Room := { frames := 1, cells := 3, slots := 2066, locals := 20 }
def wpX3_init (S : Mem) (a0 : Nat) (post : Unit → Mem → Prop) : Prop := ∀ o1 : Nat, o1 ∉ mL S → (∀ S2 : Mem, S2 = (nA S o1 8 9) → (isK S2 a0 3 ∧ (∀ S4 : Mem, S4 = (sR S2 a0 0 (some o1)) → (∀ o5 : Nat, o5 ∉ mL S4 → (∀ S6 : Mem, S6 = (nA S4 o5 8 9) → (∀ S7 : Mem, S7 = (sR S6 a0 1 (some o5)) → (∀ o8 : Nat, o8 ∉ mL S7 → (∀ S9 : Mem, S9 = (nA S7 o8 8 2048) → (∀ S10 : Mem, S10 = (sR S9 a0 2 (some o8)) → (post () S10))))))))))
set_option maxHeartbeats 4000000 in
set_option maxRecDepth 100000 in
theorem meX3_init (l : Launch) (G : GT) (S : Mem) (a0 : Nat) (post : Unit → Mem → Prop) (hw : wpX3_init S a0 post) : CN emV l yX3_init (wsU yX3_init cX3_init 1 none) rmX3_init 3 2066 G [.ref a0] S post := by
  refine cn_open RX3 rfl (by decide +kernel) (Nat.le_of_ble_eq_true rfl) ?_
  intro p e s m args below meth c A X h hr hin ls hl
  have hl : lv_has ls 1 [(0, .ref a0)] := hl
  have hx := X.1
  have hb := X.2.1
  have hown := X.2.2.2.1
  unfold wpX3_init at hw
  refine lv_aload_n hx hb dX3_init_0 rfl (lv_at hl 0 rfl) ?_
  refine r_obj X hl.1 q104 q38 q39 ⟨Nat.le_of_ble_eq_true rfl, Nat.le_of_ble_eq_true rfl⟩ ⟨Nat.le_of_ble_eq_true rfl, Nat.le_of_ble_eq_true rfl⟩ dX3_init_1 ?_
  refine lv_aload_n hx hb dX3_init_4 rfl (lv_at hl 0 rfl) ?_
  refine lv_bipush (v := (nI 9)) hx hb dX3_init_5 (by decide) ?_
  refine r_newI X h 9 q64 (by decide) ⟨Nat.le_of_ble_eq_true rfl, Nat.le_of_ble_eq_true rfl⟩ dX3_init_7 (fun o1 H ho1 h => ?_)
  have hw := hw o1 ho1
  obtain ⟨S2, eS2⟩ : ∃ z : Mem, z = (nA S o1 8 9) := ⟨_, rfl⟩
  rw [← eS2] at h
  have hw := hw S2 eS2
  obtain ⟨k3, hw⟩ := hw
  refine r_putRF X h k3 0 (by decide) rfl inX3 tyX3 tyX3_ok nmX3 (by decide) rfl (Nat.le_of_ble_eq_true rfl) q105 rfl rfl hin rfl (tyX3_ok 0 (by decide)) rfl rfl dX3_init_9 (fun H locs h => ?_)
  obtain ⟨S4, eS4⟩ : ∃ z : Mem, z = (sR S2 a0 0 (some o1)) := ⟨_, rfl⟩
  rw [← eS4] at h
  have hw := hw S4 eS4
  refine lv_aload_n hx hb dX3_init_12 rfl (lv_at hl 0 rfl) ?_
  refine lv_bipush (v := (nI 9)) hx hb dX3_init_13 (by decide) ?_
  refine r_newI X h 9 q64 (by decide) ⟨Nat.le_of_ble_eq_true rfl, Nat.le_of_ble_eq_true rfl⟩ dX3_init_15 (fun o5 H ho5 h => ?_)
  have hw := hw o5 ho5
  obtain ⟨S6, eS6⟩ : ∃ z : Mem, z = (nA S4 o5 8 9) := ⟨_, rfl⟩
  rw [← eS6] at h
  have hw := hw S6 eS6
  refine r_putRF X h (kE eS6 (nA_keep (kR eS4 k3) ho5)) 1 (by decide) rfl inX3 tyX3 tyX3_ok nmX3 (by decide) rfl (Nat.le_of_ble_eq_true rfl) q106 rfl rfl hin rfl (tyX3_ok 1 (by decide)) rfl rfl dX3_init_17 (fun H locs h => ?_)
  obtain ⟨S7, eS7⟩ : ∃ z : Mem, z = (sR S6 a0 1 (some o5)) := ⟨_, rfl⟩
  rw [← eS7] at h
  have hw := hw S7 eS7
  refine lv_aload_n hx hb dX3_init_20 rfl (lv_at hl 0 rfl) ?_
  refine lv_sipush (v := (nI 2048)) hx hb dX3_init_21 (by decide) ?_
  refine r_newI X h 2048 q64 (by decide) ⟨Nat.le_of_ble_eq_true rfl, Nat.le_of_ble_eq_true rfl⟩ dX3_init_24 (fun o8 H ho8 h => ?_)
  have hw := hw o8 ho8
  obtain ⟨S9, eS9⟩ : ∃ z : Mem, z = (nA S7 o8 8 2048) := ⟨_, rfl⟩
  rw [← eS9] at h
  have hw := hw S9 eS9
  refine r_putRF X h (kE eS9 (nA_keep (kR eS7 (kE eS6 (nA_keep (kR eS4 k3) ho5))) ho8)) 2 (by decide) rfl inX3 tyX3 tyX3_ok nmX3 (by decide) rfl (Nat.le_of_ble_eq_true rfl) q107 rfl rfl hin rfl (tyX3_ok 2 (by decide)) rfl rfl dX3_init_26 (fun H locs h => ?_)
  obtain ⟨S10, eS10⟩ : ∃ z : Mem, z = (sR S9 a0 2 (some o8)) := ⟨_, rfl⟩
  rw [← eS10] at h
  have hw := hw S10 eS10
  exact (en_v X h hr hw (Nat.le_of_ble_eq_true rfl) (Nat.le_of_ble_eq_true rfl) dX3_init_29)
abbrev rmX6_init : Room := { frames := 2, cells := 13, slots := 3552, locals := 41 }
def wpX6_init (S : Mem) (a0 : Nat) (post : Unit → Mem → Prop) : Prop := ∀ o1 : Nat, o1 ∉ mL S → (∀ S2 : Mem, S2 = (nA S o1 0 0) → (wpX0_init S2 o1 (fun u4 S3 => isK S3 a0 6 ∧ (∀ S6 : Mem, S6 = (sR S3 a0 0 (some o1)) → (∀ o7 : Nat, o7 ∉ mL S6 → (∀ S8 : Mem, S8 = (nA S6 o7 10 4) → (∀ S9 : Mem, S9 = (sR S8 a0 1 (some o7)) → (∀ o10 : Nat, o10 ∉ mL S9 → (∀ S11 : Mem, S11 = (nA S9 o10 5 0) → (wpX5_init S11 o10 (fun u13 S12 => isK S12 a0 6 ∧ (∀ S15 : Mem, S15 = (sR S12 a0 2 (some o10)) → (∀ o16 : Nat, o16 ∉ mL S15 → (∀ S17 : Mem, S17 = (nA S15 o16 4 0) → (wpX4_init S17 o16 (fun u19 S18 => isK S18 a0 6 ∧ (∀ S21 : Mem, S21 = (sR S18 a0 3 (some o16)) → (∀ o22 : Nat, o22 ∉ mL S21 → (∀ S23 : Mem, S23 = (nA S21 o22 3 0) → (wpX3_init S23 o22 (fun u25 S24 => isK S24 a0 6 ∧ (∀ S27 : Mem, S27 = (sR S24 a0 4 (some o22)) → (∀ o28 : Nat, o28 ∉ mL S27 → (∀ S29 : Mem, S29 = (nA S27 o28 11 100) → (∀ S30 : Mem, S30 = (sR S29 a0 5 (some o28)) → (post () S30))))))))))))))))))))))))))
set_option maxHeartbeats 4000000 in
set_option maxRecDepth 100000 in
theorem meX6_init (l : Launch) (G : GT) (S : Mem) (a0 : Nat) (post : Unit → Mem → Prop) (hw : wpX6_init S a0 post) : CN emV l yX6_init (wsU yX6_init cX6_init 1 none) rmX6_init 13 3552 G [.ref a0] S post := by
  refine cn_open RX6 rfl (by decide +kernel) (Nat.le_of_ble_eq_true rfl) ?_
  intro p e s m args below meth c A X h hr hin ls hl
  have hl : lv_has ls 1 [(0, .ref a0)] := hl
  have hx := X.1
  have hb := X.2.1
  have hown := X.2.2.2.1
  unfold wpX6_init at hw
  refine lv_aload_n hx hb dX6_init_0 rfl (lv_at hl 0 rfl) ?_
  refine r_obj X hl.1 q37 q38 q39 ⟨Nat.le_of_ble_eq_true rfl, Nat.le_of_ble_eq_true rfl⟩ ⟨Nat.le_of_ble_eq_true rfl, Nat.le_of_ble_eq_true rfl⟩ dX6_init_1 ?_
  refine lv_aload_n hx hb dX6_init_4 rfl (lv_at hl 0 rfl) ?_
  refine r_new X h 0 (by decide) rfl inX0 tyX0 tyX0_ok q40 q41 q15 (by decide +kernel) ⟨Nat.le_of_ble_eq_true rfl, Nat.le_of_ble_eq_true rfl⟩ dX6_init_5 (fun o1 H ho1 h => ?_)
  have hw := hw o1 ho1
  obtain ⟨S2, eS2⟩ : ∃ z : Mem, z = (nA S o1 0 0) := ⟨_, rfl⟩
  rw [← eS2] at h
  have hw := hw S2 eS2
  refine lv_dup hx hb dX6_init_8 rfl ?_
  refine rc_I (As := []) (rest := [.ref o1, .ref a0]) X h (meX0_init l G _ _ _ hw) gU_X6_11 q15 q42 q43 rfl rfl rfl hdS_X0_init rfl ⟨Nat.le_of_ble_eq_true rfl, Nat.le_of_ble_eq_true rfl⟩ hl.1 rfl (Nat.le_of_ble_eq_true rfl) ⟨Nat.le_of_ble_eq_true rfl, Nat.le_of_ble_eq_true rfl⟩ dX6_init_9 (fun u4 S3 H locs hw h => ?_)
  obtain ⟨k5, hw⟩ := hw
  refine r_putRF X h k5 0 (by decide) rfl inX6 tyX6 tyX6_ok nmX6 (by decide) rfl (Nat.le_of_ble_eq_true rfl) q120 rfl rfl hin rfl (tyX6_ok 0 (by decide)) rfl rfl dX6_init_12 (fun H locs h => ?_)
  obtain ⟨S6, eS6⟩ : ∃ z : Mem, z = (sR S3 a0 0 (some o1)) := ⟨_, rfl⟩
  rw [← eS6] at h
  have hw := hw S6 eS6
  refine lv_aload_n hx hb dX6_init_15 rfl (lv_at hl 0 rfl) ?_
  refine lv_iconst (v := (nI 4)) hx hb dX6_init_16 (by decide) ?_
  refine r_newJob X h 4 q65 (by decide) ⟨Nat.le_of_ble_eq_true rfl, Nat.le_of_ble_eq_true rfl⟩ dX6_init_17 (fun o7 H ho7 h => ?_)
  have hw := hw o7 ho7
  obtain ⟨S8, eS8⟩ : ∃ z : Mem, z = (nA S6 o7 10 4) := ⟨_, rfl⟩
  rw [← eS8] at h
  have hw := hw S8 eS8
  refine r_putRF X h (kE eS8 (nA_keep (kR eS6 k5) ho7)) 1 (by decide) rfl inX6 tyX6 tyX6_ok nmX6 (by decide) rfl (Nat.le_of_ble_eq_true rfl) q121 rfl rfl hin rfl (tyX6_ok 1 (by decide)) rfl rfl dX6_init_20 (fun H locs h => ?_)
  obtain ⟨S9, eS9⟩ : ∃ z : Mem, z = (sR S8 a0 1 (some o7)) := ⟨_, rfl⟩
  rw [← eS9] at h
  have hw := hw S9 eS9
  refine lv_aload_n hx hb dX6_init_23 rfl (lv_at hl 0 rfl) ?_
  refine r_new X h 5 (by decide) rfl inX5 tyX5 tyX5_ok q67 q68 q16 (by decide +kernel) ⟨Nat.le_of_ble_eq_true rfl, Nat.le_of_ble_eq_true rfl⟩ dX6_init_24 (fun o10 H ho10 h => ?_)
  have hw := hw o10 ho10
  obtain ⟨S11, eS11⟩ : ∃ z : Mem, z = (nA S9 o10 5 0) := ⟨_, rfl⟩
  rw [← eS11] at h
  have hw := hw S11 eS11
  refine lv_dup hx hb dX6_init_27 rfl ?_
  refine rc_I (As := []) (rest := [.ref o10, .ref a0]) X h (meX5_init l G _ _ _ hw) gU_X6_24 q16 q69 q70 rfl rfl rfl hdS_X5_init rfl ⟨Nat.le_of_ble_eq_true rfl, Nat.le_of_ble_eq_true rfl⟩ hl.1 rfl (Nat.le_of_ble_eq_true rfl) ⟨Nat.le_of_ble_eq_true rfl, Nat.le_of_ble_eq_true rfl⟩ dX6_init_28 (fun u13 S12 H locs hw h => ?_)
  obtain ⟨k14, hw⟩ := hw
  refine r_putRF X h k14 2 (by decide) rfl inX6 tyX6 tyX6_ok nmX6 (by decide) rfl (Nat.le_of_ble_eq_true rfl) q122 rfl rfl hin rfl (tyX6_ok 2 (by decide)) rfl rfl dX6_init_31 (fun H locs h => ?_)
  obtain ⟨S15, eS15⟩ : ∃ z : Mem, z = (sR S12 a0 2 (some o10)) := ⟨_, rfl⟩
  rw [← eS15] at h
  have hw := hw S15 eS15
  refine lv_aload_n hx hb dX6_init_34 rfl (lv_at hl 0 rfl) ?_
  refine r_new X h 4 (by decide) rfl inX4 tyX4 tyX4_ok q85 q86 q17 (by decide +kernel) ⟨Nat.le_of_ble_eq_true rfl, Nat.le_of_ble_eq_true rfl⟩ dX6_init_35 (fun o16 H ho16 h => ?_)
  have hw := hw o16 ho16
  obtain ⟨S17, eS17⟩ : ∃ z : Mem, z = (nA S15 o16 4 0) := ⟨_, rfl⟩
  rw [← eS17] at h
  have hw := hw S17 eS17
  refine lv_dup hx hb dX6_init_38 rfl ?_
  refine rc_I (As := []) (rest := [.ref o16, .ref a0]) X h (meX4_init l G _ _ _ hw) gU_X6_31 q17 q87 q88 rfl rfl rfl hdS_X4_init rfl ⟨Nat.le_of_ble_eq_true rfl, Nat.le_of_ble_eq_true rfl⟩ hl.1 rfl (Nat.le_of_ble_eq_true rfl) ⟨Nat.le_of_ble_eq_true rfl, Nat.le_of_ble_eq_true rfl⟩ dX6_init_39 (fun u19 S18 H locs hw h => ?_)
  obtain ⟨k20, hw⟩ := hw
  refine r_putRF X h k20 3 (by decide) rfl inX6 tyX6 tyX6_ok nmX6 (by decide) rfl (Nat.le_of_ble_eq_true rfl) q123 rfl rfl hin rfl (tyX6_ok 3 (by decide)) rfl rfl dX6_init_42 (fun H locs h => ?_)
  obtain ⟨S21, eS21⟩ : ∃ z : Mem, z = (sR S18 a0 3 (some o16)) := ⟨_, rfl⟩
  rw [← eS21] at h
  have hw := hw S21 eS21
  refine lv_aload_n hx hb dX6_init_45 rfl (lv_at hl 0 rfl) ?_
  refine r_new X h 3 (by decide) rfl inX3 tyX3 tyX3_ok q99 q100 q18 (by decide +kernel) ⟨Nat.le_of_ble_eq_true rfl, Nat.le_of_ble_eq_true rfl⟩ dX6_init_46 (fun o22 H ho22 h => ?_)
  have hw := hw o22 ho22
  obtain ⟨S23, eS23⟩ : ∃ z : Mem, z = (nA S21 o22 3 0) := ⟨_, rfl⟩
  rw [← eS23] at h
  have hw := hw S23 eS23
  refine lv_dup hx hb dX6_init_49 rfl ?_
  refine rc_I (As := []) (rest := [.ref o22, .ref a0]) X h (meX3_init l G _ _ _ hw) gU_X6_38 q18 q101 q102 rfl rfl rfl hdS_X3_init rfl ⟨Nat.le_of_ble_eq_true rfl, Nat.le_of_ble_eq_true rfl⟩ hl.1 rfl (Nat.le_of_ble_eq_true rfl) ⟨Nat.le_of_ble_eq_true rfl, Nat.le_of_ble_eq_true rfl⟩ dX6_init_50 (fun u25 S24 H locs hw h => ?_)
  obtain ⟨k26, hw⟩ := hw
  refine r_putRF X h k26 4 (by decide) rfl inX6 tyX6 tyX6_ok nmX6 (by decide) rfl (Nat.le_of_ble_eq_true rfl) q124 rfl rfl hin rfl (tyX6_ok 4 (by decide)) rfl rfl dX6_init_53 (fun H locs h => ?_)
  obtain ⟨S27, eS27⟩ : ∃ z : Mem, z = (sR S24 a0 4 (some o22)) := ⟨_, rfl⟩
  rw [← eS27] at h
  have hw := hw S27 eS27
  refine lv_aload_n hx hb dX6_init_56 rfl (lv_at hl 0 rfl) ?_
  refine lv_bipush (v := (nI 100)) hx hb dX6_init_57 (by decide) ?_
  refine r_newLot X h 100 q118 (by decide) ⟨Nat.le_of_ble_eq_true rfl, Nat.le_of_ble_eq_true rfl⟩ dX6_init_59 (fun o28 H ho28 h => ?_)
  have hw := hw o28 ho28
  obtain ⟨S29, eS29⟩ : ∃ z : Mem, z = (nA S27 o28 11 100) := ⟨_, rfl⟩
  rw [← eS29] at h
  have hw := hw S29 eS29
  refine r_putRF X h (kE eS29 (nA_keep (kR eS27 k26) ho28)) 5 (by decide) rfl inX6 tyX6 tyX6_ok nmX6 (by decide) rfl (Nat.le_of_ble_eq_true rfl) q125 rfl rfl hin rfl (tyX6_ok 5 (by decide)) rfl rfl dX6_init_62 (fun H locs h => ?_)
  obtain ⟨S30, eS30⟩ : ∃ z : Mem, z = (sR S29 a0 5 (some o28)) := ⟨_, rfl⟩
  rw [← eS30] at h
  have hw := hw S30 eS30
  exact (en_v X h hr hw (Nat.le_of_ble_eq_true rfl) (Nat.le_of_ble_eq_true rfl) dX6_init_65)
abbrev rmL_pick : Room := { frames := 1, cells := 0, slots := 0, locals := 21 }
def wpL_pick (S : Mem) (L : Nat) (xs : Nat → Int32) (p1 : Int32) (p2 : Int32) (post : Int32 → Mem → Prop) : Prop := wpL_cell S L xs p1 (fun x2 S1 => ¬ p2 = 0 ∧ (post ((x2.toUInt32 >>> ((nI 1).toUInt32 &&& Int32.toUInt32 31)).toInt32 - (x2.toUInt32 >>> ((nI 1).toUInt32 &&& Int32.toUInt32 31)).toInt32 / p2 * p2) S1))
set_option maxHeartbeats 4000000 in
set_option maxRecDepth 100000 in
theorem meL_pick {b : Nat} (l : Launch) (G : GT) (S : Mem) (L : Nat) (xs : Nat → Int32) (p1 : Int32) (p2 : Int32) (post : Int32 → Mem → Prop) (hw : wpL_pick S L xs p1 p2 post) : CNs emI l yL_pick (wsU yL_pick cL_pick 3 (some .int)) rmL_pick 0 0 G b L xs [.ref b, .int p1, .int p2] S post := by
  refine cs_open RL rfl (by decide +kernel) (Nat.le_of_ble_eq_true rfl) ?_
  intro p e s m args below meth c A X h hr hX hbl hbA ls hl
  have hl : lv_has ls 3 [(0, .ref b), (1, .int p1), (2, .int p2)] := hl
  have hx := X.1
  have hb := X.2.1
  have hown := X.2.2.2.1
  unfold wpL_pick at hw
  refine lv_aload_n hx hb dL_pick_0 rfl (lv_at hl 0 rfl) ?_
  refine lv_iload_n hx hb dL_pick_1 rfl (lv_at hl 1 rfl) ?_
  refine rc_Ss (As := [.ref b, .int p1]) (rest := []) X h hX hbl hbA (meL_cell l G _ _ _ _ _ hw) gS_L_8 rfl rfl hdS_L_cell rfl ⟨Nat.le_of_ble_eq_true rfl, Nat.le_of_ble_eq_true rfl⟩ hl.1 rfl (Nat.le_of_ble_eq_true rfl) ⟨Nat.le_of_ble_eq_true rfl, Nat.le_of_ble_eq_true rfl⟩ dL_pick_2 (fun x2 S1 H locs hw h => ?_)
  refine lv_iconst (v := (nI 1)) hx hb dL_pick_5 (by decide) ?_
  refine lv_iushr (v := (x2.toUInt32 >>> ((nI 1).toUInt32 &&& Int32.toUInt32 31)).toInt32) hx hb dL_pick_6 rfl ?_
  refine lv_iload_n hx hb dL_pick_7 rfl (lv_at hl 2 rfl) ?_
  obtain ⟨z3, hw⟩ := hw
  refine lv_irem hx hb dL_pick_8 z3 ?_
  exact (en_i X h hr hw (Nat.le_of_ble_eq_true rfl) (Nat.le_of_ble_eq_true rfl) dL_pick_9)
abbrev rmX6_plates : Room := { frames := 0, cells := 0, slots := 0, locals := 0 }
def wpX6_plates (S : Mem) (a0 : Nat) (post : Int32 → Mem → Prop) : Prop := isK S a0 6 ∧ (∃ o2, mR S a0 3 = some o2 ∧ (isK S o2 4 ∧ (post (mI S o2 1) S)))
set_option maxHeartbeats 4000000 in
set_option maxRecDepth 100000 in
theorem meX6_plates (l : Launch) (G : GT) (S : Mem) (a0 : Nat) (post : Int32 → Mem → Prop) (hw : wpX6_plates S a0 post) : CN emI l yX6_plates (wsU yX6_plates cX6_plates 1 (some .int)) rmX6_plates 0 0 G [.ref a0] S post := by
  refine cn_open RX6 rfl (by decide +kernel) (Nat.le_of_ble_eq_true rfl) ?_
  intro p e s m args below meth c A X h hr hin ls hl
  have hl : lv_has ls 1 [(0, .ref a0)] := hl
  have hx := X.1
  have hb := X.2.1
  have hown := X.2.2.2.1
  unfold wpX6_plates at hw
  refine lv_aload_n hx hb dX6_plates_0 rfl (lv_at hl 0 rfl) ?_
  obtain ⟨k1, hw⟩ := hw
  obtain ⟨o2, eo2, hw⟩ := hw
  refine r_getR X h k1 3 eo2  (by decide) rfl inX6 (by decide) rfl q123 rfl dX6_plates_1 ?_
  obtain ⟨k3, hw⟩ := hw
  refine r_getIN X h k3 1  (by decide) rfl inX4 (by decide) rfl q93 rfl dX6_plates_4 ?_
  exact (en_i X h hr hw (Nat.le_of_ble_eq_true rfl) (Nat.le_of_ble_eq_true rfl) dX6_plates_7)
abbrev rmL_sum : Room := { frames := 10, cells := 142, slots := 852, locals := 182 }
theorem rcL_sum {a : Nat} (h : a ≤ 142) : a ≤ rmL_sum.cells := h
theorem rsL_sum {a : Nat} (h : a ≤ 852) : a ≤ rmL_sum.slots := h
def wlL_sum_100 (a0 : Nat) (post : Int64 → Mem → Prop) (J : Int64 → Int32 → Mem → Prop) : Nat → Int64 → Int32 → Int32 → Mem → Prop
  | 0 => fun _ _ _ _ => False
  | n + 1 => fun w1 w3 w4 S => ((nI 4) ≤ w4 → (∀ x17 : Int32, x17 = (w3 + (nI 1)) → (J w1 x17 S))) ∧ (¬ (nI 4) ≤ w4 → (wpL_stock S a0 w3 w4 (fun x19 S18 => wpL_makeready S18 a0 w3 w4 (fun x21 S20 => ∀ x22 : Int32, x22 = (w4 + (nI 1)) → (wlL_sum_100 a0 post J n ((((31 : Int64) * w1) + x19.toInt64) + ((7 : Int64) * x21.toInt64)) w3 x22 S20)))))
set_option maxHeartbeats 8000000 in
set_option maxRecDepth 100000 in
theorem llL_sum_100 {p : Program} {l : Launch} {e : Env} {s : State} {m : MethodId} {args : Array Value} {below : List Frame} {meth : Method} {c : Code} {G : GT} {A : Nat → Prop} (X : Cx p s m args meth c cL_sum 5 RL G A) (hr : meth.sig.returnType = (some .long)) (hl9 : l.stackTraces = false) (a0 : Nat) (post : Int64 → Mem → Prop) (J : Int64 → Int32 → Mem → Prop) (Bc Bs : Nat) (hJ : ∀ (w1 : Int64) (w3 : Int32) (S : Mem), J w1 w3 S → ∀ (H : Heap) (locs : List Loc) (ls : Array Slot) (kc ks : Nat), kc + Bc ≤ 142 → ks + Bs ≤ 852 → Hx G A s.heap H locs S → lv_has ls 5 [(0, .ref a0), (1, .long w1), (3, .int w3)] → W p l e rmL_sum s m args below meth c H locs kc ks (MQ below (QN emJ post G A) args s 142 852 A) (F0 m 68 ls [])) : ∀ (n : Nat) (w1 : Int64) (w3 : Int32) (w4 : Int32) (S : Mem) (hw : wlL_sum_100 a0 post J n w1 w3 w4 S) (H : Heap) (locs : List Loc) (ls : Array Slot) (kc ks : Nat), kc + (n * 6 + 0 + Bc) ≤ 142 → ks + (n * 36 + 0 + Bs) ≤ 852 → Hx G A s.heap H locs S → lv_has ls 5 [(0, .ref a0), (1, .long w1), (3, .int w3), (4, .int w4)] → W p l e rmL_sum s m args below meth c H locs kc ks (MQ below (QN emJ post G A) args s 142 852 A) (F0 m 100 ls []) := by
  have hx := X.1
  have hb := X.2.1
  have hown := X.2.2.2.1
  intro n
  induction n with
  | zero =>
    intro _ _ _ _ hw
    exact hw.elim
  | succ n ih =>
    intro w1 w3 w4 S hw H locs ls kc ks hkc hks h hl
    refine lv_iload hx hb dL_sum_100 (lv_at hl 3 rfl) ?_
    refine lv_iconst (v := (nI 4)) hx hb dL_sum_102 (by decide) ?_
    refine lv_icmp_ge (tgt := 140) hx hb dL_sum_103 (by decide) (fun c16 => ?_) (fun c16 => ?_)
    · have hw := hw.1 c16
      obtain ⟨x17, ex17⟩ : ∃ y : Int32, y = (w3 + (nI 1)) := ⟨_, rfl⟩
      have hw := hw x17 ex17
      refine lv_iinc (v := x17) (lv' := [(3, .int x17), (0, .ref a0), (1, .long w1), (4, .int w4)]) hx hb dL_sum_140 hl (k := 2) rfl (by rw [ex17]; rfl) (by decide) rfl (fun ls hl => ?_)
      refine lv_goto (tgt := 68) hx hb dL_sum_143 (by decide) ?_
      exact hJ _ _ _ hw _ _ _ _ _ (by omega) (by omega) h (lv_sub hl [1, 2, 0] rfl)
    · have hw := hw.2 c16
      refine lv_ldc2 hx hb hown (X.hts q677) dL_sum_106 ?_
      refine lv_lload_n hx hb dL_sum_109 rfl (lv_at hl 1 rfl) ?_
      refine lv_lmul hx hb dL_sum_110 ?_
      refine lv_aload_n hx hb dL_sum_111 rfl (lv_at hl 0 rfl) ?_
      refine lv_iload_n hx hb dL_sum_112 rfl (lv_at hl 2 rfl) ?_
      refine lv_iload hx hb dL_sum_113 (lv_at hl 3 rfl) ?_
      refine rc_H (As := [.ref a0, .int w3, .int w4]) (rest := [.long ((31 : Int64) * w1)]) X h (meL_stock l hl9 G _ _ _ _ _ hw) gS_L_133 rfl rfl hdS_L_stock rfl ⟨Nat.le_of_ble_eq_true rfl, Nat.le_of_ble_eq_true rfl⟩ hl.1 rfl (Nat.le_of_ble_eq_true rfl) ⟨rcL_sum (by omega), rsL_sum (by omega)⟩ dL_sum_115 (fun x19 S18 H locs hw h => ?_)
      refine lv_i2l (v := x19.toInt64) hx hb dL_sum_118 rfl ?_
      refine lv_ladd hx hb dL_sum_119 ?_
      refine lv_ldc2 hx hb hown (X.hts q679) dL_sum_120 ?_
      refine lv_aload_n hx hb dL_sum_123 rfl (lv_at hl 0 rfl) ?_
      refine lv_iload_n hx hb dL_sum_124 rfl (lv_at hl 2 rfl) ?_
      refine lv_iload hx hb dL_sum_125 (lv_at hl 3 rfl) ?_
      refine rc_H (As := [.ref a0, .int w3, .int w4]) (rest := [.long (7 : Int64), .long (((31 : Int64) * w1) + x19.toInt64)]) X h (meL_makeready l hl9 G _ _ _ _ _ hw) gS_L_131 rfl rfl hdS_L_makeready rfl ⟨Nat.le_of_ble_eq_true rfl, Nat.le_of_ble_eq_true rfl⟩ hl.1 rfl (Nat.le_of_ble_eq_true rfl) ⟨rcL_sum (by omega), rsL_sum (by omega)⟩ dL_sum_127 (fun x21 S20 H locs hw h => ?_)
      refine lv_i2l (v := x21.toInt64) hx hb dL_sum_130 rfl ?_
      refine lv_lmul hx hb dL_sum_131 ?_
      refine lv_ladd hx hb dL_sum_132 ?_
      refine lv_lstore_n (lv' := [(1, .long ((((31 : Int64) * w1) + x19.toInt64) + ((7 : Int64) * x21.toInt64))), (0, .ref a0), (3, .int w3), (4, .int w4)]) hx hb dL_sum_133 rfl hl (by decide) rfl (fun ls hl => ?_)
      obtain ⟨x22, ex22⟩ : ∃ y : Int32, y = (w4 + (nI 1)) := ⟨_, rfl⟩
      have hw := hw x22 ex22
      refine lv_iinc (v := x22) (lv' := [(4, .int x22), (1, .long ((((31 : Int64) * w1) + x19.toInt64) + ((7 : Int64) * x21.toInt64))), (0, .ref a0), (3, .int w3)]) hx hb dL_sum_134 hl (k := 3) rfl (by rw [ex22]; rfl) (by decide) rfl (fun ls hl => ?_)
      refine lv_goto (tgt := 100) hx hb dL_sum_137 (by decide) ?_
      exact ih _ _ _ _ hw _ _ _ _ _ (by omega) (by omega) h (lv_sub hl [2, 1, 3, 0] rfl)
def wlL_sum_68 (a0 : Nat) (post : Int64 → Mem → Prop) : Nat → Int64 → Int32 → Mem → Prop
  | 0 => fun _ _ _ => False
  | n + 1 => fun w1 w3 S => ((nI 3) ≤ w3 → (post w1 S)) ∧ (¬ (nI 3) ≤ w3 → (wpL_pages S a0 w3 (fun x13 S12 => wpL_platesNeeded S12 a0 w3 (fun x15 S14 => ∃ m, m ≤ 5 ∧ wlL_sum_100 a0 post (wlL_sum_68 a0 post n) m ((((31 : Int64) * w1) + x13.toInt64) + ((7 : Int64) * x15.toInt64)) w3 (nI 0) S14))))
set_option maxHeartbeats 8000000 in
set_option maxRecDepth 100000 in
theorem llL_sum_68 {p : Program} {l : Launch} {e : Env} {s : State} {m : MethodId} {args : Array Value} {below : List Frame} {meth : Method} {c : Code} {G : GT} {A : Nat → Prop} (X : Cx p s m args meth c cL_sum 5 RL G A) (hr : meth.sig.returnType = (some .long)) (hl9 : l.stackTraces = false) (a0 : Nat) (post : Int64 → Mem → Prop) : ∀ (n : Nat) (w1 : Int64) (w3 : Int32) (S : Mem) (hw : wlL_sum_68 a0 post n w1 w3 S) (H : Heap) (locs : List Loc) (ls : Array Slot) (kc ks : Nat), kc + (n * 33 + 0) ≤ 142 → ks + (n * 198 + 0) ≤ 852 → Hx G A s.heap H locs S → lv_has ls 5 [(0, .ref a0), (1, .long w1), (3, .int w3)] → W p l e rmL_sum s m args below meth c H locs kc ks (MQ below (QN emJ post G A) args s 142 852 A) (F0 m 68 ls []) := by
  have hx := X.1
  have hb := X.2.1
  have hown := X.2.2.2.1
  intro n
  induction n with
  | zero =>
    intro _ _ _ hw
    exact hw.elim
  | succ n ih =>
    intro w1 w3 S hw H locs ls kc ks hkc hks h hl
    refine lv_iload_n hx hb dL_sum_68 rfl (lv_at hl 2 rfl) ?_
    refine lv_iconst (v := (nI 3)) hx hb dL_sum_69 (by decide) ?_
    refine lv_icmp_ge (tgt := 146) hx hb dL_sum_70 (by decide) (fun c11 => ?_) (fun c11 => ?_)
    · have hw := hw.1 c11
      refine lv_lload_n hx hb dL_sum_146 rfl (lv_at hl 1 rfl) ?_
      exact (en_j X h hr hw (by omega) (by omega) dL_sum_147)
    · have hw := hw.2 c11
      refine lv_ldc2 hx hb hown (X.hts q677) dL_sum_73 ?_
      refine lv_lload_n hx hb dL_sum_76 rfl (lv_at hl 1 rfl) ?_
      refine lv_lmul hx hb dL_sum_77 ?_
      refine lv_aload_n hx hb dL_sum_78 rfl (lv_at hl 0 rfl) ?_
      refine lv_iload_n hx hb dL_sum_79 rfl (lv_at hl 2 rfl) ?_
      refine rc_H (As := [.ref a0, .int w3]) (rest := [.long ((31 : Int64) * w1)]) X h (meL_pages l hl9 G _ _ _ _ hw) gS_L_129 rfl rfl hdS_L_pages rfl ⟨Nat.le_of_ble_eq_true rfl, Nat.le_of_ble_eq_true rfl⟩ hl.1 rfl (Nat.le_of_ble_eq_true rfl) ⟨rcL_sum (by omega), rsL_sum (by omega)⟩ dL_sum_80 (fun x13 S12 H locs hw h => ?_)
      refine lv_i2l (v := x13.toInt64) hx hb dL_sum_83 rfl ?_
      refine lv_ladd hx hb dL_sum_84 ?_
      refine lv_ldc2 hx hb hown (X.hts q679) dL_sum_85 ?_
      refine lv_aload_n hx hb dL_sum_88 rfl (lv_at hl 0 rfl) ?_
      refine lv_iload_n hx hb dL_sum_89 rfl (lv_at hl 2 rfl) ?_
      refine rc_H (As := [.ref a0, .int w3]) (rest := [.long (7 : Int64), .long (((31 : Int64) * w1) + x13.toInt64)]) X h (meL_platesNeeded l hl9 G _ _ _ _ hw) gS_L_138 rfl rfl hdS_L_platesNeeded rfl ⟨Nat.le_of_ble_eq_true rfl, Nat.le_of_ble_eq_true rfl⟩ hl.1 rfl (Nat.le_of_ble_eq_true rfl) ⟨rcL_sum (by omega), rsL_sum (by omega)⟩ dL_sum_90 (fun x15 S14 H locs hw h => ?_)
      refine lv_i2l (v := x15.toInt64) hx hb dL_sum_93 rfl ?_
      refine lv_lmul hx hb dL_sum_94 ?_
      refine lv_ladd hx hb dL_sum_95 ?_
      refine lv_lstore_n (lv' := [(1, .long ((((31 : Int64) * w1) + x13.toInt64) + ((7 : Int64) * x15.toInt64))), (0, .ref a0), (3, .int w3)]) hx hb dL_sum_96 rfl hl (by decide) rfl (fun ls hl => ?_)
      refine lv_iconst (v := (nI 0)) hx hb dL_sum_97 (by decide) ?_
      refine lv_istore (lv' := [(4, .int (nI 0)), (1, .long ((((31 : Int64) * w1) + x13.toInt64) + ((7 : Int64) * x15.toInt64))), (0, .ref a0), (3, .int w3)]) hx hb dL_sum_98 hl (by decide) rfl (fun ls hl => ?_)
      obtain ⟨n23, hn23, hw⟩ := hw
      exact llL_sum_100 X hr hl9 _ _ _ (n * 33 + 0) (n * 198 + 0) (fun w1 w3 S hw H locs ls kc ks h1 h2 h hl => ih w1 w3 S hw H locs ls kc ks (by omega) (by omega) h hl) n23 _ _ _ _ hw _ _ _ _ _ (by omega) (by omega) h (lv_sub hl [2, 1, 3, 0] rfl)
def wlL_sum_31 (a0 : Nat) (post : Int64 → Mem → Prop) : Nat → Int64 → Int32 → Mem → Prop
  | 0 => fun _ _ _ => False
  | n + 1 => fun w1 w3 S => ((nI 4) ≤ w3 → (∃ m, m ≤ 4 ∧ wlL_sum_68 a0 post m w1 (nI 0) S)) ∧ (¬ (nI 4) ≤ w3 → (wpL_state S a0 w3 (fun x26 S25 => wpL_outdated S25 a0 w3 (fun x28 S27 => ∀ x29 : Int32, x29 = (w3 + (nI 1)) → (wlL_sum_31 a0 post n ((((31 : Int64) * w1) + x26.toInt64) + ((17 : Int64) * x28.toInt64)) x29 S27)))))
set_option maxHeartbeats 8000000 in
set_option maxRecDepth 100000 in
theorem llL_sum_31 {p : Program} {l : Launch} {e : Env} {s : State} {m : MethodId} {args : Array Value} {below : List Frame} {meth : Method} {c : Code} {G : GT} {A : Nat → Prop} (X : Cx p s m args meth c cL_sum 5 RL G A) (hr : meth.sig.returnType = (some .long)) (hl9 : l.stackTraces = false) (a0 : Nat) (post : Int64 → Mem → Prop) : ∀ (n : Nat) (w1 : Int64) (w3 : Int32) (S : Mem) (hw : wlL_sum_31 a0 post n w1 w3 S) (H : Heap) (locs : List Loc) (ls : Array Slot) (kc ks : Nat), kc + (n * 2 + 132) ≤ 142 → ks + (n * 12 + 792) ≤ 852 → Hx G A s.heap H locs S → lv_has ls 5 [(0, .ref a0), (1, .long w1), (3, .int w3)] → W p l e rmL_sum s m args below meth c H locs kc ks (MQ below (QN emJ post G A) args s 142 852 A) (F0 m 31 ls []) := by
  have hx := X.1
  have hb := X.2.1
  have hown := X.2.2.2.1
  intro n
  induction n with
  | zero =>
    intro _ _ _ hw
    exact hw.elim
  | succ n ih =>
    intro w1 w3 S hw H locs ls kc ks hkc hks h hl
    refine lv_iload_n hx hb dL_sum_31 rfl (lv_at hl 2 rfl) ?_
    refine lv_iconst (v := (nI 4)) hx hb dL_sum_32 (by decide) ?_
    refine lv_icmp_ge (tgt := 66) hx hb dL_sum_33 (by decide) (fun c10 => ?_) (fun c10 => ?_)
    · have hw := hw.1 c10
      refine lv_iconst (v := (nI 0)) hx hb dL_sum_66 (by decide) ?_
      refine lv_istore_n (lv' := [(3, .int (nI 0)), (0, .ref a0), (1, .long w1)]) hx hb dL_sum_67 rfl hl (by decide) rfl (fun ls hl => ?_)
      obtain ⟨n24, hn24, hw⟩ := hw
      exact llL_sum_68 X hr hl9 _ _ n24 _ _ _ hw _ _ _ _ _ (by omega) (by omega) h (lv_sub hl [1, 2, 0] rfl)
    · have hw := hw.2 c10
      refine lv_ldc2 hx hb hown (X.hts q677) dL_sum_36 ?_
      refine lv_lload_n hx hb dL_sum_39 rfl (lv_at hl 1 rfl) ?_
      refine lv_lmul hx hb dL_sum_40 ?_
      refine lv_aload_n hx hb dL_sum_41 rfl (lv_at hl 0 rfl) ?_
      refine lv_iload_n hx hb dL_sum_42 rfl (lv_at hl 2 rfl) ?_
      refine rc_H (As := [.ref a0, .int w3]) (rest := [.long ((31 : Int64) * w1)]) X h (meL_state l hl9 G _ _ _ _ hw) gS_L_125 rfl rfl hdS_L_state rfl ⟨Nat.le_of_ble_eq_true rfl, Nat.le_of_ble_eq_true rfl⟩ hl.1 rfl (Nat.le_of_ble_eq_true rfl) ⟨rcL_sum (by omega), rsL_sum (by omega)⟩ dL_sum_43 (fun x26 S25 H locs hw h => ?_)
      refine lv_i2l (v := x26.toInt64) hx hb dL_sum_46 rfl ?_
      refine lv_ladd hx hb dL_sum_47 ?_
      refine lv_ldc2 hx hb hown (X.hts q680) dL_sum_48 ?_
      refine lv_aload_n hx hb dL_sum_51 rfl (lv_at hl 0 rfl) ?_
      refine lv_iload_n hx hb dL_sum_52 rfl (lv_at hl 2 rfl) ?_
      refine rc_H (As := [.ref a0, .int w3]) (rest := [.long (17 : Int64), .long (((31 : Int64) * w1) + x26.toInt64)]) X h (meL_outdated l hl9 G _ _ _ _ hw) gS_L_174 rfl rfl hdS_L_outdated rfl ⟨Nat.le_of_ble_eq_true rfl, Nat.le_of_ble_eq_true rfl⟩ hl.1 rfl (Nat.le_of_ble_eq_true rfl) ⟨rcL_sum (by omega), rsL_sum (by omega)⟩ dL_sum_53 (fun x28 S27 H locs hw h => ?_)
      refine lv_i2l (v := x28.toInt64) hx hb dL_sum_56 rfl ?_
      refine lv_lmul hx hb dL_sum_57 ?_
      refine lv_ladd hx hb dL_sum_58 ?_
      refine lv_lstore_n (lv' := [(1, .long ((((31 : Int64) * w1) + x26.toInt64) + ((17 : Int64) * x28.toInt64))), (0, .ref a0), (3, .int w3)]) hx hb dL_sum_59 rfl hl (by decide) rfl (fun ls hl => ?_)
      obtain ⟨x29, ex29⟩ : ∃ y : Int32, y = (w3 + (nI 1)) := ⟨_, rfl⟩
      have hw := hw x29 ex29
      refine lv_iinc (v := x29) (lv' := [(3, .int x29), (1, .long ((((31 : Int64) * w1) + x26.toInt64) + ((17 : Int64) * x28.toInt64))), (0, .ref a0)]) hx hb dL_sum_60 hl (k := 2) rfl (by rw [ex29]; rfl) (by decide) rfl (fun ls hl => ?_)
      refine lv_goto (tgt := 31) hx hb dL_sum_63 (by decide) ?_
      exact ih _ _ _ hw _ _ _ _ _ (by omega) (by omega) h (lv_sub hl [2, 1, 0] rfl)
def wpL_sum (S : Mem) (a0 : Nat) (post : Int64 → Mem → Prop) : Prop := isK S a0 6 ∧ (wpX6_plates S a0 (fun x3 S1 => isK S1 a0 6 ∧ (wpX6_lots S1 a0 (fun x6 S4 => isK S4 a0 6 ∧ (wpX6_waste S4 a0 (fun x9 S7 => ∃ m, m ≤ 5 ∧ wlL_sum_31 a0 post m ((((31 : Int64) * x3.toInt64) + ((101 : Int64) * x6.toInt64)) + ((7 : Int64) * x9)) (nI 0) S7))))))
set_option maxHeartbeats 4000000 in
set_option maxRecDepth 100000 in
theorem meL_sum (l : Launch) (hl9 : l.stackTraces = false) (G : GT) (S : Mem) (a0 : Nat) (post : Int64 → Mem → Prop) (hw : wpL_sum S a0 post) : CN emJ l yL_sum (wsU yL_sum cL_sum 5 (some .long)) rmL_sum 142 852 G [.ref a0] S post := by
  refine cn_open RL rfl (by decide +kernel) (Nat.le_of_ble_eq_true rfl) ?_
  intro p e s m args below meth c A X h hr hin ls hl
  have hl : lv_has ls 5 [(0, .ref a0)] := hl
  have hx := X.1
  have hb := X.2.1
  have hown := X.2.2.2.1
  unfold wpL_sum at hw
  refine lv_ldc2 hx hb hown (X.hts q677) dL_sum_0 ?_
  refine lv_aload_n hx hb dL_sum_3 rfl (lv_at hl 0 rfl) ?_
  obtain ⟨k2, hw⟩ := hw
  refine rc_V (As := []) (rest := [.long (31 : Int64)]) X h k2 (by decide) rfl (meX6_plates l G _ _ _ hw) gV_L_135 rfl rfl hdV_X6_plates rfl ⟨Nat.le_of_ble_eq_true rfl, Nat.le_of_ble_eq_true rfl⟩ hl.1 rfl (Nat.le_of_ble_eq_true rfl) ⟨rcL_sum (by omega), rsL_sum (by omega)⟩ dL_sum_4 (fun x3 S1 H locs hw h => ?_)
  refine lv_i2l (v := x3.toInt64) hx hb dL_sum_7 rfl ?_
  refine lv_lmul hx hb dL_sum_8 ?_
  refine lv_ldc2 hx hb hown (X.hts q678) dL_sum_9 ?_
  refine lv_aload_n hx hb dL_sum_12 rfl (lv_at hl 0 rfl) ?_
  obtain ⟨k5, hw⟩ := hw
  refine rc_V (As := []) (rest := [.long (101 : Int64), .long ((31 : Int64) * x3.toInt64)]) X h k5 (by decide) rfl (meX6_lots l G _ _ _ hw) gV_L_147 rfl rfl hdV_X6_lots rfl ⟨Nat.le_of_ble_eq_true rfl, Nat.le_of_ble_eq_true rfl⟩ hl.1 rfl (Nat.le_of_ble_eq_true rfl) ⟨rcL_sum (by omega), rsL_sum (by omega)⟩ dL_sum_13 (fun x6 S4 H locs hw h => ?_)
  refine lv_i2l (v := x6.toInt64) hx hb dL_sum_16 rfl ?_
  refine lv_lmul hx hb dL_sum_17 ?_
  refine lv_ladd hx hb dL_sum_18 ?_
  refine lv_ldc2 hx hb hown (X.hts q679) dL_sum_19 ?_
  refine lv_aload_n hx hb dL_sum_22 rfl (lv_at hl 0 rfl) ?_
  obtain ⟨k8, hw⟩ := hw
  refine rc_V (As := []) (rest := [.long (7 : Int64), .long (((31 : Int64) * x3.toInt64) + ((101 : Int64) * x6.toInt64))]) X h k8 (by decide) rfl (meX6_waste l G _ _ _ hw) gV_L_121 rfl rfl hdV_X6_waste rfl ⟨Nat.le_of_ble_eq_true rfl, Nat.le_of_ble_eq_true rfl⟩ hl.1 rfl (Nat.le_of_ble_eq_true rfl) ⟨rcL_sum (by omega), rsL_sum (by omega)⟩ dL_sum_23 (fun x9 S7 H locs hw h => ?_)
  refine lv_lmul hx hb dL_sum_26 ?_
  refine lv_ladd hx hb dL_sum_27 ?_
  refine lv_lstore_n (lv' := [(1, .long ((((31 : Int64) * x3.toInt64) + ((101 : Int64) * x6.toInt64)) + ((7 : Int64) * x9))), (0, .ref a0)]) hx hb dL_sum_28 rfl hl (by decide) rfl (fun ls hl => ?_)
  refine lv_iconst (v := (nI 0)) hx hb dL_sum_29 (by decide) ?_
  refine lv_istore_n (lv' := [(3, .int (nI 0)), (1, .long ((((31 : Int64) * x3.toInt64) + ((101 : Int64) * x6.toInt64)) + ((7 : Int64) * x9))), (0, .ref a0)]) hx hb dL_sum_30 rfl hl (by decide) rfl (fun ls hl => ?_)
  obtain ⟨n30, hn30, hw⟩ := hw
  exact llL_sum_31 X hr hl9 _ _ n30 _ _ _ hw _ _ _ _ _ (by omega) (by omega) h (lv_sub hl [2, 1, 0] rfl)
abbrev rmX6_isWhollyApproved : Room := { frames := 3, cells := 0, slots := 0, locals := 64 }
def wlX6_isWhollyApproved_8 (a0 : Nat) (a1 : Nat) (p2 : Int32) (x3 : Int32) (post : Int32 → Mem → Prop)  : Nat → Int32 → Mem → Prop
  | 0 => fun _ _ => False
  | n + 1 => fun w4 S => (x3 ≤ w4 → (vz_nar (nI 1) ∧ (post (nI 1) S))) ∧ (¬ x3 ≤ w4 → (isK S a0 6 ∧ (∃ o7, mR S a0 0 = some o7 ∧ (isK S a1 1 ∧ (wpX1_contentOn S a1 p2 w4 (fun x10 S8 => isK S8 o7 0 ∧ (wpX0_isApproved S8 o7 x10 (fun x13 S11 => (¬ x13 = 0 → (∀ x15 : Int32, x15 = (w4 + (nI 1)) → (wlX6_isWhollyApproved_8 a0 a1 p2 x3 post n x15 S11))) ∧ (x13 = 0 → (vz_nar (nI 0) ∧ (post (nI 0) S11)))))))))))
set_option maxHeartbeats 4000000 in
set_option maxRecDepth 100000 in
theorem llX6_isWhollyApproved_8 {p : Program} {l : Launch} {e : Env} {s : State} {m : MethodId} {args : Array Value} {below : List Frame} {meth : Method} {c : Code} {G : GT} {A : Nat → Prop} (X : Cx p s m args meth c cX6_isWhollyApproved 5 RX6 G A) (hr : meth.sig.returnType = (some .boolean)) (a0 : Nat) (a1 : Nat) (p2 : Int32) (x3 : Int32) (post : Int32 → Mem → Prop)   : ∀ (n : Nat) (w4 : Int32) (S : Mem), wlX6_isWhollyApproved_8 a0 a1 p2 x3 post n w4 S → ∀ (H : Heap) (locs : List Loc) (ls : Array Slot), Hx G A s.heap H locs S → lv_has ls 5 [(0, .ref a0), (1, .ref a1), (2, .int p2), (3, .int x3), (4, .int w4)] → W p l e rmX6_isWhollyApproved s m args below meth c H locs 0 0 (MQ below (QN emI post G A) args s 0 0 A) (F0 m 8 ls []) := by
  have hx := X.1
  have hb := X.2.1
  have hown := X.2.2.2.1
  intro n
  induction n with
  | zero =>
    intro _ _ hw
    exact hw.elim
  | succ n ih =>
    intro w4 S hw H locs ls h hl
    refine lv_iload hx hb dX6_isWhollyApproved_8 (lv_at hl 4 rfl) ?_
    refine lv_iload_n hx hb dX6_isWhollyApproved_10 rfl (lv_at hl 3 rfl) ?_
    refine lv_icmp_ge (tgt := 39) hx hb dX6_isWhollyApproved_11 (by decide) (fun c4 => ?_) (fun c4 => ?_)
    · have hw := hw.1 c4
      refine lv_iconst (v := (nI 1)) hx hb dX6_isWhollyApproved_39 (by decide) ?_
      obtain ⟨b5, hw⟩ := hw
      exact (en_z X h hr b5 hw (Nat.le_of_ble_eq_true rfl) (Nat.le_of_ble_eq_true rfl) dX6_isWhollyApproved_40)
    · have hw := hw.2 c4
      refine lv_aload_n hx hb dX6_isWhollyApproved_14 rfl (lv_at hl 0 rfl) ?_
      obtain ⟨k6, hw⟩ := hw
      obtain ⟨o7, eo7, hw⟩ := hw
      refine r_getR X h k6 0 eo7  (by decide) rfl inX6 (by decide) rfl q120 rfl dX6_isWhollyApproved_15 ?_
      refine lv_aload_n hx hb dX6_isWhollyApproved_18 rfl (lv_at hl 1 rfl) ?_
      refine lv_iload_n hx hb dX6_isWhollyApproved_19 rfl (lv_at hl 2 rfl) ?_
      refine lv_iload hx hb dX6_isWhollyApproved_20 (lv_at hl 4 rfl) ?_
      obtain ⟨k9, hw⟩ := hw
      refine rc_V (As := [.int p2, .int w4]) (rest := [.ref o7]) X h k9 (by decide) rfl (meX1_contentOn l G _ _ _ _ _ hw) gV_X6_300 rfl rfl hdV_X1_contentOn rfl ⟨Nat.le_of_ble_eq_true rfl, Nat.le_of_ble_eq_true rfl⟩ hl.1 rfl (Nat.le_of_ble_eq_true rfl) ⟨Nat.le_of_ble_eq_true rfl, Nat.le_of_ble_eq_true rfl⟩ dX6_isWhollyApproved_22 (fun x10 S8 H locs hw h => ?_)
      obtain ⟨k12, hw⟩ := hw
      refine rc_V (As := [.int x10]) (rest := []) X h k12 (by decide) rfl (meX0_isApproved l G _ _ _ _ hw) gV_X6_68 rfl rfl hdV_X0_isApproved rfl ⟨Nat.le_of_ble_eq_true rfl, Nat.le_of_ble_eq_true rfl⟩ hl.1 rfl (Nat.le_of_ble_eq_true rfl) ⟨Nat.le_of_ble_eq_true rfl, Nat.le_of_ble_eq_true rfl⟩ dX6_isWhollyApproved_25 (fun x13 S11 H locs hw h => ?_)
      refine lv_if_ne (tgt := 33) hx hb dX6_isWhollyApproved_28 (by decide) (fun c14 => ?_) (fun c14 => ?_)
      · have hw := hw.1 c14
        obtain ⟨x15, ex15⟩ : ∃ y : Int32, y = (w4 + (nI 1)) := ⟨_, rfl⟩
        have hw := hw x15 ex15
        refine lv_iinc (v := x15) (lv' := [(4, .int x15), (0, .ref a0), (1, .ref a1), (2, .int p2), (3, .int x3)]) hx hb dX6_isWhollyApproved_33 hl (k := 4) rfl (by rw [ex15]; rfl) (by decide) rfl (fun ls hl => ?_)
        refine lv_goto (tgt := 8) hx hb dX6_isWhollyApproved_36 (by decide) ?_
        exact ih _ _ hw _ _ _ h (lv_sub hl [1, 2, 3, 4, 0] rfl)
      · have hw := hw.2 c14
        refine lv_iconst (v := (nI 0)) hx hb dX6_isWhollyApproved_31 (by decide) ?_
        obtain ⟨b16, hw⟩ := hw
        exact (en_z X h hr b16 hw (Nat.le_of_ble_eq_true rfl) (Nat.le_of_ble_eq_true rfl) dX6_isWhollyApproved_32)
def wpX6_isWhollyApproved (S : Mem) (a0 : Nat) (a1 : Nat) (p2 : Int32) (post : Int32 → Mem → Prop) : Prop := isK S a1 1 ∧ (wpX1_placeCount S a1 (fun x3 S1 => ∃ m, wlX6_isWhollyApproved_8 a0 a1 p2 x3 post m (nI 0) S1))
set_option maxHeartbeats 4000000 in
set_option maxRecDepth 100000 in
theorem meX6_isWhollyApproved (l : Launch) (G : GT) (S : Mem) (a0 : Nat) (a1 : Nat) (p2 : Int32) (post : Int32 → Mem → Prop) (hw : wpX6_isWhollyApproved S a0 a1 p2 post) : CN emI l yX6_isWhollyApproved (wsU yX6_isWhollyApproved cX6_isWhollyApproved 5 (some .boolean)) rmX6_isWhollyApproved 0 0 G [.ref a0, .ref a1, .int p2] S post := by
  refine cn_open RX6 rfl (by decide +kernel) (Nat.le_of_ble_eq_true rfl) ?_
  intro p e s m args below meth c A X h hr hin ls hl
  have hl : lv_has ls 5 [(0, .ref a0), (1, .ref a1), (2, .int p2)] := hl
  have hx := X.1
  have hb := X.2.1
  have hown := X.2.2.2.1
  unfold wpX6_isWhollyApproved at hw
  refine lv_aload_n hx hb dX6_isWhollyApproved_0 rfl (lv_at hl 1 rfl) ?_
  obtain ⟨k2, hw⟩ := hw
  refine rc_V (As := []) (rest := []) X h k2 (by decide) rfl (meX1_placeCount l G _ _ _ hw) gV_X6_131 rfl rfl hdV_X1_placeCount rfl ⟨Nat.le_of_ble_eq_true rfl, Nat.le_of_ble_eq_true rfl⟩ hl.1 rfl (Nat.le_of_ble_eq_true rfl) ⟨Nat.le_of_ble_eq_true rfl, Nat.le_of_ble_eq_true rfl⟩ dX6_isWhollyApproved_1 (fun x3 S1 H locs hw h => ?_)
  refine lv_istore_n (lv' := [(3, .int x3), (0, .ref a0), (1, .ref a1), (2, .int p2)]) hx hb dX6_isWhollyApproved_4 rfl hl (by decide) rfl (fun ls hl => ?_)
  refine lv_iconst (v := (nI 0)) hx hb dX6_isWhollyApproved_5 (by decide) ?_
  refine lv_istore (lv' := [(4, .int (nI 0)), (3, .int x3), (0, .ref a0), (1, .ref a1), (2, .int p2)]) hx hb dX6_isWhollyApproved_6 hl (by decide) rfl (fun ls hl => ?_)
  obtain ⟨n17, hw⟩ := hw
  exact llX6_isWhollyApproved_8  X hr _ _ _ _ _ n17 _ _ hw _ _ _ h (lv_sub hl [2, 3, 4, 1, 0] rfl)
abbrev rmX5_mount : Room := { frames := 0, cells := 0, slots := 0, locals := 0 }
def wpX5_mount (S : Mem) (a0 : Nat) (p1 : Int32) (p2 : Int32) (p3 : Int32) (post : Unit → Mem → Prop) : Prop := isK S a0 5 ∧ (∀ S2 : Mem, S2 = (sI S a0 0 p1) → (∀ S3 : Mem, S3 = (sI S2 a0 1 p2) → (vz_chr p3 ∧ (∀ S5 : Mem, S5 = (sI S3 a0 2 p3) → (post () S5)))))
set_option maxHeartbeats 4000000 in
set_option maxRecDepth 100000 in
theorem meX5_mount (l : Launch) (G : GT) (S : Mem) (a0 : Nat) (p1 : Int32) (p2 : Int32) (p3 : Int32) (post : Unit → Mem → Prop) (hw : wpX5_mount S a0 p1 p2 p3 post) : CN emV l yX5_mount (wsU yX5_mount cX5_mount 4 none) rmX5_mount 0 0 G [.ref a0, .int p1, .int p2, .int p3] S post := by
  refine cn_open RX5 rfl (by decide +kernel) (Nat.le_of_ble_eq_true rfl) ?_
  intro p e s m args below meth c A X h hr hin ls hl
  have hl : lv_has ls 4 [(0, .ref a0), (1, .int p1), (2, .int p2), (3, .int p3)] := hl
  have hx := X.1
  have hb := X.2.1
  have hown := X.2.2.2.1
  unfold wpX5_mount at hw
  refine lv_aload_n hx hb dX5_mount_0 rfl (lv_at hl 0 rfl) ?_
  refine lv_iload_n hx hb dX5_mount_1 rfl (lv_at hl 1 rfl) ?_
  obtain ⟨k1, hw⟩ := hw
  refine r_putI X h k1 0 (by decide) rfl inX5 tyX5 tyX5_ok nmX5 (by decide) rfl (Nat.le_of_ble_eq_true rfl) q73 rfl rfl (tyX5_ok 0 (by decide)) rfl rfl dX5_mount_2 (fun H locs h => ?_)
  obtain ⟨S2, eS2⟩ : ∃ z : Mem, z = (sI S a0 0 p1) := ⟨_, rfl⟩
  rw [← eS2] at h
  have hw := hw S2 eS2
  refine lv_aload_n hx hb dX5_mount_5 rfl (lv_at hl 0 rfl) ?_
  refine lv_iload_n hx hb dX5_mount_6 rfl (lv_at hl 2 rfl) ?_
  refine r_putI X h (kI eS2 k1) 1 (by decide) rfl inX5 tyX5 tyX5_ok nmX5 (by decide) rfl (Nat.le_of_ble_eq_true rfl) q75 rfl rfl (tyX5_ok 1 (by decide)) rfl rfl dX5_mount_7 (fun H locs h => ?_)
  obtain ⟨S3, eS3⟩ : ∃ z : Mem, z = (sI S2 a0 1 p2) := ⟨_, rfl⟩
  rw [← eS3] at h
  have hw := hw S3 eS3
  refine lv_aload_n hx hb dX5_mount_10 rfl (lv_at hl 0 rfl) ?_
  refine lv_iload_n hx hb dX5_mount_11 rfl (lv_at hl 3 rfl) ?_
  obtain ⟨b4, hw⟩ := hw
  refine r_putI X h (kI eS3 (kI eS2 k1)) 2 (by decide) rfl inX5 tyX5 tyX5_ok nmX5 (by decide) rfl (Nat.le_of_ble_eq_true rfl) q77 rfl rfl (tyX5_ok 2 (by decide)) b4.1 b4.2 dX5_mount_12 (fun H locs h => ?_)
  obtain ⟨S5, eS5⟩ : ∃ z : Mem, z = (sI S3 a0 2 p3) := ⟨_, rfl⟩
  rw [← eS5] at h
  have hw := hw S5 eS5
  exact (en_v X h hr hw (Nat.le_of_ble_eq_true rfl) (Nat.le_of_ble_eq_true rfl) dX5_mount_15)
