abbrev rmX6_loadOrders : Room := { frames := 4, cells := 0, slots := 0, locals := 89 }
def wlX6_loadOrders_29 (a0 : Nat) (a1 : Nat) (x3 : Int32) (post : Unit → Mem → Prop)  : Nat → Int32 → Mem → Prop
  | 0 => fun _ _ => False
  | n + 1 => fun w3 S => (x3 ≤ w3 → (post () S)) ∧ (¬ x3 ≤ w3 → (isK S a0 6 ∧ (∃ o13, mR S a0 4 = some o13 ∧ (wpX6_plateFor S a0 a1 w3 (nI 0) (fun x15 S14 => isK S14 a0 6 ∧ (wpX6_plateFor S14 a0 a1 w3 (nI 1) (fun x18 S16 => isK S16 o13 3 ∧ (wpX3_setSheet S16 o13 w3 x15 x18 (fun u21 S19 => ∀ x22 : Int32, x22 = (w3 + (nI 1)) → (wlX6_loadOrders_29 a0 a1 x3 post n x22 S19))))))))))
set_option maxHeartbeats 4000000 in
set_option maxRecDepth 100000 in
theorem llX6_loadOrders_29 {p : Program} {l : Launch} {e : Env} {s : State} {m : MethodId} {args : Array Value} {below : List Frame} {meth : Method} {c : Code} {G : GT} {A : Nat → Prop} (X : Cx p s m args meth c cX6_loadOrders 4 RX6 G A) (hr : meth.sig.returnType = none) (a0 : Nat) (a1 : Nat) (x3 : Int32) (post : Unit → Mem → Prop)   : ∀ (n : Nat) (w3 : Int32) (S : Mem), wlX6_loadOrders_29 a0 a1 x3 post n w3 S → ∀ (H : Heap) (locs : List Loc) (ls : Array Slot), Hx G A s.heap H locs S → lv_has ls 4 [(0, .ref a0), (1, .ref a1), (2, .int x3), (3, .int w3)] → W p l e rmX6_loadOrders s m args below meth c H locs 0 0 (MQ below (QN emV post G A) args s 0 0 A) (F0 m 29 ls []) := by
  have hx := X.1
  have hb := X.2.1
  have hown := X.2.2.2.1
  intro n
  induction n with
  | zero =>
    intro _ _ hw
    exact hw.elim
  | succ n ih =>
    intro w3 S hw H locs ls h hl
    refine lv_iload_n hx hb dX6_loadOrders_29 rfl (lv_at hl 3 rfl) ?_
    refine lv_iload_n hx hb dX6_loadOrders_30 rfl (lv_at hl 2 rfl) ?_
    refine lv_icmp_ge (tgt := 62) hx hb dX6_loadOrders_31 (by decide) (fun c11 => ?_) (fun c11 => ?_)
    · have hw := hw.1 c11
      exact (en_v X h hr hw (Nat.le_of_ble_eq_true rfl) (Nat.le_of_ble_eq_true rfl) dX6_loadOrders_62)
    · have hw := hw.2 c11
      refine lv_aload_n hx hb dX6_loadOrders_34 rfl (lv_at hl 0 rfl) ?_
      obtain ⟨k12, hw⟩ := hw
      obtain ⟨o13, eo13, hw⟩ := hw
      refine r_getR X h k12 4 eo13  (by decide) rfl inX6 (by decide) rfl q124 rfl dX6_loadOrders_35 ?_
      refine lv_iload_n hx hb dX6_loadOrders_38 rfl (lv_at hl 3 rfl) ?_
      refine lv_aload_n hx hb dX6_loadOrders_39 rfl (lv_at hl 0 rfl) ?_
      refine lv_aload_n hx hb dX6_loadOrders_40 rfl (lv_at hl 1 rfl) ?_
      refine lv_iload_n hx hb dX6_loadOrders_41 rfl (lv_at hl 3 rfl) ?_
      refine lv_iconst (v := (nI 0)) hx hb dX6_loadOrders_42 (by decide) ?_
      refine rc_V (As := [.ref a1, .int w3, .int (nI 0)]) (rest := [.int w3, .ref o13]) X h k12 (by decide) rfl (meX6_plateFor l G _ _ _ _ _ _ hw) gV_X6_165 rfl rfl hdV_X6_plateFor rfl ⟨Nat.le_of_ble_eq_true rfl, Nat.le_of_ble_eq_true rfl⟩ hl.1 rfl (Nat.le_of_ble_eq_true rfl) ⟨Nat.le_of_ble_eq_true rfl, Nat.le_of_ble_eq_true rfl⟩ dX6_loadOrders_43 (fun x15 S14 H locs hw h => ?_)
      refine lv_aload_n hx hb dX6_loadOrders_46 rfl (lv_at hl 0 rfl) ?_
      refine lv_aload_n hx hb dX6_loadOrders_47 rfl (lv_at hl 1 rfl) ?_
      refine lv_iload_n hx hb dX6_loadOrders_48 rfl (lv_at hl 3 rfl) ?_
      refine lv_iconst (v := (nI 1)) hx hb dX6_loadOrders_49 (by decide) ?_
      obtain ⟨k17, hw⟩ := hw
      refine rc_V (As := [.ref a1, .int w3, .int (nI 1)]) (rest := [.int x15, .int w3, .ref o13]) X h k17 (by decide) rfl (meX6_plateFor l G _ _ _ _ _ _ hw) gV_X6_165 rfl rfl hdV_X6_plateFor rfl ⟨Nat.le_of_ble_eq_true rfl, Nat.le_of_ble_eq_true rfl⟩ hl.1 rfl (Nat.le_of_ble_eq_true rfl) ⟨Nat.le_of_ble_eq_true rfl, Nat.le_of_ble_eq_true rfl⟩ dX6_loadOrders_50 (fun x18 S16 H locs hw h => ?_)
      obtain ⟨k20, hw⟩ := hw
      refine rc_V (As := [.int w3, .int x15, .int x18]) (rest := []) X h k20 (by decide) rfl (meX3_setSheet l G _ _ _ _ _ _ hw) gV_X6_316 rfl rfl hdV_X3_setSheet rfl ⟨Nat.le_of_ble_eq_true rfl, Nat.le_of_ble_eq_true rfl⟩ hl.1 rfl (Nat.le_of_ble_eq_true rfl) ⟨Nat.le_of_ble_eq_true rfl, Nat.le_of_ble_eq_true rfl⟩ dX6_loadOrders_53 (fun u21 S19 H locs hw h => ?_)
      obtain ⟨x22, ex22⟩ : ∃ y : Int32, y = (w3 + (nI 1)) := ⟨_, rfl⟩
      have hw := hw x22 ex22
      refine lv_iinc (v := x22) (lv' := [(3, .int x22), (0, .ref a0), (1, .ref a1), (2, .int x3)]) hx hb dX6_loadOrders_56 hl (k := 3) rfl (by rw [ex22]; rfl) (by decide) rfl (fun ls hl => ?_)
      refine lv_goto (tgt := 29) hx hb dX6_loadOrders_59 (by decide) ?_
      exact ih _ _ hw _ _ _ h (lv_sub hl [1, 2, 3, 0] rfl)
def wpX6_loadOrders (S : Mem) (a0 : Nat) (a1 : Nat) (post : Unit → Mem → Prop) : Prop := isK S a1 1 ∧ (wpX1_sheetCount S a1 (fun x3 S1 => isK S1 a0 6 ∧ (∃ o5, mR S1 a0 4 = some o5 ∧ (∃ o6, mR S1 a0 2 = some o6 ∧ (isK S1 o6 5 ∧ (isK S1 o5 3 ∧ (wpX3_start S1 o5 x3 (mI S1 o6 0) (mI S1 o6 1) (fun u10 S8 => ∃ m, wlX6_loadOrders_29 a0 a1 x3 post m (nI 0) S8))))))))
set_option maxHeartbeats 4000000 in
set_option maxRecDepth 100000 in
theorem meX6_loadOrders (l : Launch) (G : GT) (S : Mem) (a0 : Nat) (a1 : Nat) (post : Unit → Mem → Prop) (hw : wpX6_loadOrders S a0 a1 post) : CN emV l yX6_loadOrders (wsU yX6_loadOrders cX6_loadOrders 4 none) rmX6_loadOrders 0 0 G [.ref a0, .ref a1] S post := by
  refine cn_open RX6 rfl (by decide +kernel) (Nat.le_of_ble_eq_true rfl) ?_
  intro p e s m args below meth c A X h hr hin ls hl
  have hl : lv_has ls 4 [(0, .ref a0), (1, .ref a1)] := hl
  have hx := X.1
  have hb := X.2.1
  have hown := X.2.2.2.1
  unfold wpX6_loadOrders at hw
  refine lv_aload_n hx hb dX6_loadOrders_0 rfl (lv_at hl 1 rfl) ?_
  obtain ⟨k2, hw⟩ := hw
  refine rc_V (As := []) (rest := []) X h k2 (by decide) rfl (meX1_sheetCount l G _ _ _ hw) gV_X6_124 rfl rfl hdV_X1_sheetCount rfl ⟨Nat.le_of_ble_eq_true rfl, Nat.le_of_ble_eq_true rfl⟩ hl.1 rfl (Nat.le_of_ble_eq_true rfl) ⟨Nat.le_of_ble_eq_true rfl, Nat.le_of_ble_eq_true rfl⟩ dX6_loadOrders_1 (fun x3 S1 H locs hw h => ?_)
  refine lv_istore_n (lv' := [(2, .int x3), (0, .ref a0), (1, .ref a1)]) hx hb dX6_loadOrders_4 rfl hl (by decide) rfl (fun ls hl => ?_)
  refine lv_aload_n hx hb dX6_loadOrders_5 rfl (lv_at hl 1 rfl) ?_
  obtain ⟨k4, hw⟩ := hw
  obtain ⟨o5, eo5, hw⟩ := hw
  refine r_getR X h k4 4 eo5  (by decide) rfl inX6 (by decide) rfl q124 rfl dX6_loadOrders_6 ?_
  refine lv_iload_n hx hb dX6_loadOrders_9 rfl (lv_at hl 0 rfl) ?_
  refine lv_aload_n hx hb dX6_loadOrders_10 rfl (lv_at hl 1 rfl) ?_
  obtain ⟨o6, eo6, hw⟩ := hw
  refine r_getR X h k4 2 eo6  (by decide) rfl inX6 (by decide) rfl q122 rfl dX6_loadOrders_11 ?_
  obtain ⟨k7, hw⟩ := hw
  refine r_getIN X h k7 0  (by decide) rfl inX5 (by decide) rfl q74 rfl dX6_loadOrders_14 ?_
  refine lv_aload_n hx hb dX6_loadOrders_17 rfl (lv_at hl 1 rfl) ?_
  refine r_getR X h k4 2 eo6  (by decide) rfl inX6 (by decide) rfl q122 rfl dX6_loadOrders_18 ?_
  refine r_getIN X h k7 1  (by decide) rfl inX5 (by decide) rfl q76 rfl dX6_loadOrders_21 ?_
  obtain ⟨k9, hw⟩ := hw
  refine rc_V (As := [.int x3, .int (mI S1 o6 0), .int (mI S1 o6 1)]) (rest := []) X h k9 (by decide) rfl (meX3_start l G _ _ _ _ _ _ hw) gV_X6_312 rfl rfl hdV_X3_start rfl ⟨Nat.le_of_ble_eq_true rfl, Nat.le_of_ble_eq_true rfl⟩ hl.1 rfl (Nat.le_of_ble_eq_true rfl) ⟨Nat.le_of_ble_eq_true rfl, Nat.le_of_ble_eq_true rfl⟩ dX6_loadOrders_24 (fun u10 S8 H locs hw h => ?_)
  refine lv_iconst (v := (nI 0)) hx hb dX6_loadOrders_27 (by decide) ?_
  refine lv_istore_n (lv' := [(3, .int (nI 0)), (2, .int x3), (0, .ref a0), (1, .ref a1)]) hx hb dX6_loadOrders_28 rfl hl (by decide) rfl (fun ls hl => ?_)
  obtain ⟨n23, hw⟩ := hw
  exact llX6_loadOrders_29  X hr _ _ _ _ n23 _ _ hw _ _ _ h (lv_sub hl [2, 3, 1, 0] rfl)
abbrev rmX3_change : Room := { frames := 1, cells := 0, slots := 0, locals := 21 }
def wpX3_change (S : Mem) (a0 : Nat) (a1 : Nat) (p2 : Int32) (p3 : Int32) (post : Int32 → Mem → Prop) : Prop := wpX6_at S a0 p2 (fun x2 S1 => wpX6_at S1 a0 p3 (fun x4 S3 => (¬ x2 = x4 → (wpX6_at S3 a1 p2 (fun x7 S6 => wpX6_at S6 a1 p3 (fun x9 S8 => (¬ x7 = x9 → (post ((nI 20) + (nI 20)) S8)) ∧ (x7 = x9 → (post ((nI 20) + (nI 0)) S8)))))) ∧ (x2 = x4 → (wpX6_at S3 a1 p2 (fun x12 S11 => wpX6_at S11 a1 p3 (fun x14 S13 => (¬ x12 = x14 → (post ((nI 0) + (nI 20)) S13)) ∧ (x12 = x14 → (post ((nI 0) + (nI 0)) S13))))))))
set_option maxHeartbeats 4000000 in
set_option maxRecDepth 100000 in
theorem meX3_change (l : Launch) (G : GT) (S : Mem) (a0 : Nat) (a1 : Nat) (p2 : Int32) (p3 : Int32) (post : Int32 → Mem → Prop) (hw : wpX3_change S a0 a1 p2 p3 post) : CN emI l yX3_change (wsU yX3_change cX3_change 6 (some .int)) rmX3_change 0 0 G [.ref a0, .ref a1, .int p2, .int p3] S post := by
  refine cn_open RX3 rfl (by decide +kernel) (Nat.le_of_ble_eq_true rfl) ?_
  intro p e s m args below meth c A X h hr hin ls hl
  have hl : lv_has ls 6 [(0, .ref a0), (1, .ref a1), (2, .int p2), (3, .int p3)] := hl
  have hx := X.1
  have hb := X.2.1
  have hown := X.2.2.2.1
  unfold wpX3_change at hw
  refine lv_aload_n hx hb dX3_change_0 rfl (lv_at hl 0 rfl) ?_
  refine lv_iload_n hx hb dX3_change_1 rfl (lv_at hl 2 rfl) ?_
  refine rc_SN (As := [.ref a0, .int p2]) (rest := []) X h (meX6_at l G _ _ _ _ hw) gU_X3_38 q795 q14 q312 rfl rfl hdS_X6_at rfl ⟨Nat.le_of_ble_eq_true rfl, Nat.le_of_ble_eq_true rfl⟩ hl.1 rfl (Nat.le_of_ble_eq_true rfl) ⟨Nat.le_of_ble_eq_true rfl, Nat.le_of_ble_eq_true rfl⟩ dX3_change_2 (fun x2 S1 H locs hw h => ?_)
  refine lv_aload_n hx hb dX3_change_5 rfl (lv_at hl 0 rfl) ?_
  refine lv_iload_n hx hb dX3_change_6 rfl (lv_at hl 3 rfl) ?_
  refine rc_SN (As := [.ref a0, .int p3]) (rest := [.int x2]) X h (meX6_at l G _ _ _ _ hw) gU_X3_38 q795 q14 q312 rfl rfl hdS_X6_at rfl ⟨Nat.le_of_ble_eq_true rfl, Nat.le_of_ble_eq_true rfl⟩ hl.1 rfl (Nat.le_of_ble_eq_true rfl) ⟨Nat.le_of_ble_eq_true rfl, Nat.le_of_ble_eq_true rfl⟩ dX3_change_7 (fun x4 S3 H locs hw h => ?_)
  refine lv_icmp_ne (tgt := 17) hx hb dX3_change_10 (by decide) (fun c5 => ?_) (fun c5 => ?_)
  · have hw := hw.1 c5
    refine lv_bipush (v := (nI 20)) hx hb dX3_change_17 (by decide) ?_
    refine lv_istore (lv' := [(4, .int (nI 20)), (0, .ref a0), (1, .ref a1), (2, .int p2), (3, .int p3)]) hx hb dX3_change_19 hl (by decide) rfl (fun ls hl => ?_)
    refine lv_aload_n hx hb dX3_change_21 rfl (lv_at hl 2 rfl) ?_
    refine lv_iload_n hx hb dX3_change_22 rfl (lv_at hl 3 rfl) ?_
    refine rc_SN (As := [.ref a1, .int p2]) (rest := []) X h (meX6_at l G _ _ _ _ hw) gU_X3_38 q795 q14 q312 rfl rfl hdS_X6_at rfl ⟨Nat.le_of_ble_eq_true rfl, Nat.le_of_ble_eq_true rfl⟩ hl.1 rfl (Nat.le_of_ble_eq_true rfl) ⟨Nat.le_of_ble_eq_true rfl, Nat.le_of_ble_eq_true rfl⟩ dX3_change_23 (fun x7 S6 H locs hw h => ?_)
    refine lv_aload_n hx hb dX3_change_26 rfl (lv_at hl 2 rfl) ?_
    refine lv_iload_n hx hb dX3_change_27 rfl (lv_at hl 4 rfl) ?_
    refine rc_SN (As := [.ref a1, .int p3]) (rest := [.int x7]) X h (meX6_at l G _ _ _ _ hw) gU_X3_38 q795 q14 q312 rfl rfl hdS_X6_at rfl ⟨Nat.le_of_ble_eq_true rfl, Nat.le_of_ble_eq_true rfl⟩ hl.1 rfl (Nat.le_of_ble_eq_true rfl) ⟨Nat.le_of_ble_eq_true rfl, Nat.le_of_ble_eq_true rfl⟩ dX3_change_28 (fun x9 S8 H locs hw h => ?_)
    refine lv_icmp_ne (tgt := 38) hx hb dX3_change_31 (by decide) (fun c10 => ?_) (fun c10 => ?_)
    · have hw := hw.1 c10
      refine lv_bipush (v := (nI 20)) hx hb dX3_change_38 (by decide) ?_
      refine lv_istore (lv' := [(5, .int (nI 20)), (4, .int (nI 20)), (0, .ref a0), (1, .ref a1), (2, .int p2), (3, .int p3)]) hx hb dX3_change_40 hl (by decide) rfl (fun ls hl => ?_)
      refine lv_iload hx hb dX3_change_42 (lv_at hl 1 rfl) ?_
      refine lv_iload hx hb dX3_change_44 (lv_at hl 0 rfl) ?_
      refine lv_iadd hx hb dX3_change_46 ?_
      exact (en_i X h hr hw (Nat.le_of_ble_eq_true rfl) (Nat.le_of_ble_eq_true rfl) dX3_change_47)
    · have hw := hw.2 c10
      refine lv_iconst (v := (nI 0)) hx hb dX3_change_34 (by decide) ?_
      refine lv_goto (tgt := 40) hx hb dX3_change_35 (by decide) ?_
      refine lv_istore (lv' := [(5, .int (nI 0)), (4, .int (nI 20)), (0, .ref a0), (1, .ref a1), (2, .int p2), (3, .int p3)]) hx hb dX3_change_40 hl (by decide) rfl (fun ls hl => ?_)
      refine lv_iload hx hb dX3_change_42 (lv_at hl 1 rfl) ?_
      refine lv_iload hx hb dX3_change_44 (lv_at hl 0 rfl) ?_
      refine lv_iadd hx hb dX3_change_46 ?_
      exact (en_i X h hr hw (Nat.le_of_ble_eq_true rfl) (Nat.le_of_ble_eq_true rfl) dX3_change_47)
  · have hw := hw.2 c5
    refine lv_iconst (v := (nI 0)) hx hb dX3_change_13 (by decide) ?_
    refine lv_goto (tgt := 19) hx hb dX3_change_14 (by decide) ?_
    refine lv_istore (lv' := [(4, .int (nI 0)), (0, .ref a0), (1, .ref a1), (2, .int p2), (3, .int p3)]) hx hb dX3_change_19 hl (by decide) rfl (fun ls hl => ?_)
    refine lv_aload_n hx hb dX3_change_21 rfl (lv_at hl 2 rfl) ?_
    refine lv_iload_n hx hb dX3_change_22 rfl (lv_at hl 3 rfl) ?_
    refine rc_SN (As := [.ref a1, .int p2]) (rest := []) X h (meX6_at l G _ _ _ _ hw) gU_X3_38 q795 q14 q312 rfl rfl hdS_X6_at rfl ⟨Nat.le_of_ble_eq_true rfl, Nat.le_of_ble_eq_true rfl⟩ hl.1 rfl (Nat.le_of_ble_eq_true rfl) ⟨Nat.le_of_ble_eq_true rfl, Nat.le_of_ble_eq_true rfl⟩ dX3_change_23 (fun x12 S11 H locs hw h => ?_)
    refine lv_aload_n hx hb dX3_change_26 rfl (lv_at hl 2 rfl) ?_
    refine lv_iload_n hx hb dX3_change_27 rfl (lv_at hl 4 rfl) ?_
    refine rc_SN (As := [.ref a1, .int p3]) (rest := [.int x12]) X h (meX6_at l G _ _ _ _ hw) gU_X3_38 q795 q14 q312 rfl rfl hdS_X6_at rfl ⟨Nat.le_of_ble_eq_true rfl, Nat.le_of_ble_eq_true rfl⟩ hl.1 rfl (Nat.le_of_ble_eq_true rfl) ⟨Nat.le_of_ble_eq_true rfl, Nat.le_of_ble_eq_true rfl⟩ dX3_change_28 (fun x14 S13 H locs hw h => ?_)
    refine lv_icmp_ne (tgt := 38) hx hb dX3_change_31 (by decide) (fun c15 => ?_) (fun c15 => ?_)
    · have hw := hw.1 c15
      refine lv_bipush (v := (nI 20)) hx hb dX3_change_38 (by decide) ?_
      refine lv_istore (lv' := [(5, .int (nI 20)), (4, .int (nI 0)), (0, .ref a0), (1, .ref a1), (2, .int p2), (3, .int p3)]) hx hb dX3_change_40 hl (by decide) rfl (fun ls hl => ?_)
      refine lv_iload hx hb dX3_change_42 (lv_at hl 1 rfl) ?_
      refine lv_iload hx hb dX3_change_44 (lv_at hl 0 rfl) ?_
      refine lv_iadd hx hb dX3_change_46 ?_
      exact (en_i X h hr hw (Nat.le_of_ble_eq_true rfl) (Nat.le_of_ble_eq_true rfl) dX3_change_47)
    · have hw := hw.2 c15
      refine lv_iconst (v := (nI 0)) hx hb dX3_change_34 (by decide) ?_
      refine lv_goto (tgt := 40) hx hb dX3_change_35 (by decide) ?_
      refine lv_istore (lv' := [(5, .int (nI 0)), (4, .int (nI 0)), (0, .ref a0), (1, .ref a1), (2, .int p2), (3, .int p3)]) hx hb dX3_change_40 hl (by decide) rfl (fun ls hl => ?_)
      refine lv_iload hx hb dX3_change_42 (lv_at hl 1 rfl) ?_
      refine lv_iload hx hb dX3_change_44 (lv_at hl 0 rfl) ?_
      refine lv_iadd hx hb dX3_change_46 ?_
      exact (en_i X h hr hw (Nat.le_of_ble_eq_true rfl) (Nat.le_of_ble_eq_true rfl) dX3_change_47)
abbrev rmX3_leastOfSet : Room := { frames := 2, cells := 0, slots := 0, locals := 46 }
def wlX3_leastOfSet_34 (a0 : Nat) (p1 : Int32) (p2 : Int32) (x1 : Int32) (post : Int32 → Mem → Prop)  : Nat → Int32 → Int32 → Mem → Prop
  | 0 => fun _ _ _ => False
  | n + 1 => fun w4 w5 S => isK S a0 3 ∧ (((mI S a0 3) ≤ w5 → (post w4 S)) ∧ (¬ (mI S a0 3) ≤ w5 → (((x1 &&& ((nI 1) <<< (w5 &&& 31))) = 0 → (∀ x6 : Int32, x6 = (w5 + (nI 1)) → (wlX3_leastOfSet_34 a0 p1 p2 x1 post n w4 x6 S))) ∧ (¬ (x1 &&& ((nI 1) <<< (w5 &&& 31))) = 0 → (∃ o7, mR S a0 2 = some o7 ∧ (wpX6_at S o7 ((x1 * (nI 8)) + w5) (fun x9 S8 => isK S8 a0 3 ∧ (∃ o11, mR S8 a0 0 = some o11 ∧ (∃ o12, mR S8 a0 1 = some o12 ∧ (wpX3_change S8 o11 o12 w5 p2 (fun x14 S13 => ∀ x15 : Int32, x15 = (x9 + x14) → (∀ x16 : Int32, x16 = (if x15 < w4 then x15 else w4) → (∀ x17 : Int32, x17 = (w5 + (nI 1)) → (wlX3_leastOfSet_34 a0 p1 p2 x1 post n x16 x17 S13))))))))))))))
set_option maxHeartbeats 4000000 in
set_option maxRecDepth 100000 in
theorem llX3_leastOfSet_34 {p : Program} {l : Launch} {e : Env} {s : State} {m : MethodId} {args : Array Value} {below : List Frame} {meth : Method} {c : Code} {G : GT} {A : Nat → Prop} (X : Cx p s m args meth c cX3_leastOfSet 7 RX3 G A) (hr : meth.sig.returnType = (some .int)) (a0 : Nat) (p1 : Int32) (p2 : Int32) (x1 : Int32) (post : Int32 → Mem → Prop)   : ∀ (n : Nat) (w4 : Int32) (w5 : Int32) (S : Mem), wlX3_leastOfSet_34 a0 p1 p2 x1 post n w4 w5 S → ∀ (H : Heap) (locs : List Loc) (ls : Array Slot), Hx G A s.heap H locs S → lv_has ls 7 [(0, .ref a0), (1, .int p1), (2, .int p2), (3, .int x1), (4, .int w4), (5, .int w5)] → W p l e rmX3_leastOfSet s m args below meth c H locs 0 0 (MQ below (QN emI post G A) args s 0 0 A) (F0 m 34 ls []) := by
  have hx := X.1
  have hb := X.2.1
  have hown := X.2.2.2.1
  intro n
  induction n with
  | zero =>
    intro _ _ _ hw
    exact hw.elim
  | succ n ih =>
    intro w4 w5 S hw H locs ls h hl
    refine lv_iload hx hb dX3_leastOfSet_34 (lv_at hl 5 rfl) ?_
    refine lv_aload_n hx hb dX3_leastOfSet_36 rfl (lv_at hl 0 rfl) ?_
    obtain ⟨k3, hw⟩ := hw
    refine r_getI X h k3 3  (by decide) rfl inX3 (by decide) rfl q108 rfl dX3_leastOfSet_37 ?_
    refine lv_icmp_ge (tgt := 98) hx hb dX3_leastOfSet_40 (by decide) (fun c4 => ?_) (fun c4 => ?_)
    · have hw := hw.1 c4
      refine lv_iload hx hb dX3_leastOfSet_98 (lv_at hl 4 rfl) ?_
      exact (en_i X h hr hw (Nat.le_of_ble_eq_true rfl) (Nat.le_of_ble_eq_true rfl) dX3_leastOfSet_100)
    · have hw := hw.2 c4
      refine lv_iload_n hx hb dX3_leastOfSet_43 rfl (lv_at hl 3 rfl) ?_
      refine lv_iconst (v := (nI 1)) hx hb dX3_leastOfSet_44 (by decide) ?_
      refine lv_iload hx hb dX3_leastOfSet_45 (lv_at hl 5 rfl) ?_
      refine lv_ishl hx hb dX3_leastOfSet_47 ?_
      refine lv_iand hx hb dX3_leastOfSet_48 ?_
      refine lv_if_eq (tgt := 92) hx hb dX3_leastOfSet_49 (by decide) (fun c5 => ?_) (fun c5 => ?_)
      · have hw := hw.1 c5
        obtain ⟨x6, ex6⟩ : ∃ y : Int32, y = (w5 + (nI 1)) := ⟨_, rfl⟩
        have hw := hw x6 ex6
        refine lv_iinc (v := x6) (lv' := [(5, .int x6), (0, .ref a0), (1, .int p1), (2, .int p2), (3, .int x1), (4, .int w4)]) hx hb dX3_leastOfSet_92 hl (k := 5) rfl (by rw [ex6]; rfl) (by decide) rfl (fun ls hl => ?_)
        refine lv_goto (tgt := 34) hx hb dX3_leastOfSet_95 (by decide) ?_
        exact ih _ _ _ hw _ _ _ h (lv_sub hl [1, 2, 3, 4, 5, 0] rfl)
      · have hw := hw.2 c5
        refine lv_aload_n hx hb dX3_leastOfSet_52 rfl (lv_at hl 0 rfl) ?_
        obtain ⟨o7, eo7, hw⟩ := hw
        refine r_getR X h k3 2 eo7  (by decide) rfl inX3 (by decide) rfl q107 rfl dX3_leastOfSet_53 ?_
        refine lv_iload_n hx hb dX3_leastOfSet_56 rfl (lv_at hl 3 rfl) ?_
        refine lv_bipush (v := (nI 8)) hx hb dX3_leastOfSet_57 (by decide) ?_
        refine lv_imul hx hb dX3_leastOfSet_59 ?_
        refine lv_iload hx hb dX3_leastOfSet_60 (lv_at hl 5 rfl) ?_
        refine lv_iadd hx hb dX3_leastOfSet_62 ?_
        refine rc_SN (As := [.ref o7, .int ((x1 * (nI 8)) + w5)]) (rest := []) X h (meX6_at l G _ _ _ _ hw) gU_X3_38 q795 q14 q312 rfl rfl hdS_X6_at rfl ⟨Nat.le_of_ble_eq_true rfl, Nat.le_of_ble_eq_true rfl⟩ hl.1 rfl (Nat.le_of_ble_eq_true rfl) ⟨Nat.le_of_ble_eq_true rfl, Nat.le_of_ble_eq_true rfl⟩ dX3_leastOfSet_63 (fun x9 S8 H locs hw h => ?_)
        refine lv_aload_n hx hb dX3_leastOfSet_66 rfl (lv_at hl 0 rfl) ?_
        obtain ⟨k10, hw⟩ := hw
        obtain ⟨o11, eo11, hw⟩ := hw
        refine r_getR X h k10 0 eo11  (by decide) rfl inX3 (by decide) rfl q105 rfl dX3_leastOfSet_67 ?_
        refine lv_aload_n hx hb dX3_leastOfSet_70 rfl (lv_at hl 0 rfl) ?_
        obtain ⟨o12, eo12, hw⟩ := hw
        refine r_getR X h k10 1 eo12  (by decide) rfl inX3 (by decide) rfl q106 rfl dX3_leastOfSet_71 ?_
        refine lv_iload hx hb dX3_leastOfSet_74 (lv_at hl 5 rfl) ?_
        refine lv_iload_n hx hb dX3_leastOfSet_76 rfl (lv_at hl 2 rfl) ?_
        refine rc_S (As := [.ref o11, .ref o12, .int w5, .int p2]) (rest := [.int x9]) X h (meX3_change l G _ _ _ _ _ _ hw) gS_X3_46 rfl rfl hdS_X3_change rfl ⟨Nat.le_of_ble_eq_true rfl, Nat.le_of_ble_eq_true rfl⟩ hl.1 rfl (Nat.le_of_ble_eq_true rfl) ⟨Nat.le_of_ble_eq_true rfl, Nat.le_of_ble_eq_true rfl⟩ dX3_leastOfSet_77 (fun x14 S13 H locs hw h => ?_)
        refine lv_iadd hx hb dX3_leastOfSet_80 ?_
        refine lv_topi (fun x15 ex15 => ?_)
        have hw := hw x15 ex15
        refine lv_istore (lv' := [(6, .int x15), (0, .ref a0), (1, .int p1), (2, .int p2), (3, .int x1), (4, .int w4), (5, .int w5)]) hx hb dX3_leastOfSet_81 hl (by decide) rfl (fun ls hl => ?_)
        refine lv_iload hx hb dX3_leastOfSet_83 (lv_at hl 5 rfl) ?_
        refine lv_iload hx hb dX3_leastOfSet_85 (lv_at hl 0 rfl) ?_
        refine r_min X hl.1 q774 q775 q30 q776 ⟨Nat.le_of_ble_eq_true rfl, Nat.le_of_ble_eq_true rfl⟩ ⟨Nat.le_of_ble_eq_true rfl, Nat.le_of_ble_eq_true rfl⟩ dX3_leastOfSet_87 ?_
        refine lv_topi (fun x16 ex16 => ?_)
        have hw := hw x16 ex16
        refine lv_istore (lv' := [(4, .int x16), (6, .int x15), (0, .ref a0), (1, .int p1), (2, .int p2), (3, .int x1), (5, .int w5)]) hx hb dX3_leastOfSet_90 hl (by decide) rfl (fun ls hl => ?_)
        obtain ⟨x17, ex17⟩ : ∃ y : Int32, y = (w5 + (nI 1)) := ⟨_, rfl⟩
        have hw := hw x17 ex17
        refine lv_iinc (v := x17) (lv' := [(5, .int x17), (4, .int x16), (6, .int x15), (0, .ref a0), (1, .int p1), (2, .int p2), (3, .int x1)]) hx hb dX3_leastOfSet_92 hl (k := 6) rfl (by rw [ex17]; rfl) (by decide) rfl (fun ls hl => ?_)
        refine lv_goto (tgt := 34) hx hb dX3_leastOfSet_95 (by decide) ?_
        exact ih _ _ _ hw _ _ _ h (lv_sub hl [3, 4, 5, 6, 1, 0] rfl)
def wpX3_leastOfSet (S : Mem) (a0 : Nat) (p1 : Int32) (p2 : Int32) (post : Int32 → Mem → Prop) : Prop := ∀ x1 : Int32, x1 = (p1 &&& (((nI 1) <<< (p2 &&& 31)) ^^^ (-1 : Int32))) → ((¬ x1 = 0 → (∃ m, wlX3_leastOfSet_34 a0 p1 p2 x1 post m (1000000 : Int32) (nI 0) S)) ∧ (x1 = 0 → (isK S a0 3 ∧ (∃ o20, mR S a0 0 = some o20 ∧ (∃ o21, mR S a0 1 = some o21 ∧ (wpX3_change S o20 o21 (nI 8) p2 (fun x23 S22 => post x23 S22)))))))
set_option maxHeartbeats 4000000 in
set_option maxRecDepth 100000 in
theorem meX3_leastOfSet (l : Launch) (G : GT) (S : Mem) (a0 : Nat) (p1 : Int32) (p2 : Int32) (post : Int32 → Mem → Prop) (hw : wpX3_leastOfSet S a0 p1 p2 post) : CN emI l yX3_leastOfSet (wsU yX3_leastOfSet cX3_leastOfSet 7 (some .int)) rmX3_leastOfSet 0 0 G [.ref a0, .int p1, .int p2] S post := by
  refine cn_open RX3 rfl (by decide +kernel) (Nat.le_of_ble_eq_true rfl) ?_
  intro p e s m args below meth c A X h hr hin ls hl
  have hl : lv_has ls 7 [(0, .ref a0), (1, .int p1), (2, .int p2)] := hl
  have hx := X.1
  have hb := X.2.1
  have hown := X.2.2.2.1
  unfold wpX3_leastOfSet at hw
  refine lv_iload_n hx hb dX3_leastOfSet_0 rfl (lv_at hl 1 rfl) ?_
  refine lv_iconst (v := (nI 1)) hx hb dX3_leastOfSet_1 (by decide) ?_
  refine lv_iload_n hx hb dX3_leastOfSet_2 rfl (lv_at hl 2 rfl) ?_
  refine lv_ishl hx hb dX3_leastOfSet_3 ?_
  refine lv_iconst (v := (-1 : Int32)) hx hb dX3_leastOfSet_4 (by decide) ?_
  refine lv_ixor hx hb dX3_leastOfSet_5 ?_
  refine lv_iand hx hb dX3_leastOfSet_6 ?_
  refine lv_topi (fun x1 ex1 => ?_)
  have hw := hw x1 ex1
  refine lv_istore_n (lv' := [(3, .int x1), (0, .ref a0), (1, .int p1), (2, .int p2)]) hx hb dX3_leastOfSet_7 rfl hl (by decide) rfl (fun ls hl => ?_)
  refine lv_iload_n hx hb dX3_leastOfSet_8 rfl (lv_at hl 0 rfl) ?_
  refine lv_if_ne (tgt := 27) hx hb dX3_leastOfSet_9 (by decide) (fun c2 => ?_) (fun c2 => ?_)
  · have hw := hw.1 c2
    refine lv_ldc hx hb hown (X.hts q796) dX3_leastOfSet_27 ?_
    refine lv_istore (lv' := [(4, .int (1000000 : Int32)), (3, .int x1), (0, .ref a0), (1, .int p1), (2, .int p2)]) hx hb dX3_leastOfSet_29 hl (by decide) rfl (fun ls hl => ?_)
    refine lv_iconst (v := (nI 0)) hx hb dX3_leastOfSet_31 (by decide) ?_
    refine lv_istore (lv' := [(5, .int (nI 0)), (4, .int (1000000 : Int32)), (3, .int x1), (0, .ref a0), (1, .int p1), (2, .int p2)]) hx hb dX3_leastOfSet_32 hl (by decide) rfl (fun ls hl => ?_)
    obtain ⟨n18, hw⟩ := hw
    exact llX3_leastOfSet_34  X hr _ _ _ _ _ n18 _ _ _ hw _ _ _ h (lv_sub hl [3, 4, 5, 2, 1, 0] rfl)
  · have hw := hw.2 c2
    refine lv_aload_n hx hb dX3_leastOfSet_12 rfl (lv_at hl 1 rfl) ?_
    obtain ⟨k19, hw⟩ := hw
    obtain ⟨o20, eo20, hw⟩ := hw
    refine r_getR X h k19 0 eo20  (by decide) rfl inX3 (by decide) rfl q105 rfl dX3_leastOfSet_13 ?_
    refine lv_aload_n hx hb dX3_leastOfSet_16 rfl (lv_at hl 1 rfl) ?_
    obtain ⟨o21, eo21, hw⟩ := hw
    refine r_getR X h k19 1 eo21  (by decide) rfl inX3 (by decide) rfl q106 rfl dX3_leastOfSet_17 ?_
    refine lv_bipush (v := (nI 8)) hx hb dX3_leastOfSet_20 (by decide) ?_
    refine lv_iload_n hx hb dX3_leastOfSet_22 rfl (lv_at hl 3 rfl) ?_
    refine rc_S (As := [.ref o20, .ref o21, .int (nI 8), .int p2]) (rest := []) X h (meX3_change l G _ _ _ _ _ _ hw) gS_X3_46 rfl rfl hdS_X3_change rfl ⟨Nat.le_of_ble_eq_true rfl, Nat.le_of_ble_eq_true rfl⟩ hl.1 rfl (Nat.le_of_ble_eq_true rfl) ⟨Nat.le_of_ble_eq_true rfl, Nat.le_of_ble_eq_true rfl⟩ dX3_leastOfSet_23 (fun x23 S22 H locs hw h => ?_)
    exact (en_i X h hr hw (Nat.le_of_ble_eq_true rfl) (Nat.le_of_ble_eq_true rfl) dX3_leastOfSet_26)
abbrev rmX3_leastForAllSets : Room := { frames := 3, cells := 0, slots := 0, locals := 72 }
def wlX3_leastForAllSets_70 (a0 : Nat) (x2 : Int32) (post : Int32 → Mem → Prop) (J11 : Int32 → Mem → Prop) : Nat → Int32 → Int32 → Mem → Prop
  | 0 => fun _ _ _ => False
  | n + 1 => fun w2 w3 S => isK S a0 3 ∧ (((mI S a0 3) ≤ w3 → (post w2 S)) ∧ (¬ (mI S a0 3) ≤ w3 → (∃ o6, mR S a0 2 = some o6 ∧ (wpX6_at S o6 ((x2 * (nI 8)) + w3) (fun x8 S7 => ∀ x9 : Int32, x9 = (if x8 < w2 then x8 else w2) → (∀ x10 : Int32, x10 = (w3 + (nI 1)) → (wlX3_leastForAllSets_70 a0 x2 post J11 n x9 x10 S7)))))))
set_option maxHeartbeats 4000000 in
set_option maxRecDepth 100000 in
theorem llX3_leastForAllSets_70 {p : Program} {l : Launch} {e : Env} {s : State} {m : MethodId} {args : Array Value} {below : List Frame} {meth : Method} {c : Code} {G : GT} {A : Nat → Prop} (X : Cx p s m args meth c cX3_leastForAllSets 4 RX3 G A) (hr : meth.sig.returnType = (some .int)) (a0 : Nat) (x2 : Int32) (post : Int32 → Mem → Prop) (J11 : Int32 → Mem → Prop) (hJ11 : ∀ (w2 : Int32) (S : Mem), J11 w2 S → ∀ (H : Heap) (locs : List Loc) (ls : Array Slot), Hx G A s.heap H locs S → lv_has ls 4 [(0, .ref a0), (1, .int x2), (2, .int w2)] → W p l e rmX3_leastForAllSets s m args below meth c H locs 0 0 (MQ below (QN emI post G A) args s 0 0 A) (F0 m 11 ls [])) : ∀ (n : Nat) (w2 : Int32) (w3 : Int32) (S : Mem), wlX3_leastForAllSets_70 a0 x2 post J11 n w2 w3 S → ∀ (H : Heap) (locs : List Loc) (ls : Array Slot), Hx G A s.heap H locs S → lv_has ls 4 [(0, .ref a0), (1, .int x2), (2, .int w2), (3, .int w3)] → W p l e rmX3_leastForAllSets s m args below meth c H locs 0 0 (MQ below (QN emI post G A) args s 0 0 A) (F0 m 70 ls []) := by
  have hx := X.1
  have hb := X.2.1
  have hown := X.2.2.2.1
  intro n
  induction n with
  | zero =>
    intro _ _ _ hw
    exact hw.elim
  | succ n ih =>
    intro w2 w3 S hw H locs ls h hl
    refine lv_iload_n hx hb dX3_leastForAllSets_70 rfl (lv_at hl 3 rfl) ?_
    refine lv_aload_n hx hb dX3_leastForAllSets_71 rfl (lv_at hl 0 rfl) ?_
    obtain ⟨k4, hw⟩ := hw
    refine r_getI X h k4 3  (by decide) rfl inX3 (by decide) rfl q108 rfl dX3_leastForAllSets_72 ?_
    refine lv_icmp_ge (tgt := 102) hx hb dX3_leastForAllSets_75 (by decide) (fun c5 => ?_) (fun c5 => ?_)
    · have hw := hw.1 c5
      refine lv_iload_n hx hb dX3_leastForAllSets_102 rfl (lv_at hl 2 rfl) ?_
      exact (en_i X h hr hw (Nat.le_of_ble_eq_true rfl) (Nat.le_of_ble_eq_true rfl) dX3_leastForAllSets_103)
    · have hw := hw.2 c5
      refine lv_iload_n hx hb dX3_leastForAllSets_78 rfl (lv_at hl 2 rfl) ?_
      refine lv_aload_n hx hb dX3_leastForAllSets_79 rfl (lv_at hl 0 rfl) ?_
      obtain ⟨o6, eo6, hw⟩ := hw
      refine r_getR X h k4 2 eo6  (by decide) rfl inX3 (by decide) rfl q107 rfl dX3_leastForAllSets_80 ?_
      refine lv_iload_n hx hb dX3_leastForAllSets_83 rfl (lv_at hl 1 rfl) ?_
      refine lv_bipush (v := (nI 8)) hx hb dX3_leastForAllSets_84 (by decide) ?_
      refine lv_imul hx hb dX3_leastForAllSets_86 ?_
      refine lv_iload_n hx hb dX3_leastForAllSets_87 rfl (lv_at hl 3 rfl) ?_
      refine lv_iadd hx hb dX3_leastForAllSets_88 ?_
      refine rc_SN (As := [.ref o6, .int ((x2 * (nI 8)) + w3)]) (rest := [.int w2]) X h (meX6_at l G _ _ _ _ hw) gU_X3_38 q795 q14 q312 rfl rfl hdS_X6_at rfl ⟨Nat.le_of_ble_eq_true rfl, Nat.le_of_ble_eq_true rfl⟩ hl.1 rfl (Nat.le_of_ble_eq_true rfl) ⟨Nat.le_of_ble_eq_true rfl, Nat.le_of_ble_eq_true rfl⟩ dX3_leastForAllSets_89 (fun x8 S7 H locs hw h => ?_)
      refine r_min X hl.1 q774 q775 q30 q776 ⟨Nat.le_of_ble_eq_true rfl, Nat.le_of_ble_eq_true rfl⟩ ⟨Nat.le_of_ble_eq_true rfl, Nat.le_of_ble_eq_true rfl⟩ dX3_leastForAllSets_92 ?_
      refine lv_topi (fun x9 ex9 => ?_)
      have hw := hw x9 ex9
      refine lv_istore_n (lv' := [(2, .int x9), (0, .ref a0), (1, .int x2), (3, .int w3)]) hx hb dX3_leastForAllSets_95 rfl hl (by decide) rfl (fun ls hl => ?_)
      obtain ⟨x10, ex10⟩ : ∃ y : Int32, y = (w3 + (nI 1)) := ⟨_, rfl⟩
      have hw := hw x10 ex10
      refine lv_iinc (v := x10) (lv' := [(3, .int x10), (2, .int x9), (0, .ref a0), (1, .int x2)]) hx hb dX3_leastForAllSets_96 hl (k := 3) rfl (by rw [ex10]; rfl) (by decide) rfl (fun ls hl => ?_)
      refine lv_goto (tgt := 70) hx hb dX3_leastForAllSets_99 (by decide) ?_
      exact ih _ _ _ hw _ _ _ h (lv_sub hl [2, 3, 1, 0] rfl)
def wlX3_leastForAllSets_18 (a0 : Nat) (x2 : Int32) (w2 : Int32) (post : Int32 → Mem → Prop) (J11 : Int32 → Mem → Prop) : Nat → Int32 → Mem → Prop
  | 0 => fun _ _ => False
  | n + 1 => fun w3 S => isK S a0 3 ∧ (((mI S a0 3) ≤ w3 → (∀ x14 : Int32, x14 = (w2 + (nI 1)) → (J11 x14 S))) ∧ (¬ (mI S a0 3) ≤ w3 → (((w2 &&& ((nI 1) <<< (w3 &&& 31))) = 0 → (∀ x16 : Int32, x16 = (w3 + (nI 1)) → (wlX3_leastForAllSets_18 a0 x2 w2 post J11 n x16 S))) ∧ (¬ (w2 &&& ((nI 1) <<< (w3 &&& 31))) = 0 → (∃ o17, mR S a0 2 = some o17 ∧ (wpX3_leastOfSet S a0 w2 w3 (fun x19 S18 => wpX6_put S18 o17 ((w2 * (nI 8)) + w3) x19 (fun u21 S20 => ∀ x22 : Int32, x22 = (w3 + (nI 1)) → (wlX3_leastForAllSets_18 a0 x2 w2 post J11 n x22 S20)))))))))
set_option maxHeartbeats 4000000 in
set_option maxRecDepth 100000 in
theorem llX3_leastForAllSets_18 {p : Program} {l : Launch} {e : Env} {s : State} {m : MethodId} {args : Array Value} {below : List Frame} {meth : Method} {c : Code} {G : GT} {A : Nat → Prop} (X : Cx p s m args meth c cX3_leastForAllSets 4 RX3 G A) (hr : meth.sig.returnType = (some .int)) (a0 : Nat) (x2 : Int32) (w2 : Int32) (post : Int32 → Mem → Prop) (J11 : Int32 → Mem → Prop) (hJ11 : ∀ (w2 : Int32) (S : Mem), J11 w2 S → ∀ (H : Heap) (locs : List Loc) (ls : Array Slot), Hx G A s.heap H locs S → lv_has ls 4 [(0, .ref a0), (1, .int x2), (2, .int w2)] → W p l e rmX3_leastForAllSets s m args below meth c H locs 0 0 (MQ below (QN emI post G A) args s 0 0 A) (F0 m 11 ls [])) : ∀ (n : Nat) (w3 : Int32) (S : Mem), wlX3_leastForAllSets_18 a0 x2 w2 post J11 n w3 S → ∀ (H : Heap) (locs : List Loc) (ls : Array Slot), Hx G A s.heap H locs S → lv_has ls 4 [(0, .ref a0), (1, .int x2), (2, .int w2), (3, .int w3)] → W p l e rmX3_leastForAllSets s m args below meth c H locs 0 0 (MQ below (QN emI post G A) args s 0 0 A) (F0 m 18 ls []) := by
  have hx := X.1
  have hb := X.2.1
  have hown := X.2.2.2.1
  intro n
  induction n with
  | zero =>
    intro _ _ hw
    exact hw.elim
  | succ n ih =>
    intro w3 S hw H locs ls h hl
    refine lv_iload_n hx hb dX3_leastForAllSets_18 rfl (lv_at hl 3 rfl) ?_
    refine lv_aload_n hx hb dX3_leastForAllSets_19 rfl (lv_at hl 0 rfl) ?_
    obtain ⟨k12, hw⟩ := hw
    refine r_getI X h k12 3  (by decide) rfl inX3 (by decide) rfl q108 rfl dX3_leastForAllSets_20 ?_
    refine lv_icmp_ge (tgt := 59) hx hb dX3_leastForAllSets_23 (by decide) (fun c13 => ?_) (fun c13 => ?_)
    · have hw := hw.1 c13
      obtain ⟨x14, ex14⟩ : ∃ y : Int32, y = (w2 + (nI 1)) := ⟨_, rfl⟩
      have hw := hw x14 ex14
      refine lv_iinc (v := x14) (lv' := [(2, .int x14), (0, .ref a0), (1, .int x2), (3, .int w3)]) hx hb dX3_leastForAllSets_59 hl (k := 2) rfl (by rw [ex14]; rfl) (by decide) rfl (fun ls hl => ?_)
      refine lv_goto (tgt := 11) hx hb dX3_leastForAllSets_62 (by decide) ?_
      exact hJ11 _ _ hw _ _ _ h (lv_sub hl [1, 2, 0] rfl)
    · have hw := hw.2 c13
      refine lv_iload_n hx hb dX3_leastForAllSets_26 rfl (lv_at hl 2 rfl) ?_
      refine lv_iconst (v := (nI 1)) hx hb dX3_leastForAllSets_27 (by decide) ?_
      refine lv_iload_n hx hb dX3_leastForAllSets_28 rfl (lv_at hl 3 rfl) ?_
      refine lv_ishl hx hb dX3_leastForAllSets_29 ?_
      refine lv_iand hx hb dX3_leastForAllSets_30 ?_
      refine lv_if_eq (tgt := 53) hx hb dX3_leastForAllSets_31 (by decide) (fun c15 => ?_) (fun c15 => ?_)
      · have hw := hw.1 c15
        obtain ⟨x16, ex16⟩ : ∃ y : Int32, y = (w3 + (nI 1)) := ⟨_, rfl⟩
        have hw := hw x16 ex16
        refine lv_iinc (v := x16) (lv' := [(3, .int x16), (0, .ref a0), (1, .int x2), (2, .int w2)]) hx hb dX3_leastForAllSets_53 hl (k := 3) rfl (by rw [ex16]; rfl) (by decide) rfl (fun ls hl => ?_)
        refine lv_goto (tgt := 18) hx hb dX3_leastForAllSets_56 (by decide) ?_
        exact ih _ _ hw _ _ _ h (lv_sub hl [1, 2, 3, 0] rfl)
      · have hw := hw.2 c15
        refine lv_aload_n hx hb dX3_leastForAllSets_34 rfl (lv_at hl 0 rfl) ?_
        obtain ⟨o17, eo17, hw⟩ := hw
        refine r_getR X h k12 2 eo17  (by decide) rfl inX3 (by decide) rfl q107 rfl dX3_leastForAllSets_35 ?_
        refine lv_iload_n hx hb dX3_leastForAllSets_38 rfl (lv_at hl 2 rfl) ?_
        refine lv_bipush (v := (nI 8)) hx hb dX3_leastForAllSets_39 (by decide) ?_
        refine lv_imul hx hb dX3_leastForAllSets_41 ?_
        refine lv_iload_n hx hb dX3_leastForAllSets_42 rfl (lv_at hl 3 rfl) ?_
        refine lv_iadd hx hb dX3_leastForAllSets_43 ?_
        refine lv_aload_n hx hb dX3_leastForAllSets_44 rfl (lv_at hl 0 rfl) ?_
        refine lv_iload_n hx hb dX3_leastForAllSets_45 rfl (lv_at hl 2 rfl) ?_
        refine lv_iload_n hx hb dX3_leastForAllSets_46 rfl (lv_at hl 3 rfl) ?_
        refine rc_V (As := [.int w2, .int w3]) (rest := [.int ((w2 * (nI 8)) + w3), .ref o17]) X h k12 (by decide) rfl (meX3_leastOfSet l G _ _ _ _ _ hw) gV_X3_42 rfl rfl hdV_X3_leastOfSet rfl ⟨Nat.le_of_ble_eq_true rfl, Nat.le_of_ble_eq_true rfl⟩ hl.1 rfl (Nat.le_of_ble_eq_true rfl) ⟨Nat.le_of_ble_eq_true rfl, Nat.le_of_ble_eq_true rfl⟩ dX3_leastForAllSets_47 (fun x19 S18 H locs hw h => ?_)
        refine rc_SN (As := [.ref o17, .int ((w2 * (nI 8)) + w3), .int x19]) (rest := []) X h (meX6_put l G _ _ _ _ _ hw) gU_X3_34 q778 q14 q319 rfl rfl hdS_X6_put rfl ⟨Nat.le_of_ble_eq_true rfl, Nat.le_of_ble_eq_true rfl⟩ hl.1 rfl (Nat.le_of_ble_eq_true rfl) ⟨Nat.le_of_ble_eq_true rfl, Nat.le_of_ble_eq_true rfl⟩ dX3_leastForAllSets_50 (fun u21 S20 H locs hw h => ?_)
        obtain ⟨x22, ex22⟩ : ∃ y : Int32, y = (w3 + (nI 1)) := ⟨_, rfl⟩
        have hw := hw x22 ex22
        refine lv_iinc (v := x22) (lv' := [(3, .int x22), (0, .ref a0), (1, .int x2), (2, .int w2)]) hx hb dX3_leastForAllSets_53 hl (k := 3) rfl (by rw [ex22]; rfl) (by decide) rfl (fun ls hl => ?_)
        refine lv_goto (tgt := 18) hx hb dX3_leastForAllSets_56 (by decide) ?_
        exact ih _ _ hw _ _ _ h (lv_sub hl [1, 2, 3, 0] rfl)
def wlX3_leastForAllSets_11 (a0 : Nat) (x2 : Int32) (post : Int32 → Mem → Prop)  : Nat → Int32 → Mem → Prop
  | 0 => fun _ _ => False
  | n + 1 => fun w2 S => (x2 < w2 → (∃ m, wlX3_leastForAllSets_70 a0 x2 post (fun w2 S => wlX3_leastForAllSets_11 a0 x2 post n w2 S) m (1000000 : Int32) (nI 0) S)) ∧ (¬ x2 < w2 → (∃ m, wlX3_leastForAllSets_18 a0 x2 w2 post (fun w2 S => wlX3_leastForAllSets_11 a0 x2 post n w2 S) m (nI 0) S))
set_option maxHeartbeats 4000000 in
set_option maxRecDepth 100000 in
theorem llX3_leastForAllSets_11 {p : Program} {l : Launch} {e : Env} {s : State} {m : MethodId} {args : Array Value} {below : List Frame} {meth : Method} {c : Code} {G : GT} {A : Nat → Prop} (X : Cx p s m args meth c cX3_leastForAllSets 4 RX3 G A) (hr : meth.sig.returnType = (some .int)) (a0 : Nat) (x2 : Int32) (post : Int32 → Mem → Prop)   : ∀ (n : Nat) (w2 : Int32) (S : Mem), wlX3_leastForAllSets_11 a0 x2 post n w2 S → ∀ (H : Heap) (locs : List Loc) (ls : Array Slot), Hx G A s.heap H locs S → lv_has ls 4 [(0, .ref a0), (1, .int x2), (2, .int w2)] → W p l e rmX3_leastForAllSets s m args below meth c H locs 0 0 (MQ below (QN emI post G A) args s 0 0 A) (F0 m 11 ls []) := by
  have hx := X.1
  have hb := X.2.1
  have hown := X.2.2.2.1
  intro n
  induction n with
  | zero =>
    intro _ _ hw
    exact hw.elim
  | succ n ih =>
    intro w2 S hw H locs ls h hl
    refine lv_iload_n hx hb dX3_leastForAllSets_11 rfl (lv_at hl 2 rfl) ?_
    refine lv_iload_n hx hb dX3_leastForAllSets_12 rfl (lv_at hl 1 rfl) ?_
    refine lv_icmp_gt (tgt := 65) hx hb dX3_leastForAllSets_13 (by decide) (fun c3 => ?_) (fun c3 => ?_)
    · have hw := hw.1 c3
      refine lv_ldc hx hb hown (X.hts q796) dX3_leastForAllSets_65 ?_
      refine lv_istore_n (lv' := [(2, .int (1000000 : Int32)), (0, .ref a0), (1, .int x2)]) hx hb dX3_leastForAllSets_67 rfl hl (by decide) rfl (fun ls hl => ?_)
      refine lv_iconst (v := (nI 0)) hx hb dX3_leastForAllSets_68 (by decide) ?_
      refine lv_istore_n (lv' := [(3, .int (nI 0)), (2, .int (1000000 : Int32)), (0, .ref a0), (1, .int x2)]) hx hb dX3_leastForAllSets_69 rfl hl (by decide) rfl (fun ls hl => ?_)
      obtain ⟨n11, hw⟩ := hw
      exact llX3_leastForAllSets_70  X hr _ _ _ _ (fun w2 S hw H locs ls h hl => ih w2 S hw H locs ls h hl) n11 _ _ _ hw _ _ _ h (lv_sub hl [2, 3, 1, 0] rfl)
    · have hw := hw.2 c3
      refine lv_iconst (v := (nI 0)) hx hb dX3_leastForAllSets_16 (by decide) ?_
      refine lv_istore_n (lv' := [(3, .int (nI 0)), (0, .ref a0), (1, .int x2), (2, .int w2)]) hx hb dX3_leastForAllSets_17 rfl hl (by decide) rfl (fun ls hl => ?_)
      obtain ⟨n23, hw⟩ := hw
      exact llX3_leastForAllSets_18  X hr _ _ _ _ _ (fun w2 S hw H locs ls h hl => ih w2 S hw H locs ls h hl) n23 _ _ hw _ _ _ h (lv_sub hl [1, 2, 3, 0] rfl)
def wpX3_leastForAllSets (S : Mem) (a0 : Nat) (post : Int32 → Mem → Prop) : Prop := isK S a0 3 ∧ (∀ x2 : Int32, x2 = (((nI 1) <<< ((mI S a0 3) &&& 31)) - (nI 1)) → (∃ m, wlX3_leastForAllSets_11 a0 x2 post m (nI 1) S))
set_option maxHeartbeats 4000000 in
set_option maxRecDepth 100000 in
theorem meX3_leastForAllSets (l : Launch) (G : GT) (S : Mem) (a0 : Nat) (post : Int32 → Mem → Prop) (hw : wpX3_leastForAllSets S a0 post) : CN emI l yX3_leastForAllSets (wsU yX3_leastForAllSets cX3_leastForAllSets 4 (some .int)) rmX3_leastForAllSets 0 0 G [.ref a0] S post := by
  refine cn_open RX3 rfl (by decide +kernel) (Nat.le_of_ble_eq_true rfl) ?_
  intro p e s m args below meth c A X h hr hin ls hl
  have hl : lv_has ls 4 [(0, .ref a0)] := hl
  have hx := X.1
  have hb := X.2.1
  have hown := X.2.2.2.1
  unfold wpX3_leastForAllSets at hw
  refine lv_iconst (v := (nI 1)) hx hb dX3_leastForAllSets_0 (by decide) ?_
  refine lv_aload_n hx hb dX3_leastForAllSets_1 rfl (lv_at hl 0 rfl) ?_
  obtain ⟨k1, hw⟩ := hw
  refine r_getI X h k1 3  (by decide) rfl inX3 (by decide) rfl q108 rfl dX3_leastForAllSets_2 ?_
  refine lv_ishl hx hb dX3_leastForAllSets_5 ?_
  refine lv_iconst (v := (nI 1)) hx hb dX3_leastForAllSets_6 (by decide) ?_
  refine lv_isub hx hb dX3_leastForAllSets_7 ?_
  refine lv_topi (fun x2 ex2 => ?_)
  have hw := hw x2 ex2
  refine lv_istore_n (lv' := [(1, .int x2), (0, .ref a0)]) hx hb dX3_leastForAllSets_8 rfl hl (by decide) rfl (fun ls hl => ?_)
  refine lv_iconst (v := (nI 1)) hx hb dX3_leastForAllSets_9 (by decide) ?_
  refine lv_istore_n (lv' := [(2, .int (nI 1)), (1, .int x2), (0, .ref a0)]) hx hb dX3_leastForAllSets_10 rfl hl (by decide) rfl (fun ls hl => ?_)
  obtain ⟨n24, hw⟩ := hw
  exact llX3_leastForAllSets_11  X hr _ _ _ n24 _ _ hw _ _ _ h (lv_sub hl [2, 1, 0] rfl)
abbrev rmX6_leastMakeready : Room := { frames := 8, cells := 2, slots := 12, locals := 134 }
def wpX6_leastMakeready (S : Mem) (a0 : Nat) (p1 : Int32) (post : Int32 → Mem → Prop) (px : Nat → Mem → Prop) : Prop := isK S a0 6 ∧ (wpX6_completeJob S a0 p1 (fun r3 S1 => ∃ o4, r3 = some o4 ∧ (isK S1 a0 6 ∧ (wpX6_loadOrders S1 a0 o4 (fun u7 S5 => isK S5 a0 6 ∧ (∃ o9, mR S5 a0 2 = some o9 ∧ (isK S5 o4 1 ∧ (isK S5 o9 5 ∧ (wpX5_bindingMinutes S5 o9 (mI S5 o4 0) (fun x13 S11 => isK S11 a0 6 ∧ (∃ o15, mR S11 a0 4 = some o15 ∧ (isK S11 o15 3 ∧ (wpX3_leastForAllSets S11 o15 (fun x18 S16 => post (x13 + x18) S16))))))))))))) px)
set_option maxHeartbeats 4000000 in
set_option maxRecDepth 100000 in
theorem meX6_leastMakeready (l : Launch) (hl9 : l.stackTraces = false) (G : GT) (S : Mem) (a0 : Nat) (p1 : Int32) (post : Int32 → Mem → Prop) (px : Nat → Mem → Prop) (hw : wpX6_leastMakeready S a0 p1 post px) : CX emI l yX6_leastMakeready (wsU yX6_leastMakeready cX6_leastMakeready 3 (some .int)) rmX6_leastMakeready 2 12 G [.ref a0, .int p1] S post px := by
  refine cx_open RX6 rfl (by decide +kernel) (Nat.le_of_ble_eq_true rfl) ?_
  intro p e s m args below meth c A X h hr hno ls hl
  have hl : lv_has ls 3 [(0, .ref a0), (1, .int p1)] := hl
  have hx := X.1
  have hb := X.2.1
  have hown := X.2.2.2.1
  unfold wpX6_leastMakeready at hw
  refine lv_aload_n hx hb dX6_leastMakeready_0 rfl (lv_at hl 0 rfl) ?_
  refine lv_iload_n hx hb dX6_leastMakeready_1 rfl (lv_at hl 1 rfl) ?_
  obtain ⟨k2, hw⟩ := hw
  refine rx_V (As := [.int p1]) (rest := []) X h hno k2 (by decide) rfl (meX6_completeJob l hl9 G _ _ _ _ _ hw) gV_X6_121 rfl rfl hdV_X6_completeJob rfl ⟨Nat.le_of_ble_eq_true rfl, Nat.le_of_ble_eq_true rfl⟩ hl.1 rfl (Nat.le_of_ble_eq_true rfl) ⟨Nat.le_of_ble_eq_true rfl, Nat.le_of_ble_eq_true rfl⟩ ⟨Nat.le_of_ble_eq_true rfl, Nat.le_of_ble_eq_true rfl⟩ dX6_leastMakeready_2 (fun r3 S1 H locs hw h => ?_)
  obtain ⟨o4, rfl, hw⟩ := hw
  refine lv_astore_n (lv' := [(2, .ref o4), (0, .ref a0), (1, .int p1)]) hx hb dX6_leastMakeready_5 rfl hl (by decide) rfl (fun ls hl => ?_)
  refine lv_aload_n hx hb dX6_leastMakeready_6 rfl (lv_at hl 1 rfl) ?_
  refine lv_aload_n hx hb dX6_leastMakeready_7 rfl (lv_at hl 0 rfl) ?_
  obtain ⟨k6, hw⟩ := hw
  refine rc_V (As := [.ref o4]) (rest := []) X h k6 (by decide) rfl (meX6_loadOrders l G _ _ _ _ hw) gV_X6_197 rfl rfl hdV_X6_loadOrders rfl ⟨Nat.le_of_ble_eq_true rfl, Nat.le_of_ble_eq_true rfl⟩ hl.1 rfl (Nat.le_of_ble_eq_true rfl) ⟨Nat.le_of_ble_eq_true rfl, Nat.le_of_ble_eq_true rfl⟩ dX6_leastMakeready_8 (fun u7 S5 H locs hw h => ?_)
  refine lv_aload_n hx hb dX6_leastMakeready_11 rfl (lv_at hl 1 rfl) ?_
  obtain ⟨k8, hw⟩ := hw
  obtain ⟨o9, eo9, hw⟩ := hw
  refine r_getR X h k8 2 eo9  (by decide) rfl inX6 (by decide) rfl q122 rfl dX6_leastMakeready_12 ?_
  refine lv_aload_n hx hb dX6_leastMakeready_15 rfl (lv_at hl 0 rfl) ?_
  obtain ⟨k10, hw⟩ := hw
  refine r_getIN X h k10 0  (by decide) rfl inX1 (by decide) rfl q415 rfl dX6_leastMakeready_16 ?_
  obtain ⟨k12, hw⟩ := hw
  refine rc_V (As := [.int (mI S5 o4 0)]) (rest := []) X h k12 (by decide) rfl (meX5_bindingMinutes l G _ _ _ _ hw) gV_X6_201 rfl rfl hdV_X5_bindingMinutes rfl ⟨Nat.le_of_ble_eq_true rfl, Nat.le_of_ble_eq_true rfl⟩ hl.1 rfl (Nat.le_of_ble_eq_true rfl) ⟨Nat.le_of_ble_eq_true rfl, Nat.le_of_ble_eq_true rfl⟩ dX6_leastMakeready_19 (fun x13 S11 H locs hw h => ?_)
  refine lv_aload_n hx hb dX6_leastMakeready_22 rfl (lv_at hl 1 rfl) ?_
  obtain ⟨k14, hw⟩ := hw
  obtain ⟨o15, eo15, hw⟩ := hw
  refine r_getR X h k14 4 eo15  (by decide) rfl inX6 (by decide) rfl q124 rfl dX6_leastMakeready_23 ?_
  obtain ⟨k17, hw⟩ := hw
  refine rc_V (As := []) (rest := [.int x13]) X h k17 (by decide) rfl (meX3_leastForAllSets l G _ _ _ hw) gV_X6_205 rfl rfl hdV_X3_leastForAllSets rfl ⟨Nat.le_of_ble_eq_true rfl, Nat.le_of_ble_eq_true rfl⟩ hl.1 rfl (Nat.le_of_ble_eq_true rfl) ⟨Nat.le_of_ble_eq_true rfl, Nat.le_of_ble_eq_true rfl⟩ dX6_leastMakeready_26 (fun x18 S16 H locs hw h => ?_)
  refine lv_iadd hx hb dX6_leastMakeready_29 ?_
  exact vx_ret (en_i X h hr hw (Nat.le_of_ble_eq_true rfl) (Nat.le_of_ble_eq_true rfl) dX6_leastMakeready_30)
abbrev rmL_leastMakeready : Room := { frames := 9, cells := 2, slots := 12, locals := 156 }
def wpL_leastMakeready (S : Mem) (a0 : Nat) (p1 : Int32) (post : Int32 → Mem → Prop) : Prop := isK S a0 6 ∧ (wpX6_leastMakeready S a0 p1 (fun x3 S1 => post x3 S1) (fun k4 S5 => (k4 = 1 → (post (-77 : Int32) S5)) ∧ (k4 = 2 → (post (-79 : Int32) S5)) ∧ (k4 = 1 ∨ k4 = 2)))
set_option maxHeartbeats 4000000 in
set_option maxRecDepth 100000 in
theorem meL_leastMakeready (l : Launch) (hl9 : l.stackTraces = false) (G : GT) (S : Mem) (a0 : Nat) (p1 : Int32) (post : Int32 → Mem → Prop) (hw : wpL_leastMakeready S a0 p1 post) : CN emI l yL_leastMakeready (wsH yL_leastMakeready cL_leastMakeready 3 (some .int) [(0, 5, 6, 26), (0, 5, 10, 20)]) rmL_leastMakeready 2 12 G [.ref a0, .int p1] S post := by
  refine ch_open RL rfl (by decide +kernel) (Nat.le_of_ble_eq_true rfl) ?_
  intro p e s m args below meth c A X h hr hTab ls hl
  have hl : lv_has ls 3 [(0, .ref a0), (1, .int p1)] := hl
  have hx := X.1
  have hb := X.2.1
  have hown := X.2.2.2.1
  unfold wpL_leastMakeready at hw
  refine lv_aload_n hx hb dL_leastMakeready_0 rfl (lv_at hl 0 rfl) ?_
  refine lv_iload_n hx hb dL_leastMakeready_1 rfl (lv_at hl 1 rfl) ?_
  obtain ⟨k2, hw⟩ := hw
  refine rx_VH (As := [.int p1]) (rest := []) X h k2 (by decide) rfl (meX6_leastMakeready l hl9 G _ _ _ _ _ hw) gV_L_68 rfl rfl hdV_X6_leastMakeready rfl ⟨Nat.le_of_ble_eq_true rfl, Nat.le_of_ble_eq_true rfl⟩ hl.1 rfl (Nat.le_of_ble_eq_true rfl) ⟨Nat.le_of_ble_eq_true rfl, Nat.le_of_ble_eq_true rfl⟩ dL_leastMakeready_2 (fun k4 S5 H locs q9 ce hw h hce hcv hcl => ?_) (fun x3 S1 H locs hw h => ?_)
  · rcases hw.2.2 with hk9 | hk9
    · subst hk9
      have hw := hw.1 rfl
      refine vx_catch (own := RL) (name := "java/lang/IndexOutOfBoundsException") (E := xn 1) hown [] ⟨0, 5, 6, 26⟩ [⟨0, 5, 10, 20⟩] (by rw [hTab]; rfl) (fun z hz => nomatch hz) (by decide) (by decide) (X.hts q262) (va_Nw.use (by rfl) (X.nw q296)) hce hcv hcl ?_
      refine lv_astore_n (lv' := [(2, .ref q9), (0, .ref a0), (1, .int p1)]) hx hb dL_leastMakeready_6 rfl hl (by decide) rfl (fun ls hl => ?_)
      refine lv_bipush (v := (-77 : Int32)) hx hb dL_leastMakeready_7 (by decide) ?_
      exact (en_i X h hr hw (Nat.le_of_ble_eq_true rfl) (Nat.le_of_ble_eq_true rfl) dL_leastMakeready_9)
    · subst hk9
      have hw := hw.2.1 rfl
      have hpass2 : ∀ z ∈ ([⟨0, 5, 6, 26⟩] : List ExceptionTableEntry), covers z 2 = false ∨ (z.catchType ≠ 0 ∧ ∃ nm : String, (Cond.classLink RL z.catchType nm).before args s = true ∧ va_Nc (xn 2) nm s) := by
        intro z hz
        rcases List.mem_cons.mp hz with rfl | hz
        · exact Or.inr ⟨by decide, "java/lang/IndexOutOfBoundsException", X.hts q262, X.2.2.2.2.2.2.1.2.2.2.2.1 ("java/lang/IllegalStateException", "java/lang/IndexOutOfBoundsException") (by decide +kernel)⟩
        cases hz
      refine vx_catch (own := RL) (name := "java/lang/IllegalStateException") (E := xn 2) hown [⟨0, 5, 6, 26⟩] ⟨0, 5, 10, 20⟩ [] (by rw [hTab]; rfl) (hpass2) (by decide) (by decide) (X.hts q179) (va_Nw.use (by rfl) (X.nw q186)) hce hcv hcl ?_
      refine lv_astore_n (lv' := [(2, .ref q9), (0, .ref a0), (1, .int p1)]) hx hb dL_leastMakeready_10 rfl hl (by decide) rfl (fun ls hl => ?_)
      refine lv_bipush (v := (-79 : Int32)) hx hb dL_leastMakeready_11 (by decide) ?_
      exact (en_i X h hr hw (Nat.le_of_ble_eq_true rfl) (Nat.le_of_ble_eq_true rfl) dL_leastMakeready_13)
  · exact (en_i X h hr hw (Nat.le_of_ble_eq_true rfl) (Nat.le_of_ble_eq_true rfl) dL_leastMakeready_5)
def rmR (d : Nat) : Room := { frames := d + 10, cells := 0, slots := 0, locals := 40 * d + 200 }
def wlX3_leastOfRest_22 (a0 : Nat) (a1 : Nat) (p2 : Int32) (p3 : Int32) (p4 : Int32) (p5 : Int32)  (rec : Mem → Nat → Nat → Int32 → Int32 → Int32 → Int32 → (Int32 → Mem → Prop) → Prop) (post : Int32 → Mem → Prop)  : Nat → Int32 → Int32 → Mem → Prop
  | 0 => fun _ _ _ => False
  | n + 1 => fun w6 w7 S => (p2 ≤ w7 → (post w6 S)) ∧ (¬ p2 ≤ w7 → (∀ x4 : Int32, x4 = ((nI 1) <<< (w7 &&& 31)) → ((¬ (p3 &&& x4) = 0 → (∀ x6 : Int32, x6 = (w7 + (nI 1)) → (wlX3_leastOfRest_22 a0 a1 p2 p3 p4 p5 rec post n w6 x6 S))) ∧ ((p3 &&& x4) = 0 → (wpX3_change S a0 a1 p4 w7 (fun x8 S7 => rec S7 a0 a1 p2 (p3 ||| x4) w7 (p5 + (nI 1)) (fun x10 S9 => ∀ x11 : Int32, x11 = (x8 + x10) → (∀ x12 : Int32, x12 = (if x11 < w6 then x11 else w6) → (∀ x13 : Int32, x13 = (w7 + (nI 1)) → (wlX3_leastOfRest_22 a0 a1 p2 p3 p4 p5 rec post n x12 x13 S9))))))))))
set_option maxHeartbeats 4000000 in
set_option maxRecDepth 100000 in
theorem llX3_leastOfRest_22 {p : Program} {l : Launch} {e : Env} {s : State} {m : MethodId} {args : Array Value} {below : List Frame} {meth : Method} {c : Code} {G : GT} {A : Nat → Prop} {d : Nat} (X : Cx p s m args meth c cX3_leastOfRest 10 RX3 G A) (hr : meth.sig.returnType = (some .int)) (a0 : Nat) (a1 : Nat) (p2 : Int32) (p3 : Int32) (p4 : Int32) (p5 : Int32)  (rec : Mem → Nat → Nat → Int32 → Int32 → Int32 → Int32 → (Int32 → Mem → Prop) → Prop) (post : Int32 → Mem → Prop)  (ihd : ∀ (S : Mem) (a0 : Nat) (a1 : Nat) (p2 : Int32) (p3 : Int32) (p4 : Int32) (p5 : Int32) (post : Int32 → Mem → Prop), rec S a0 a1 p2 p3 p4 p5 post → CN emI l yX3_leastOfRest (wsU yX3_leastOfRest cX3_leastOfRest 10 (some .int)) (rmR d) 0 0 G [.ref a0, .ref a1, .int p2, .int p3, .int p4, .int p5] S post)  : ∀ (n : Nat) (w6 : Int32) (w7 : Int32) (S : Mem), wlX3_leastOfRest_22 a0 a1 p2 p3 p4 p5 rec post n w6 w7 S → ∀ (H : Heap) (locs : List Loc) (ls : Array Slot), Hx G A s.heap H locs S → lv_has ls 10 [(0, .ref a0), (1, .ref a1), (2, .int p2), (3, .int p3), (4, .int p4), (5, .int p5), (6, .int w6), (7, .int w7)] → W p l e (rmR (d + 1)) s m args below meth c H locs 0 0 (MQ below (QN emI post G A) args s 0 0 A) (F0 m 22 ls []) := by
  have hx := X.1
  have hb := X.2.1
  have hown := X.2.2.2.1
  intro n
  induction n with
  | zero =>
    intro _ _ _ hw
    exact hw.elim
  | succ n ih =>
    intro w6 w7 S hw H locs ls h hl
    refine lv_iload hx hb dX3_leastOfRest_22 (lv_at hl 7 rfl) ?_
    refine lv_iload_n hx hb dX3_leastOfRest_24 rfl (lv_at hl 2 rfl) ?_
    refine lv_icmp_ge (tgt := 84) hx hb dX3_leastOfRest_25 (by decide) (fun c3 => ?_) (fun c3 => ?_)
    · have hw := hw.1 c3
      refine lv_iload hx hb dX3_leastOfRest_84 (lv_at hl 6 rfl) ?_
      exact (en_i X h hr hw (Nat.le_of_ble_eq_true rfl) (Nat.le_of_ble_eq_true rfl) dX3_leastOfRest_86)
    · have hw := hw.2 c3
      refine lv_iconst (v := (nI 1)) hx hb dX3_leastOfRest_28 (by decide) ?_
      refine lv_iload hx hb dX3_leastOfRest_29 (lv_at hl 7 rfl) ?_
      refine lv_ishl hx hb dX3_leastOfRest_31 ?_
      refine lv_topi (fun x4 ex4 => ?_)
      have hw := hw x4 ex4
      refine lv_istore (lv' := [(8, .int x4), (0, .ref a0), (1, .ref a1), (2, .int p2), (3, .int p3), (4, .int p4), (5, .int p5), (6, .int w6), (7, .int w7)]) hx hb dX3_leastOfRest_32 hl (by decide) rfl (fun ls hl => ?_)
      refine lv_iload_n hx hb dX3_leastOfRest_34 rfl (lv_at hl 4 rfl) ?_
      refine lv_iload hx hb dX3_leastOfRest_35 (lv_at hl 0 rfl) ?_
      refine lv_iand hx hb dX3_leastOfRest_37 ?_
      refine lv_if_ne (tgt := 78) hx hb dX3_leastOfRest_38 (by decide) (fun c5 => ?_) (fun c5 => ?_)
      · have hw := hw.1 c5
        obtain ⟨x6, ex6⟩ : ∃ y : Int32, y = (w7 + (nI 1)) := ⟨_, rfl⟩
        have hw := hw x6 ex6
        refine lv_iinc (v := x6) (lv' := [(7, .int x6), (8, .int x4), (0, .ref a0), (1, .ref a1), (2, .int p2), (3, .int p3), (4, .int p4), (5, .int p5), (6, .int w6)]) hx hb dX3_leastOfRest_78 hl (k := 8) rfl (by rw [ex6]; rfl) (by decide) rfl (fun ls hl => ?_)
        refine lv_goto (tgt := 22) hx hb dX3_leastOfRest_81 (by decide) ?_
        exact ih _ _ _ hw _ _ _ h (lv_sub hl [2, 3, 4, 5, 6, 7, 8, 0] rfl)
      · have hw := hw.2 c5
        refine lv_aload_n hx hb dX3_leastOfRest_41 rfl (lv_at hl 1 rfl) ?_
        refine lv_aload_n hx hb dX3_leastOfRest_42 rfl (lv_at hl 2 rfl) ?_
        refine lv_iload hx hb dX3_leastOfRest_43 (lv_at hl 5 rfl) ?_
        refine lv_iload hx hb dX3_leastOfRest_45 (lv_at hl 8 rfl) ?_
        refine rc_S (As := [.ref a0, .ref a1, .int p4, .int w7]) (rest := []) X h (meX3_change l G _ _ _ _ _ _ hw) gS_X3_46 rfl rfl hdS_X3_change rfl ⟨Nat.le_trans (m := 10) (Nat.le_of_ble_eq_true rfl) (by show 10 ≤ d + 1 + 10; omega), Nat.le_trans (m := 200) (Nat.le_of_ble_eq_true rfl) (by show 200 ≤ 40 * (d + 1) + 200; omega)⟩ hl.1 rfl (Nat.le_of_ble_eq_true rfl) ⟨Nat.le_refl _, Nat.le_refl _⟩ dX3_leastOfRest_47 (fun x8 S7 H locs hw h => ?_)
        refine lv_aload_n hx hb dX3_leastOfRest_50 rfl (lv_at hl 1 rfl) ?_
        refine lv_aload_n hx hb dX3_leastOfRest_51 rfl (lv_at hl 2 rfl) ?_
        refine lv_iload_n hx hb dX3_leastOfRest_52 rfl (lv_at hl 3 rfl) ?_
        refine lv_iload_n hx hb dX3_leastOfRest_53 rfl (lv_at hl 4 rfl) ?_
        refine lv_iload hx hb dX3_leastOfRest_54 (lv_at hl 0 rfl) ?_
        refine lv_ior hx hb dX3_leastOfRest_56 ?_
        refine lv_iload hx hb dX3_leastOfRest_57 (lv_at hl 8 rfl) ?_
        refine lv_iload hx hb dX3_leastOfRest_59 (lv_at hl 6 rfl) ?_
        refine lv_iconst (v := (nI 1)) hx hb dX3_leastOfRest_61 (by decide) ?_
        refine lv_iadd hx hb dX3_leastOfRest_62 ?_
        refine rc_S (As := [.ref a0, .ref a1, .int p2, .int (p3 ||| x4), .int w7, .int (p5 + (nI 1))]) (rest := [.int x8]) X h (ihd _ _ _ _ _ _ _ _ hw) gS_X3_50 rfl rfl hdS_X3_leastOfRest rfl ⟨(by show d + 10 + 1 ≤ d + 1 + 10; omega), (by show 8 + (10 + 11) + (40 * d + 200) ≤ 40 * (d + 1) + 200; omega)⟩ hl.1 rfl (Nat.le_of_ble_eq_true rfl) ⟨Nat.le_refl _, Nat.le_refl _⟩ dX3_leastOfRest_63 (fun x10 S9 H locs hw h => ?_)
        refine lv_iadd hx hb dX3_leastOfRest_66 ?_
        refine lv_topi (fun x11 ex11 => ?_)
        have hw := hw x11 ex11
        refine lv_istore (lv' := [(9, .int x11), (8, .int x4), (0, .ref a0), (1, .ref a1), (2, .int p2), (3, .int p3), (4, .int p4), (5, .int p5), (6, .int w6), (7, .int w7)]) hx hb dX3_leastOfRest_67 hl (by decide) rfl (fun ls hl => ?_)
        refine lv_iload hx hb dX3_leastOfRest_69 (lv_at hl 8 rfl) ?_
        refine lv_iload hx hb dX3_leastOfRest_71 (lv_at hl 0 rfl) ?_
        refine r_min X hl.1 q774 q775 q30 q776 ⟨Nat.le_trans (m := 10) (Nat.le_of_ble_eq_true rfl) (by show 10 ≤ d + 1 + 10; omega), Nat.le_trans (m := 200) (Nat.le_of_ble_eq_true rfl) (by show 200 ≤ 40 * (d + 1) + 200; omega)⟩ ⟨Nat.le_refl _, Nat.le_refl _⟩ dX3_leastOfRest_73 ?_
        refine lv_topi (fun x12 ex12 => ?_)
        have hw := hw x12 ex12
        refine lv_istore (lv' := [(6, .int x12), (9, .int x11), (8, .int x4), (0, .ref a0), (1, .ref a1), (2, .int p2), (3, .int p3), (4, .int p4), (5, .int p5), (7, .int w7)]) hx hb dX3_leastOfRest_76 hl (by decide) rfl (fun ls hl => ?_)
        obtain ⟨x13, ex13⟩ : ∃ y : Int32, y = (w7 + (nI 1)) := ⟨_, rfl⟩
        have hw := hw x13 ex13
        refine lv_iinc (v := x13) (lv' := [(7, .int x13), (6, .int x12), (9, .int x11), (8, .int x4), (0, .ref a0), (1, .ref a1), (2, .int p2), (3, .int p3), (4, .int p4), (5, .int p5)]) hx hb dX3_leastOfRest_78 hl (k := 9) rfl (by rw [ex13]; rfl) (by decide) rfl (fun ls hl => ?_)
        refine lv_goto (tgt := 22) hx hb dX3_leastOfRest_81 (by decide) ?_
        exact ih _ _ _ hw _ _ _ h (lv_sub hl [4, 5, 6, 7, 8, 9, 1, 0] rfl)
def wpX3_leastOfRest : Nat → Mem → Nat → Nat → Int32 → Int32 → Int32 → Int32 → (Int32 → Mem → Prop) → Prop
  | 0 => fun _ _ _ _ _ _ _ _ => False
  | d + 1 => fun S a0 a1 p2 p3 p4 p5 post => (p2 ≤ p5 → (post (nI 0) S)) ∧ (¬ p2 ≤ p5 → ((p5 < (nI 6) → (∃ m, wlX3_leastOfRest_22 a0 a1 p2 p3 p4 p5 (fun S a0 a1 p2 p3 p4 p5 post => wpX3_leastOfRest d S a0 a1 p2 p3 p4 p5 post) post m (1000000 : Int32) (nI 0) S)) ∧ (¬ p5 < (nI 6) → (post (nI 0) S))))
set_option maxHeartbeats 4000000 in
set_option maxRecDepth 100000 in
theorem meX3_leastOfRest (l : Launch) (G : GT) : ∀ (d : Nat) (S : Mem) (a0 : Nat) (a1 : Nat) (p2 : Int32) (p3 : Int32) (p4 : Int32) (p5 : Int32) (post : Int32 → Mem → Prop) (hw : wpX3_leastOfRest d S a0 a1 p2 p3 p4 p5 post), CN emI l yX3_leastOfRest (wsU yX3_leastOfRest cX3_leastOfRest 10 (some .int)) (rmR d) 0 0 G [.ref a0, .ref a1, .int p2, .int p3, .int p4, .int p5] S post := by
  intro d
  induction d with
  | zero =>
    intro S a0 a1 p2 p3 p4 p5 post hw
    exact hw.elim
  | succ d ihd =>
    intro S a0 a1 p2 p3 p4 p5 post hw
    refine cn_open RX3 rfl (by decide +kernel) (Nat.le_of_ble_eq_true rfl) ?_
    intro p e s m args below meth c A X h hr hin ls hl
    have hl : lv_has ls 10 [(0, .ref a0), (1, .ref a1), (2, .int p2), (3, .int p3), (4, .int p4), (5, .int p5)] := hl
    have hx := X.1
    have hb := X.2.1
    have hown := X.2.2.2.1
    unfold wpX3_leastOfRest at hw
    refine lv_iload hx hb dX3_leastOfRest_0 (lv_at hl 5 rfl) ?_
    refine lv_iload_n hx hb dX3_leastOfRest_2 rfl (lv_at hl 2 rfl) ?_
    refine lv_icmp_ge (tgt := 13) hx hb dX3_leastOfRest_3 (by decide) (fun c1 => ?_) (fun c1 => ?_)
    · have hw := hw.1 c1
      refine lv_iconst (v := (nI 0)) hx hb dX3_leastOfRest_13 (by decide) ?_
      exact (en_i X h hr hw (Nat.le_of_ble_eq_true rfl) (Nat.le_of_ble_eq_true rfl) dX3_leastOfRest_14)
    · have hw := hw.2 c1
      refine lv_iload hx hb dX3_leastOfRest_6 (lv_at hl 5 rfl) ?_
      refine lv_bipush (v := (nI 6)) hx hb dX3_leastOfRest_8 (by decide) ?_
      refine lv_icmp_lt (tgt := 15) hx hb dX3_leastOfRest_10 (by decide) (fun c2 => ?_) (fun c2 => ?_)
      · have hw := hw.1 c2
        refine lv_ldc hx hb hown (X.hts q796) dX3_leastOfRest_15 ?_
        refine lv_istore (lv' := [(6, .int (1000000 : Int32)), (0, .ref a0), (1, .ref a1), (2, .int p2), (3, .int p3), (4, .int p4), (5, .int p5)]) hx hb dX3_leastOfRest_17 hl (by decide) rfl (fun ls hl => ?_)
        refine lv_iconst (v := (nI 0)) hx hb dX3_leastOfRest_19 (by decide) ?_
        refine lv_istore (lv' := [(7, .int (nI 0)), (6, .int (1000000 : Int32)), (0, .ref a0), (1, .ref a1), (2, .int p2), (3, .int p3), (4, .int p4), (5, .int p5)]) hx hb dX3_leastOfRest_20 hl (by decide) rfl (fun ls hl => ?_)
        obtain ⟨n14, hw⟩ := hw
        exact llX3_leastOfRest_22  X hr _ _ _ _ _ _ _ _ ihd n14 _ _ _ hw _ _ _ h (lv_sub hl [2, 3, 4, 5, 6, 7, 1, 0] rfl)
      · have hw := hw.2 c2
        refine lv_iconst (v := (nI 0)) hx hb dX3_leastOfRest_13 (by decide) ?_
        exact (en_i X h hr hw (Nat.le_of_ble_eq_true rfl) (Nat.le_of_ble_eq_true rfl) dX3_leastOfRest_14)
abbrev rmX3_leastOfAllOrders : Room := { frames := 19, cells := 0, slots := 0, locals := 549 }
def wpX3_leastOfAllOrders (S : Mem) (a0 : Nat) (post : Int32 → Mem → Prop) : Prop := isK S a0 3 ∧ (∃ o2, mR S a0 0 = some o2 ∧ (∃ o3, mR S a0 1 = some o3 ∧ (∃ d5, d5 ≤ 8 ∧ (wpX3_leastOfRest d5 S o2 o3 (mI S a0 3) (nI 0) (nI 8) (nI 0) (fun x6 S4 => post x6 S4)))))
set_option maxHeartbeats 4000000 in
set_option maxRecDepth 100000 in
theorem meX3_leastOfAllOrders (l : Launch) (G : GT) (S : Mem) (a0 : Nat) (post : Int32 → Mem → Prop) (hw : wpX3_leastOfAllOrders S a0 post) : CN emI l yX3_leastOfAllOrders (wsU yX3_leastOfAllOrders cX3_leastOfAllOrders 1 (some .int)) rmX3_leastOfAllOrders 0 0 G [.ref a0] S post := by
  refine cn_open RX3 rfl (by decide +kernel) (Nat.le_of_ble_eq_true rfl) ?_
  intro p e s m args below meth c A X h hr hin ls hl
  have hl : lv_has ls 1 [(0, .ref a0)] := hl
  have hx := X.1
  have hb := X.2.1
  have hown := X.2.2.2.1
  unfold wpX3_leastOfAllOrders at hw
  refine lv_aload_n hx hb dX3_leastOfAllOrders_0 rfl (lv_at hl 0 rfl) ?_
  obtain ⟨k1, hw⟩ := hw
  obtain ⟨o2, eo2, hw⟩ := hw
  refine r_getR X h k1 0 eo2  (by decide) rfl inX3 (by decide) rfl q105 rfl dX3_leastOfAllOrders_1 ?_
  refine lv_aload_n hx hb dX3_leastOfAllOrders_4 rfl (lv_at hl 0 rfl) ?_
  obtain ⟨o3, eo3, hw⟩ := hw
  refine r_getR X h k1 1 eo3  (by decide) rfl inX3 (by decide) rfl q106 rfl dX3_leastOfAllOrders_5 ?_
  refine lv_aload_n hx hb dX3_leastOfAllOrders_8 rfl (lv_at hl 0 rfl) ?_
  refine r_getI X h k1 3  (by decide) rfl inX3 (by decide) rfl q108 rfl dX3_leastOfAllOrders_9 ?_
  refine lv_iconst (v := (nI 0)) hx hb dX3_leastOfAllOrders_12 (by decide) ?_
  refine lv_bipush (v := (nI 8)) hx hb dX3_leastOfAllOrders_13 (by decide) ?_
  refine lv_iconst (v := (nI 0)) hx hb dX3_leastOfAllOrders_15 (by decide) ?_
  obtain ⟨d5, hd5, hw⟩ := hw
  refine rc_S (As := [.ref o2, .ref o3, .int (mI S a0 3), .int (nI 0), .int (nI 8), .int (nI 0)]) (rest := []) X h (meX3_leastOfRest l G d5 _ _ _ _ _ _ _ _ hw) gS_X3_50 rfl rfl hdS_X3_leastOfRest rfl ⟨(by show d5 + 10 + 1 ≤ 19; omega), (by show 8 + (10 + 11) + (40 * d5 + 200) ≤ 549; omega)⟩ hl.1 rfl (Nat.le_of_ble_eq_true rfl) ⟨Nat.le_of_ble_eq_true rfl, Nat.le_of_ble_eq_true rfl⟩ dX3_leastOfAllOrders_16 (fun x6 S4 H locs hw h => ?_)
  exact (en_i X h hr hw (Nat.le_of_ble_eq_true rfl) (Nat.le_of_ble_eq_true rfl) dX3_leastOfAllOrders_19)
abbrev rmX6_leastByTrying : Room := { frames := 20, cells := 3, slots := 18, locals := 569 }
def wpX6_leastByTrying (S : Mem) (a0 : Nat) (p1 : Int32) (post : Int32 → Mem → Prop) (px : Nat → Mem → Prop) : Prop := isK S a0 6 ∧ (wpX6_completeJob S a0 p1 (fun r3 S1 => ∃ o4, r3 = some o4 ∧ (isK S1 o4 1 ∧ (wpX1_sheetCount S1 o4 (fun x7 S5 => (x7 ≤ (nI 6) → (isK S5 a0 6 ∧ (wpX6_loadOrders S5 a0 o4 (fun u11 S9 => isK S9 a0 6 ∧ (∃ o13, mR S9 a0 2 = some o13 ∧ (isK S9 o4 1 ∧ (isK S9 o13 5 ∧ (wpX5_bindingMinutes S9 o13 (mI S9 o4 0) (fun x17 S15 => isK S15 a0 6 ∧ (∃ o19, mR S15 a0 4 = some o19 ∧ (isK S15 o19 3 ∧ (wpX3_leastOfAllOrders S15 o19 (fun x22 S20 => post (x17 + x22) S20))))))))))))) ∧ (¬ x7 ≤ (nI 6) → (px 5 S5)))))) px)
set_option maxHeartbeats 4000000 in
set_option maxRecDepth 100000 in
theorem meX6_leastByTrying (l : Launch) (hl9 : l.stackTraces = false) (G : GT) (S : Mem) (a0 : Nat) (p1 : Int32) (post : Int32 → Mem → Prop) (px : Nat → Mem → Prop) (hw : wpX6_leastByTrying S a0 p1 post px) : CX emI l yX6_leastByTrying (wsU yX6_leastByTrying cX6_leastByTrying 3 (some .int)) rmX6_leastByTrying 3 18 G [.ref a0, .int p1] S post px := by
  refine cx_open RX6 rfl (by decide +kernel) (Nat.le_of_ble_eq_true rfl) ?_
  intro p e s m args below meth c A X h hr hno ls hl
  have hl : lv_has ls 3 [(0, .ref a0), (1, .int p1)] := hl
  have hx := X.1
  have hb := X.2.1
  have hown := X.2.2.2.1
  unfold wpX6_leastByTrying at hw
  refine lv_aload_n hx hb dX6_leastByTrying_0 rfl (lv_at hl 0 rfl) ?_
  refine lv_iload_n hx hb dX6_leastByTrying_1 rfl (lv_at hl 1 rfl) ?_
  obtain ⟨k2, hw⟩ := hw
  refine rx_V (As := [.int p1]) (rest := []) X h hno k2 (by decide) rfl (meX6_completeJob l hl9 G _ _ _ _ _ hw) gV_X6_121 rfl rfl hdV_X6_completeJob rfl ⟨Nat.le_of_ble_eq_true rfl, Nat.le_of_ble_eq_true rfl⟩ hl.1 rfl (Nat.le_of_ble_eq_true rfl) ⟨Nat.le_of_ble_eq_true rfl, Nat.le_of_ble_eq_true rfl⟩ ⟨Nat.le_of_ble_eq_true rfl, Nat.le_of_ble_eq_true rfl⟩ dX6_leastByTrying_2 (fun r3 S1 H locs hw h => ?_)
  obtain ⟨o4, rfl, hw⟩ := hw
  refine lv_astore_n (lv' := [(2, .ref o4), (0, .ref a0), (1, .int p1)]) hx hb dX6_leastByTrying_5 rfl hl (by decide) rfl (fun ls hl => ?_)
  refine lv_aload_n hx hb dX6_leastByTrying_6 rfl (lv_at hl 0 rfl) ?_
  obtain ⟨k6, hw⟩ := hw
  refine rc_V (As := []) (rest := []) X h k6 (by decide) rfl (meX1_sheetCount l G _ _ _ hw) gV_X6_124 rfl rfl hdV_X1_sheetCount rfl ⟨Nat.le_of_ble_eq_true rfl, Nat.le_of_ble_eq_true rfl⟩ hl.1 rfl (Nat.le_of_ble_eq_true rfl) ⟨Nat.le_of_ble_eq_true rfl, Nat.le_of_ble_eq_true rfl⟩ dX6_leastByTrying_7 (fun x7 S5 H locs hw h => ?_)
  refine lv_bipush (v := (nI 6)) hx hb dX6_leastByTrying_10 (by decide) ?_
  refine lv_icmp_le (tgt := 25) hx hb dX6_leastByTrying_12 (by decide) (fun c8 => ?_) (fun c8 => ?_)
  · have hw := hw.1 c8
    refine lv_aload_n hx hb dX6_leastByTrying_25 rfl (lv_at hl 1 rfl) ?_
    refine lv_aload_n hx hb dX6_leastByTrying_26 rfl (lv_at hl 0 rfl) ?_
    obtain ⟨k10, hw⟩ := hw
    refine rc_V (As := [.ref o4]) (rest := []) X h k10 (by decide) rfl (meX6_loadOrders l G _ _ _ _ hw) gV_X6_197 rfl rfl hdV_X6_loadOrders rfl ⟨Nat.le_of_ble_eq_true rfl, Nat.le_of_ble_eq_true rfl⟩ hl.1 rfl (Nat.le_of_ble_eq_true rfl) ⟨Nat.le_of_ble_eq_true rfl, Nat.le_of_ble_eq_true rfl⟩ dX6_leastByTrying_27 (fun u11 S9 H locs hw h => ?_)
    refine lv_aload_n hx hb dX6_leastByTrying_30 rfl (lv_at hl 1 rfl) ?_
    obtain ⟨k12, hw⟩ := hw
    obtain ⟨o13, eo13, hw⟩ := hw
    refine r_getR X h k12 2 eo13  (by decide) rfl inX6 (by decide) rfl q122 rfl dX6_leastByTrying_31 ?_
    refine lv_aload_n hx hb dX6_leastByTrying_34 rfl (lv_at hl 0 rfl) ?_
    obtain ⟨k14, hw⟩ := hw
    refine r_getIN X h k14 0  (by decide) rfl inX1 (by decide) rfl q415 rfl dX6_leastByTrying_35 ?_
    obtain ⟨k16, hw⟩ := hw
    refine rc_V (As := [.int (mI S9 o4 0)]) (rest := []) X h k16 (by decide) rfl (meX5_bindingMinutes l G _ _ _ _ hw) gV_X6_201 rfl rfl hdV_X5_bindingMinutes rfl ⟨Nat.le_of_ble_eq_true rfl, Nat.le_of_ble_eq_true rfl⟩ hl.1 rfl (Nat.le_of_ble_eq_true rfl) ⟨Nat.le_of_ble_eq_true rfl, Nat.le_of_ble_eq_true rfl⟩ dX6_leastByTrying_38 (fun x17 S15 H locs hw h => ?_)
    refine lv_aload_n hx hb dX6_leastByTrying_41 rfl (lv_at hl 1 rfl) ?_
    obtain ⟨k18, hw⟩ := hw
    obtain ⟨o19, eo19, hw⟩ := hw
    refine r_getR X h k18 4 eo19  (by decide) rfl inX6 (by decide) rfl q124 rfl dX6_leastByTrying_42 ?_
    obtain ⟨k21, hw⟩ := hw
    refine rc_V (As := []) (rest := [.int x17]) X h k21 (by decide) rfl (meX3_leastOfAllOrders l G _ _ _ hw) gV_X6_210 rfl rfl hdV_X3_leastOfAllOrders rfl ⟨Nat.le_of_ble_eq_true rfl, Nat.le_of_ble_eq_true rfl⟩ hl.1 rfl (Nat.le_of_ble_eq_true rfl) ⟨Nat.le_of_ble_eq_true rfl, Nat.le_of_ble_eq_true rfl⟩ dX6_leastByTrying_45 (fun x22 S20 H locs hw h => ?_)
    refine lv_iadd hx hb dX6_leastByTrying_48 ?_
    exact vx_ret (en_i X h hr hw (Nat.le_of_ble_eq_true rfl) (Nat.le_of_ble_eq_true rfl) dX6_leastByTrying_49)
  · have hw := hw.2 c8
    exact en_x 5 X h hl9 th_X6_208 hl.1 hno dX6_leastByTrying_15 dX6_leastByTrying_18 dX6_leastByTrying_19 dX6_leastByTrying_21 dX6_leastByTrying_24 ⟨Nat.le_of_ble_eq_true rfl, Nat.le_of_ble_eq_true rfl⟩ ⟨Nat.le_of_ble_eq_true rfl, Nat.le_of_ble_eq_true rfl⟩ ⟨Nat.le_of_ble_eq_true rfl, Nat.le_of_ble_eq_true rfl⟩ hw
abbrev rmL_leastByTrying : Room := { frames := 21, cells := 3, slots := 18, locals := 591 }
def wpL_leastByTrying (S : Mem) (a0 : Nat) (p1 : Int32) (post : Int32 → Mem → Prop) : Prop := isK S a0 6 ∧ (wpX6_leastByTrying S a0 p1 (fun x3 S1 => post x3 S1) (fun k4 S5 => (k4 = 1 → (post (-77 : Int32) S5)) ∧ (k4 = 2 → (post (-79 : Int32) S5)) ∧ (k4 = 5 → (post (-76 : Int32) S5)) ∧ (k4 = 1 ∨ k4 = 2 ∨ k4 = 5)))
set_option maxHeartbeats 4000000 in
set_option maxRecDepth 100000 in
theorem meL_leastByTrying (l : Launch) (hl9 : l.stackTraces = false) (G : GT) (S : Mem) (a0 : Nat) (p1 : Int32) (post : Int32 → Mem → Prop) (hw : wpL_leastByTrying S a0 p1 post) : CN emI l yL_leastByTrying (wsH yL_leastByTrying cL_leastByTrying 3 (some .int) [(0, 5, 6, 26), (0, 5, 10, 20), (0, 5, 14, 63)]) rmL_leastByTrying 3 18 G [.ref a0, .int p1] S post := by
  refine ch_open RL rfl (by decide +kernel) (Nat.le_of_ble_eq_true rfl) ?_
  intro p e s m args below meth c A X h hr hTab ls hl
  have hl : lv_has ls 3 [(0, .ref a0), (1, .int p1)] := hl
  have hx := X.1
  have hb := X.2.1
  have hown := X.2.2.2.1
  unfold wpL_leastByTrying at hw
  refine lv_aload_n hx hb dL_leastByTrying_0 rfl (lv_at hl 0 rfl) ?_
  refine lv_iload_n hx hb dL_leastByTrying_1 rfl (lv_at hl 1 rfl) ?_
  obtain ⟨k2, hw⟩ := hw
  refine rx_VH (As := [.int p1]) (rest := []) X h k2 (by decide) rfl (meX6_leastByTrying l hl9 G _ _ _ _ _ hw) gV_L_71 rfl rfl hdV_X6_leastByTrying rfl ⟨Nat.le_of_ble_eq_true rfl, Nat.le_of_ble_eq_true rfl⟩ hl.1 rfl (Nat.le_of_ble_eq_true rfl) ⟨Nat.le_of_ble_eq_true rfl, Nat.le_of_ble_eq_true rfl⟩ dL_leastByTrying_2 (fun k4 S5 H locs q9 ce hw h hce hcv hcl => ?_) (fun x3 S1 H locs hw h => ?_)
  · rcases hw.2.2.2 with hk9 | hk9 | hk9
    · subst hk9
      have hw := hw.1 rfl
      refine vx_catch (own := RL) (name := "java/lang/IndexOutOfBoundsException") (E := xn 1) hown [] ⟨0, 5, 6, 26⟩ [⟨0, 5, 10, 20⟩, ⟨0, 5, 14, 63⟩] (by rw [hTab]; rfl) (fun z hz => nomatch hz) (by decide) (by decide) (X.hts q262) (va_Nw.use (by rfl) (X.nw q296)) hce hcv hcl ?_
      refine lv_astore_n (lv' := [(2, .ref q9), (0, .ref a0), (1, .int p1)]) hx hb dL_leastByTrying_6 rfl hl (by decide) rfl (fun ls hl => ?_)
      refine lv_bipush (v := (-77 : Int32)) hx hb dL_leastByTrying_7 (by decide) ?_
      exact (en_i X h hr hw (Nat.le_of_ble_eq_true rfl) (Nat.le_of_ble_eq_true rfl) dL_leastByTrying_9)
    · subst hk9
      have hw := hw.2.1 rfl
      have hpass2 : ∀ z ∈ ([⟨0, 5, 6, 26⟩] : List ExceptionTableEntry), covers z 2 = false ∨ (z.catchType ≠ 0 ∧ ∃ nm : String, (Cond.classLink RL z.catchType nm).before args s = true ∧ va_Nc (xn 2) nm s) := by
        intro z hz
        rcases List.mem_cons.mp hz with rfl | hz
        · exact Or.inr ⟨by decide, "java/lang/IndexOutOfBoundsException", X.hts q262, X.2.2.2.2.2.2.1.2.2.2.2.1 ("java/lang/IllegalStateException", "java/lang/IndexOutOfBoundsException") (by decide +kernel)⟩
        cases hz
      refine vx_catch (own := RL) (name := "java/lang/IllegalStateException") (E := xn 2) hown [⟨0, 5, 6, 26⟩] ⟨0, 5, 10, 20⟩ [⟨0, 5, 14, 63⟩] (by rw [hTab]; rfl) (hpass2) (by decide) (by decide) (X.hts q179) (va_Nw.use (by rfl) (X.nw q186)) hce hcv hcl ?_
      refine lv_astore_n (lv' := [(2, .ref q9), (0, .ref a0), (1, .int p1)]) hx hb dL_leastByTrying_10 rfl hl (by decide) rfl (fun ls hl => ?_)
      refine lv_bipush (v := (-79 : Int32)) hx hb dL_leastByTrying_11 (by decide) ?_
      exact (en_i X h hr hw (Nat.le_of_ble_eq_true rfl) (Nat.le_of_ble_eq_true rfl) dL_leastByTrying_13)
    · subst hk9
      have hw := hw.2.2.1 rfl
      have hpass5 : ∀ z ∈ ([⟨0, 5, 6, 26⟩, ⟨0, 5, 10, 20⟩] : List ExceptionTableEntry), covers z 2 = false ∨ (z.catchType ≠ 0 ∧ ∃ nm : String, (Cond.classLink RL z.catchType nm).before args s = true ∧ va_Nc (xn 5) nm s) := by
        intro z hz
        rcases List.mem_cons.mp hz with rfl | hz
        · exact Or.inr ⟨by decide, "java/lang/IndexOutOfBoundsException", X.hts q262, X.2.2.2.2.2.2.1.2.2.2.2.1 ("java/lang/UnsupportedOperationException", "java/lang/IndexOutOfBoundsException") (by decide +kernel)⟩
        rcases List.mem_cons.mp hz with rfl | hz
        · exact Or.inr ⟨by decide, "java/lang/IllegalStateException", X.hts q179, X.2.2.2.2.2.2.1.2.2.2.2.1 ("java/lang/UnsupportedOperationException", "java/lang/IllegalStateException") (by decide +kernel)⟩
        cases hz
      refine vx_catch (own := RL) (name := "java/lang/UnsupportedOperationException") (E := xn 5) hown [⟨0, 5, 6, 26⟩, ⟨0, 5, 10, 20⟩] ⟨0, 5, 14, 63⟩ [] (by rw [hTab]; rfl) (hpass5) (by decide) (by decide) (X.hts q481) (va_Nw.use (by rfl) (X.nw q517)) hce hcv hcl ?_
      refine lv_astore_n (lv' := [(2, .ref q9), (0, .ref a0), (1, .int p1)]) hx hb dL_leastByTrying_14 rfl hl (by decide) rfl (fun ls hl => ?_)
      refine lv_bipush (v := (-76 : Int32)) hx hb dL_leastByTrying_15 (by decide) ?_
      exact (en_i X h hr hw (Nat.le_of_ble_eq_true rfl) (Nat.le_of_ble_eq_true rfl) dL_leastByTrying_17)
  · exact (en_i X h hr hw (Nat.le_of_ble_eq_true rfl) (Nat.le_of_ble_eq_true rfl) dL_leastByTrying_5)
abbrev rmL_areLeast : Room := { frames := 22, cells := 136, slots := 816, locals := 613 }
theorem rcL_areLeast {a : Nat} (h : a ≤ 136) : a ≤ rmL_areLeast.cells := h
theorem rsL_areLeast {a : Nat} (h : a ≤ 816) : a ≤ rmL_areLeast.slots := h
def wcL_areLeast_148 (a0 : Nat) (a1 : Nat) (a2 : Nat) (post : Int32 → Mem → Prop) (J : Int32 → Int32 → Mem → Prop) (w3 : Int32) (w4 : Int32) (S : Mem) : Prop := ∀ x17 : Int32, x17 = (w4 + (nI 1)) → (J w3 x17 S)
set_option maxHeartbeats 8000000 in
set_option maxRecDepth 100000 in
theorem lcL_areLeast_148 {p : Program} {l : Launch} {e : Env} {s : State} {m : MethodId} {args : Array Value} {below : List Frame} {meth : Method} {c : Code} {G : GT} {A : Nat → Prop} (X : Cx p s m args meth c cL_areLeast 9 RL G A) (hr : meth.sig.returnType = (some .boolean)) (hl9 : l.stackTraces = false) (a0 : Nat) (a1 : Nat) (a2 : Nat) (post : Int32 → Mem → Prop) (J : Int32 → Int32 → Mem → Prop) (Bc Bs : Nat) (hJ : ∀ (w3 : Int32) (w4 : Int32) (S : Mem), J w3 w4 S → ∀ (H : Heap) (locs : List Loc) (ls : Array Slot) (kc ks : Nat), kc + Bc ≤ 136 → ks + Bs ≤ 816 → Hx G A s.heap H locs S → lv_has ls 9 [(0, .ref a0), (1, .ref a1), (2, .ref a2), (3, .int w3), (4, .int w4)] → W p l e rmL_areLeast s m args below meth c H locs kc ks (MQ below (QN emI post G A) args s 136 816 A) (F0 m 5 ls [])) : ∀ (w3 : Int32) (w4 : Int32) (S : Mem) (hw : wcL_areLeast_148 a0 a1 a2 post J w3 w4 S) (H : Heap) (locs : List Loc) (ls : Array Slot) (kc ks : Nat), kc + (0 + Bc) ≤ 136 → ks + (0 + Bs) ≤ 816 → Hx G A s.heap H locs S → lv_has ls 9 [(0, .ref a0), (1, .ref a1), (2, .ref a2), (3, .int w3), (4, .int w4)] → W p l e rmL_areLeast s m args below meth c H locs kc ks (MQ below (QN emI post G A) args s 136 816 A) (F0 m 148 ls []) := by
  have hx := X.1
  have hb := X.2.1
  have hown := X.2.2.2.1
  intro w3 w4 S hw H locs ls kc ks hkc hks h hl
  unfold wcL_areLeast_148 at hw
  obtain ⟨x17, ex17⟩ : ∃ y : Int32, y = (w4 + (nI 1)) := ⟨_, rfl⟩
  have hw := hw x17 ex17
  refine lv_iinc (v := x17) (lv' := [(4, .int x17), (0, .ref a0), (1, .ref a1), (2, .ref a2), (3, .int w3)]) hx hb dL_areLeast_148 hl (k := 4) rfl (by rw [ex17]; rfl) (by decide) rfl (fun ls hl => ?_)
  refine lv_goto (tgt := 5) hx hb dL_areLeast_151 (by decide) ?_
  exact hJ _ _ _ hw _ _ _ _ _ (by omega) (by omega) h (lv_sub hl [1, 2, 3, 4, 0] rfl)
def wlL_areLeast_35 (a0 : Nat) (a1 : Nat) (a2 : Nat) (post : Int32 → Mem → Prop) (J : Int32 → Int32 → Mem → Prop) : Nat → Int32 → Int32 → Int32 → Int32 → Int32 → Int32 → Mem → Prop
  | 0 => fun _ _ _ _ _ _ _ => False
  | n + 1 => fun w3 w4 w5 w6 w7 w8 S => (w6 ≤ w8 → ((0 ≤ w6 → ((w5 < w7 → (False)) ∧ (¬ w5 < w7 → ((((nI 15) + ((nI 40) * w6)) < w5 → (False)) ∧ (¬ ((nI 15) + ((nI 40) * w6)) < w5 → ((w5 < 0 → (False)) ∧ (¬ w5 < 0 → ((w6 ≤ (nI 6) → (wpL_leastByTrying S a0 w4 (fun x14 S13 => (¬ x14 = w5 → (False)) ∧ (x14 = w5 → (∀ x16 : Int32, x16 = (w3 &&& (nI 1)) → (wcL_areLeast_148 a0 a1 a2 post J x16 w4 S13)))))) ∧ (¬ w6 ≤ (nI 6) → (wpL_leastByTrying S a0 w4 (fun x19 S18 => (¬ x19 = (-76 : Int32) → (False)) ∧ (x19 = (-76 : Int32) → (∀ x21 : Int32, x21 = (w3 &&& (nI 1)) → (wcL_areLeast_148 a0 a1 a2 post J x21 w4 S18)))))))))))))) ∧ (¬ 0 ≤ w6 → ((¬ w5 = (-79 : Int32) → (False)) ∧ (w5 = (-79 : Int32) → (∀ x23 : Int32, x23 = (w3 &&& (nI 1)) → (wcL_areLeast_148 a0 a1 a2 post J x23 w4 S))))))) ∧ (¬ w6 ≤ w8 → (wpL_makeready S a0 w4 w8 (fun x25 S24 => ∀ x26 : Int32, x26 = (if x25 < w7 then x25 else w7) → (∀ x27 : Int32, x27 = (w8 + (nI 1)) → (wlL_areLeast_35 a0 a1 a2 post J n w3 w4 w5 w6 x26 x27 S24)))))
set_option maxHeartbeats 8000000 in
set_option maxRecDepth 100000 in
theorem llL_areLeast_35 {p : Program} {l : Launch} {e : Env} {s : State} {m : MethodId} {args : Array Value} {below : List Frame} {meth : Method} {c : Code} {G : GT} {A : Nat → Prop} (X : Cx p s m args meth c cL_areLeast 9 RL G A) (hr : meth.sig.returnType = (some .boolean)) (hl9 : l.stackTraces = false) (a0 : Nat) (a1 : Nat) (a2 : Nat) (post : Int32 → Mem → Prop) (J : Int32 → Int32 → Mem → Prop) (Bc Bs : Nat) (hJ : ∀ (w3 : Int32) (w4 : Int32) (S : Mem), J w3 w4 S → ∀ (H : Heap) (locs : List Loc) (ls : Array Slot) (kc ks : Nat), kc + Bc ≤ 136 → ks + Bs ≤ 816 → Hx G A s.heap H locs S → lv_has ls 9 [(0, .ref a0), (1, .ref a1), (2, .ref a2), (3, .int w3), (4, .int w4)] → W p l e rmL_areLeast s m args below meth c H locs kc ks (MQ below (QN emI post G A) args s 136 816 A) (F0 m 5 ls [])) : ∀ (n : Nat) (w3 : Int32) (w4 : Int32) (w5 : Int32) (w6 : Int32) (w7 : Int32) (w8 : Int32) (S : Mem) (hw : wlL_areLeast_35 a0 a1 a2 post J n w3 w4 w5 w6 w7 w8 S) (H : Heap) (locs : List Loc) (ls : Array Slot) (kc ks : Nat), kc + (n * 3 + 3 + Bc) ≤ 136 → ks + (n * 18 + 18 + Bs) ≤ 816 → Hx G A s.heap H locs S → lv_has ls 9 [(0, .ref a0), (1, .ref a1), (2, .ref a2), (3, .int w3), (4, .int w4), (5, .int w5), (6, .int w6), (7, .int w7), (8, .int w8)] → W p l e rmL_areLeast s m args below meth c H locs kc ks (MQ below (QN emI post G A) args s 136 816 A) (F0 m 35 ls []) := by
  have hx := X.1
  have hb := X.2.1
  have hown := X.2.2.2.1
  intro n
  induction n with
  | zero =>
    intro _ _ _ _ _ _ _ hw
    exact hw.elim
  | succ n ih =>
    intro w3 w4 w5 w6 w7 w8 S hw H locs ls kc ks hkc hks h hl
    refine lv_iload hx hb dL_areLeast_35 (lv_at hl 8 rfl) ?_
    refine lv_iload hx hb dL_areLeast_37 (lv_at hl 6 rfl) ?_
    refine lv_icmp_ge (tgt := 63) hx hb dL_areLeast_39 (by decide) (fun c7 => ?_) (fun c7 => ?_)
    · have hw := hw.1 c7
      refine lv_iload_n hx hb dL_areLeast_63 rfl (lv_at hl 3 rfl) ?_
      refine lv_iload hx hb dL_areLeast_64 (lv_at hl 6 rfl) ?_
      refine lv_if_ge (tgt := 84) hx hb dL_areLeast_66 (by decide) (fun c8 => ?_) (fun c8 => ?_)
      · have hw := hw.1 c8
        refine lv_iload hx hb dL_areLeast_84 (lv_at hl 5 rfl) ?_
        refine lv_iload hx hb dL_areLeast_86 (lv_at hl 7 rfl) ?_
        refine lv_icmp_lt (tgt := 145) hx hb dL_areLeast_88 (by decide) (fun c9 => ?_) (fun c9 => ?_)
        · have hw := hw.1 c9
          exact hw.elim
        · have hw := hw.2 c9
          refine lv_iload hx hb dL_areLeast_91 (lv_at hl 5 rfl) ?_
          refine lv_bipush (v := (nI 15)) hx hb dL_areLeast_93 (by decide) ?_
          refine lv_bipush (v := (nI 40)) hx hb dL_areLeast_95 (by decide) ?_
          refine lv_iload hx hb dL_areLeast_97 (lv_at hl 6 rfl) ?_
          refine lv_imul hx hb dL_areLeast_99 ?_
          refine lv_iadd hx hb dL_areLeast_100 ?_
          refine lv_icmp_gt (tgt := 145) hx hb dL_areLeast_101 (by decide) (fun c10 => ?_) (fun c10 => ?_)
          · have hw := hw.1 c10
            exact hw.elim
          · have hw := hw.2 c10
            refine lv_iload hx hb dL_areLeast_104 (lv_at hl 5 rfl) ?_
            refine lv_if_lt (tgt := 145) hx hb dL_areLeast_106 (by decide) (fun c11 => ?_) (fun c11 => ?_)
            · have hw := hw.1 c11
              exact hw.elim
            · have hw := hw.2 c11
              refine lv_iload hx hb dL_areLeast_109 (lv_at hl 6 rfl) ?_
              refine lv_bipush (v := (nI 6)) hx hb dL_areLeast_111 (by decide) ?_
              refine lv_icmp_le (tgt := 130) hx hb dL_areLeast_113 (by decide) (fun c12 => ?_) (fun c12 => ?_)
              · have hw := hw.1 c12
                refine lv_aload_n hx hb dL_areLeast_130 rfl (lv_at hl 0 rfl) ?_
                refine lv_iload hx hb dL_areLeast_131 (lv_at hl 4 rfl) ?_
                refine rc_H (As := [.ref a0, .int w4]) (rest := [.int w3]) X h (meL_leastByTrying l hl9 G _ _ _ _ hw) gS_L_191 rfl rfl hdS_L_leastByTrying rfl ⟨Nat.le_of_ble_eq_true rfl, Nat.le_of_ble_eq_true rfl⟩ hl.1 rfl (Nat.le_of_ble_eq_true rfl) ⟨rcL_areLeast (by omega), rsL_areLeast (by omega)⟩ dL_areLeast_133 (fun x14 S13 H locs hw h => ?_)
                refine lv_iload hx hb dL_areLeast_136 (lv_at hl 5 rfl) ?_
                refine lv_icmp_ne (tgt := 145) hx hb dL_areLeast_138 (by decide) (fun c15 => ?_) (fun c15 => ?_)
                · have hw := hw.1 c15
                  exact hw.elim
                · have hw := hw.2 c15
                  refine lv_iconst (v := (nI 1)) hx hb dL_areLeast_141 (by decide) ?_
                  refine lv_goto (tgt := 146) hx hb dL_areLeast_142 (by decide) ?_
                  refine lv_iand hx hb dL_areLeast_146 ?_
                  refine lv_topi (fun x16 ex16 => ?_)
                  have hw := hw x16 ex16
                  refine lv_istore_n (lv' := [(3, .int x16), (0, .ref a0), (1, .ref a1), (2, .ref a2), (4, .int w4), (5, .int w5), (6, .int w6), (7, .int w7), (8, .int w8)]) hx hb dL_areLeast_147 rfl hl (by decide) rfl (fun ls hl => ?_)
                  exact lcL_areLeast_148 X hr hl9 _ _ _ _ _ Bc Bs hJ _ _ _ hw _ _ _ _ _ (by omega) (by omega) h (lv_sub hl [1, 2, 3, 0, 4] rfl)
              · have hw := hw.2 c12
                refine lv_aload_n hx hb dL_areLeast_116 rfl (lv_at hl 0 rfl) ?_
                refine lv_iload hx hb dL_areLeast_117 (lv_at hl 4 rfl) ?_
                refine rc_H (As := [.ref a0, .int w4]) (rest := [.int w3]) X h (meL_leastByTrying l hl9 G _ _ _ _ hw) gS_L_191 rfl rfl hdS_L_leastByTrying rfl ⟨Nat.le_of_ble_eq_true rfl, Nat.le_of_ble_eq_true rfl⟩ hl.1 rfl (Nat.le_of_ble_eq_true rfl) ⟨rcL_areLeast (by omega), rsL_areLeast (by omega)⟩ dL_areLeast_119 (fun x19 S18 H locs hw h => ?_)
                refine lv_bipush (v := (-76 : Int32)) hx hb dL_areLeast_122 (by decide) ?_
                refine lv_icmp_ne (tgt := 145) hx hb dL_areLeast_124 (by decide) (fun c20 => ?_) (fun c20 => ?_)
                · have hw := hw.1 c20
                  exact hw.elim
                · have hw := hw.2 c20
                  refine lv_goto (tgt := 141) hx hb dL_areLeast_127 (by decide) ?_
                  refine lv_iconst (v := (nI 1)) hx hb dL_areLeast_141 (by decide) ?_
                  refine lv_goto (tgt := 146) hx hb dL_areLeast_142 (by decide) ?_
                  refine lv_iand hx hb dL_areLeast_146 ?_
                  refine lv_topi (fun x21 ex21 => ?_)
                  have hw := hw x21 ex21
                  refine lv_istore_n (lv' := [(3, .int x21), (0, .ref a0), (1, .ref a1), (2, .ref a2), (4, .int w4), (5, .int w5), (6, .int w6), (7, .int w7), (8, .int w8)]) hx hb dL_areLeast_147 rfl hl (by decide) rfl (fun ls hl => ?_)
                  exact lcL_areLeast_148 X hr hl9 _ _ _ _ _ Bc Bs hJ _ _ _ hw _ _ _ _ _ (by omega) (by omega) h (lv_sub hl [1, 2, 3, 0, 4] rfl)
      · have hw := hw.2 c8
        refine lv_iload hx hb dL_areLeast_69 (lv_at hl 5 rfl) ?_
        refine lv_bipush (v := (-79 : Int32)) hx hb dL_areLeast_71 (by decide) ?_
        refine lv_icmp_ne (tgt := 80) hx hb dL_areLeast_73 (by decide) (fun c22 => ?_) (fun c22 => ?_)
        · have hw := hw.1 c22
          exact hw.elim
        · have hw := hw.2 c22
          refine lv_iconst (v := (nI 1)) hx hb dL_areLeast_76 (by decide) ?_
          refine lv_goto (tgt := 146) hx hb dL_areLeast_77 (by decide) ?_
          refine lv_iand hx hb dL_areLeast_146 ?_
          refine lv_topi (fun x23 ex23 => ?_)
          have hw := hw x23 ex23
          refine lv_istore_n (lv' := [(3, .int x23), (0, .ref a0), (1, .ref a1), (2, .ref a2), (4, .int w4), (5, .int w5), (6, .int w6), (7, .int w7), (8, .int w8)]) hx hb dL_areLeast_147 rfl hl (by decide) rfl (fun ls hl => ?_)
          exact lcL_areLeast_148 X hr hl9 _ _ _ _ _ Bc Bs hJ _ _ _ hw _ _ _ _ _ (by omega) (by omega) h (lv_sub hl [1, 2, 3, 0, 4] rfl)
    · have hw := hw.2 c7
      refine lv_iload hx hb dL_areLeast_42 (lv_at hl 7 rfl) ?_
      refine lv_aload_n hx hb dL_areLeast_44 rfl (lv_at hl 0 rfl) ?_
      refine lv_iload hx hb dL_areLeast_45 (lv_at hl 4 rfl) ?_
      refine lv_iload hx hb dL_areLeast_47 (lv_at hl 8 rfl) ?_
      refine rc_H (As := [.ref a0, .int w4, .int w8]) (rest := [.int w7]) X h (meL_makeready l hl9 G _ _ _ _ _ hw) gS_L_131 rfl rfl hdS_L_makeready rfl ⟨Nat.le_of_ble_eq_true rfl, Nat.le_of_ble_eq_true rfl⟩ hl.1 rfl (Nat.le_of_ble_eq_true rfl) ⟨rcL_areLeast (by omega), rsL_areLeast (by omega)⟩ dL_areLeast_49 (fun x25 S24 H locs hw h => ?_)
      refine r_min X hl.1 q797 q775 q30 q776 ⟨Nat.le_of_ble_eq_true rfl, Nat.le_of_ble_eq_true rfl⟩ ⟨rcL_areLeast (by omega), rsL_areLeast (by omega)⟩ dL_areLeast_52 ?_
      refine lv_topi (fun x26 ex26 => ?_)
      have hw := hw x26 ex26
      refine lv_istore (lv' := [(7, .int x26), (0, .ref a0), (1, .ref a1), (2, .ref a2), (3, .int w3), (4, .int w4), (5, .int w5), (6, .int w6), (8, .int w8)]) hx hb dL_areLeast_55 hl (by decide) rfl (fun ls hl => ?_)
      obtain ⟨x27, ex27⟩ : ∃ y : Int32, y = (w8 + (nI 1)) := ⟨_, rfl⟩
      have hw := hw x27 ex27
      refine lv_iinc (v := x27) (lv' := [(8, .int x27), (7, .int x26), (0, .ref a0), (1, .ref a1), (2, .ref a2), (3, .int w3), (4, .int w4), (5, .int w5), (6, .int w6)]) hx hb dL_areLeast_57 hl (k := 8) rfl (by rw [ex27]; rfl) (by decide) rfl (fun ls hl => ?_)
      refine lv_goto (tgt := 35) hx hb dL_areLeast_60 (by decide) ?_
      exact ih _ _ _ _ _ _ _ hw _ _ _ _ _ (by omega) (by omega) h (lv_sub hl [2, 3, 4, 5, 6, 7, 8, 1, 0] rfl)
def wlL_areLeast_5 (a0 : Nat) (a1 : Nat) (a2 : Nat) (post : Int32 → Mem → Prop) : Nat → Int32 → Int32 → Mem → Prop
  | 0 => fun _ _ _ => False
  | n + 1 => fun w3 w4 S => ((nI 3) ≤ w4 → (vz_nar w3 ∧ (post w3 S))) ∧ (¬ (nI 3) ≤ w4 → (wpL_leastMakeready S a0 w4 (fun x4 S3 => wpL_sheets S3 a0 w4 (fun x6 S5 => ∃ m, m ≤ 9 ∧ wlL_areLeast_35 a0 a1 a2 post (wlL_areLeast_5 a0 a1 a2 post n) m w3 w4 x4 x6 (nI 999) (nI 0) S5))))
set_option maxHeartbeats 8000000 in
set_option maxRecDepth 100000 in
theorem llL_areLeast_5 {p : Program} {l : Launch} {e : Env} {s : State} {m : MethodId} {args : Array Value} {below : List Frame} {meth : Method} {c : Code} {G : GT} {A : Nat → Prop} (X : Cx p s m args meth c cL_areLeast 9 RL G A) (hr : meth.sig.returnType = (some .boolean)) (hl9 : l.stackTraces = false) (a0 : Nat) (a1 : Nat) (a2 : Nat) (post : Int32 → Mem → Prop) : ∀ (n : Nat) (w3 : Int32) (w4 : Int32) (S : Mem) (hw : wlL_areLeast_5 a0 a1 a2 post n w3 w4 S) (H : Heap) (locs : List Loc) (ls : Array Slot) (kc ks : Nat), kc + (n * 34 + 0) ≤ 136 → ks + (n * 204 + 0) ≤ 816 → Hx G A s.heap H locs S → lv_has ls 9 [(0, .ref a0), (1, .ref a1), (2, .ref a2), (3, .int w3), (4, .int w4)] → W p l e rmL_areLeast s m args below meth c H locs kc ks (MQ below (QN emI post G A) args s 136 816 A) (F0 m 5 ls []) := by
  have hx := X.1
  have hb := X.2.1
  have hown := X.2.2.2.1
  intro n
  induction n with
  | zero =>
    intro _ _ _ hw
    exact hw.elim
  | succ n ih =>
    intro w3 w4 S hw H locs ls kc ks hkc hks h hl
    refine lv_iload hx hb dL_areLeast_5 (lv_at hl 4 rfl) ?_
    refine lv_iconst (v := (nI 3)) hx hb dL_areLeast_7 (by decide) ?_
    refine lv_icmp_ge (tgt := 154) hx hb dL_areLeast_8 (by decide) (fun c1 => ?_) (fun c1 => ?_)
    · have hw := hw.1 c1
      refine lv_iload_n hx hb dL_areLeast_154 rfl (lv_at hl 3 rfl) ?_
      obtain ⟨b2, hw⟩ := hw
      exact (en_z X h hr b2 hw (by omega) (by omega) dL_areLeast_155)
    · have hw := hw.2 c1
      refine lv_aload_n hx hb dL_areLeast_11 rfl (lv_at hl 0 rfl) ?_
      refine lv_iload hx hb dL_areLeast_12 (lv_at hl 4 rfl) ?_
      refine rc_H (As := [.ref a0, .int w4]) (rest := []) X h (meL_leastMakeready l hl9 G _ _ _ _ hw) gS_L_184 rfl rfl hdS_L_leastMakeready rfl ⟨Nat.le_of_ble_eq_true rfl, Nat.le_of_ble_eq_true rfl⟩ hl.1 rfl (Nat.le_of_ble_eq_true rfl) ⟨rcL_areLeast (by omega), rsL_areLeast (by omega)⟩ dL_areLeast_14 (fun x4 S3 H locs hw h => ?_)
      refine lv_istore (lv' := [(5, .int x4), (0, .ref a0), (1, .ref a1), (2, .ref a2), (3, .int w3), (4, .int w4)]) hx hb dL_areLeast_17 hl (by decide) rfl (fun ls hl => ?_)
      refine lv_aload_n hx hb dL_areLeast_19 rfl (lv_at hl 1 rfl) ?_
      refine lv_iload hx hb dL_areLeast_20 (lv_at hl 5 rfl) ?_
      refine rc_H (As := [.ref a0, .int w4]) (rest := []) X h (meL_sheets l hl9 G _ _ _ _ hw) gS_L_152 rfl rfl hdS_L_sheets rfl ⟨Nat.le_of_ble_eq_true rfl, Nat.le_of_ble_eq_true rfl⟩ hl.1 rfl (Nat.le_of_ble_eq_true rfl) ⟨rcL_areLeast (by omega), rsL_areLeast (by omega)⟩ dL_areLeast_22 (fun x6 S5 H locs hw h => ?_)
      refine lv_istore (lv' := [(6, .int x6), (5, .int x4), (0, .ref a0), (1, .ref a1), (2, .ref a2), (3, .int w3), (4, .int w4)]) hx hb dL_areLeast_25 hl (by decide) rfl (fun ls hl => ?_)
      refine lv_sipush (v := (nI 999)) hx hb dL_areLeast_27 (by decide) ?_
      refine lv_istore (lv' := [(7, .int (nI 999)), (6, .int x6), (5, .int x4), (0, .ref a0), (1, .ref a1), (2, .ref a2), (3, .int w3), (4, .int w4)]) hx hb dL_areLeast_30 hl (by decide) rfl (fun ls hl => ?_)
      refine lv_iconst (v := (nI 0)) hx hb dL_areLeast_32 (by decide) ?_
      refine lv_istore (lv' := [(8, .int (nI 0)), (7, .int (nI 999)), (6, .int x6), (5, .int x4), (0, .ref a0), (1, .ref a1), (2, .ref a2), (3, .int w3), (4, .int w4)]) hx hb dL_areLeast_33 hl (by decide) rfl (fun ls hl => ?_)
      obtain ⟨n28, hn28, hw⟩ := hw
      exact llL_areLeast_35 X hr hl9 _ _ _ _ _ (n * 34 + 0) (n * 204 + 0) (fun w3 w4 S hw H locs ls kc ks h1 h2 h hl => ih w3 w4 S hw H locs ls kc ks (by omega) (by omega) h hl) n28 _ _ _ _ _ _ _ hw _ _ _ _ _ (by omega) (by omega) h (lv_sub hl [4, 5, 6, 7, 8, 3, 2, 1, 0] rfl)
def wpL_areLeast (S : Mem) (a0 : Nat) (a1 : Nat) (a2 : Nat) (post : Int32 → Mem → Prop) : Prop := ∃ m, m ≤ 4 ∧ wlL_areLeast_5 a0 a1 a2 post m (nI 1) (nI 0) S
set_option maxHeartbeats 4000000 in
set_option maxRecDepth 100000 in
theorem meL_areLeast (l : Launch) (hl9 : l.stackTraces = false) (G : GT) (S : Mem) (a0 : Nat) (a1 : Nat) (a2 : Nat) (post : Int32 → Mem → Prop) (hw : wpL_areLeast S a0 a1 a2 post) : CN emI l yL_areLeast (wsU yL_areLeast cL_areLeast 9 (some .boolean)) rmL_areLeast 136 816 G [.ref a0, .ref a1, .ref a2] S post := by
  refine cn_open RL rfl (by decide +kernel) (Nat.le_of_ble_eq_true rfl) ?_
  intro p e s m args below meth c A X h hr hin ls hl
  have hl : lv_has ls 9 [(0, .ref a0), (1, .ref a1), (2, .ref a2)] := hl
  have hx := X.1
  have hb := X.2.1
  have hown := X.2.2.2.1
  unfold wpL_areLeast at hw
  refine lv_iconst (v := (nI 1)) hx hb dL_areLeast_0 (by decide) ?_
  refine lv_istore_n (lv' := [(3, .int (nI 1)), (0, .ref a0), (1, .ref a1), (2, .ref a2)]) hx hb dL_areLeast_1 rfl hl (by decide) rfl (fun ls hl => ?_)
  refine lv_iconst (v := (nI 0)) hx hb dL_areLeast_2 (by decide) ?_
  refine lv_istore (lv' := [(4, .int (nI 0)), (3, .int (nI 1)), (0, .ref a0), (1, .ref a1), (2, .ref a2)]) hx hb dL_areLeast_3 hl (by decide) rfl (fun ls hl => ?_)
  obtain ⟨n29, hn29, hw⟩ := hw
  exact llL_areLeast_5 X hr hl9 _ _ _ _ n29 _ _ _ hw _ _ _ _ _ (by omega) (by omega) h (lv_sub hl [2, 3, 4, 1, 0] rfl)
