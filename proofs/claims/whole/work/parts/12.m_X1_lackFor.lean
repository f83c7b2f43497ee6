abbrev rmX1_lackFor : Room := { frames := 1, cells := 0, slots := 0, locals := 21 }
def wlX1_lackFor_10 (a0 : Nat) (p1 : Int32) (x3 : Int32) (post : Int32 → Mem → Prop)  : Nat → Int32 → Int32 → Mem → Prop
  | 0 => fun _ _ _ => False
  | n + 1 => fun w2 w4 S => (x3 ≤ w4 → (post w2 S)) ∧ (¬ x3 ≤ w4 → (isK S a0 1 ∧ (∃ o6, mR S a0 2 = some o6 ∧ (wpX6_at S o6 w4 (fun x8 S7 => ∀ x9 : Int32, x9 = (w2 + (if (nI 0) < (p1 - x8) then (p1 - x8) else (nI 0))) → (∀ x10 : Int32, x10 = (w4 + (nI 1)) → (wlX1_lackFor_10 a0 p1 x3 post n x9 x10 S7)))))))
set_option maxHeartbeats 4000000 in
set_option maxRecDepth 100000 in
theorem llX1_lackFor_10 {p : Program} {l : Launch} {e : Env} {s : State} {m : MethodId} {args : Array Value} {below : List Frame} {meth : Method} {c : Code} {G : GT} {A : Nat → Prop} (X : Cx p s m args meth c cX1_lackFor 5 RX1 G A) (hr : meth.sig.returnType = (some .int)) (a0 : Nat) (p1 : Int32) (x3 : Int32) (post : Int32 → Mem → Prop)   : ∀ (n : Nat) (w2 : Int32) (w4 : Int32) (S : Mem), wlX1_lackFor_10 a0 p1 x3 post n w2 w4 S → ∀ (H : Heap) (locs : List Loc) (ls : Array Slot), Hx G A s.heap H locs S → lv_has ls 5 [(0, .ref a0), (1, .int p1), (2, .int w2), (3, .int x3), (4, .int w4)] → W p l e rmX1_lackFor s m args below meth c H locs 0 0 (MQ below (QN emI post G A) args s 0 0 A) (F0 m 10 ls []) := by
  have hx := X.1
  have hb := X.2.1
  have hown := X.2.2.2.1
  intro n
  induction n with
  | zero =>
    intro _ _ _ hw
    exact hw.elim
  | succ n ih =>
    intro w2 w4 S hw H locs ls h hl
    refine lv_iload hx hb dX1_lackFor_10 (lv_at hl 4 rfl) ?_
    refine lv_iload_n hx hb dX1_lackFor_12 rfl (lv_at hl 3 rfl) ?_
    refine lv_icmp_ge (tgt := 40) hx hb dX1_lackFor_13 (by decide) (fun c4 => ?_) (fun c4 => ?_)
    · have hw := hw.1 c4
      refine lv_iload_n hx hb dX1_lackFor_40 rfl (lv_at hl 2 rfl) ?_
      exact (en_i X h hr hw (Nat.le_of_ble_eq_true rfl) (Nat.le_of_ble_eq_true rfl) dX1_lackFor_41)
    · have hw := hw.2 c4
      refine lv_iload_n hx hb dX1_lackFor_16 rfl (lv_at hl 2 rfl) ?_
      refine lv_iconst (v := (nI 0)) hx hb dX1_lackFor_17 (by decide) ?_
      refine lv_iload_n hx hb dX1_lackFor_18 rfl (lv_at hl 1 rfl) ?_
      refine lv_aload_n hx hb dX1_lackFor_19 rfl (lv_at hl 0 rfl) ?_
      obtain ⟨k5, hw⟩ := hw
      obtain ⟨o6, eo6, hw⟩ := hw
      refine r_getR X h k5 2 eo6  (by decide) rfl inX1 (by decide) rfl q432 rfl dX1_lackFor_20 ?_
      refine lv_iload hx hb dX1_lackFor_23 (lv_at hl 4 rfl) ?_
      refine rc_SN (As := [.ref o6, .int w4]) (rest := [.int p1, .int (nI 0), .int w2]) X h (meX6_at l G _ _ _ _ hw) gU_X1_30 q380 q33 q327 rfl rfl hdS_X6_at rfl ⟨Nat.le_of_ble_eq_true rfl, Nat.le_of_ble_eq_true rfl⟩ hl.1 rfl (Nat.le_of_ble_eq_true rfl) ⟨Nat.le_of_ble_eq_true rfl, Nat.le_of_ble_eq_true rfl⟩ dX1_lackFor_25 (fun x8 S7 H locs hw h => ?_)
      refine lv_isub hx hb dX1_lackFor_28 ?_
      refine r_max X hl.1 q703 q636 q50 q637 ⟨Nat.le_of_ble_eq_true rfl, Nat.le_of_ble_eq_true rfl⟩ ⟨Nat.le_of_ble_eq_true rfl, Nat.le_of_ble_eq_true rfl⟩ dX1_lackFor_29 ?_
      refine lv_iadd hx hb dX1_lackFor_32 ?_
      refine lv_topi (fun x9 ex9 => ?_)
      have hw := hw x9 ex9
      refine lv_istore_n (lv' := [(2, .int x9), (0, .ref a0), (1, .int p1), (3, .int x3), (4, .int w4)]) hx hb dX1_lackFor_33 rfl hl (by decide) rfl (fun ls hl => ?_)
      obtain ⟨x10, ex10⟩ : ∃ y : Int32, y = (w4 + (nI 1)) := ⟨_, rfl⟩
      have hw := hw x10 ex10
      refine lv_iinc (v := x10) (lv' := [(4, .int x10), (2, .int x9), (0, .ref a0), (1, .int p1), (3, .int x3)]) hx hb dX1_lackFor_34 hl (k := 4) rfl (by rw [ex10]; rfl) (by decide) rfl (fun ls hl => ?_)
      refine lv_goto (tgt := 10) hx hb dX1_lackFor_37 (by decide) ?_
      exact ih _ _ _ hw _ _ _ h (lv_sub hl [2, 3, 1, 4, 0] rfl)
def wpX1_lackFor (S : Mem) (a0 : Nat) (p1 : Int32) (post : Int32 → Mem → Prop) : Prop := isK S a0 1 ∧ (wpX1_sheetCount S a0 (fun x3 S1 => ∃ m, wlX1_lackFor_10 a0 p1 x3 post m (nI 0) (nI 0) S1))
set_option maxHeartbeats 4000000 in
set_option maxRecDepth 100000 in
theorem meX1_lackFor (l : Launch) (G : GT) (S : Mem) (a0 : Nat) (p1 : Int32) (post : Int32 → Mem → Prop) (hw : wpX1_lackFor S a0 p1 post) : CN emI l yX1_lackFor (wsU yX1_lackFor cX1_lackFor 5 (some .int)) rmX1_lackFor 0 0 G [.ref a0, .int p1] S post := by
  refine cn_open RX1 rfl (by decide +kernel) (Nat.le_of_ble_eq_true rfl) ?_
  intro p e s m args below meth c A X h hr hin ls hl
  have hl : lv_has ls 5 [(0, .ref a0), (1, .int p1)] := hl
  have hx := X.1
  have hb := X.2.1
  have hown := X.2.2.2.1
  unfold wpX1_lackFor at hw
  refine lv_iconst (v := (nI 0)) hx hb dX1_lackFor_0 (by decide) ?_
  refine lv_istore_n (lv' := [(2, .int (nI 0)), (0, .ref a0), (1, .int p1)]) hx hb dX1_lackFor_1 rfl hl (by decide) rfl (fun ls hl => ?_)
  refine lv_aload_n hx hb dX1_lackFor_2 rfl (lv_at hl 1 rfl) ?_
  obtain ⟨k2, hw⟩ := hw
  refine rc_V (As := []) (rest := []) X h k2 (by decide) rfl (meX1_sheetCount l G _ _ _ hw) gV_X1_46 rfl rfl hdV_X1_sheetCount rfl ⟨Nat.le_of_ble_eq_true rfl, Nat.le_of_ble_eq_true rfl⟩ hl.1 rfl (Nat.le_of_ble_eq_true rfl) ⟨Nat.le_of_ble_eq_true rfl, Nat.le_of_ble_eq_true rfl⟩ dX1_lackFor_3 (fun x3 S1 H locs hw h => ?_)
  refine lv_istore_n (lv' := [(3, .int x3), (2, .int (nI 0)), (0, .ref a0), (1, .int p1)]) hx hb dX1_lackFor_6 rfl hl (by decide) rfl (fun ls hl => ?_)
  refine lv_iconst (v := (nI 0)) hx hb dX1_lackFor_7 (by decide) ?_
  refine lv_istore (lv' := [(4, .int (nI 0)), (3, .int x3), (2, .int (nI 0)), (0, .ref a0), (1, .int p1)]) hx hb dX1_lackFor_8 hl (by decide) rfl (fun ls hl => ?_)
  obtain ⟨n11, hw⟩ := hw
  exact llX1_lackFor_10  X hr _ _ _ _ n11 _ _ _ hw _ _ _ h (lv_sub hl [3, 4, 2, 1, 0] rfl)
abbrev rmX1_addToStock : Room := { frames := 1, cells := 0, slots := 0, locals := 22 }
def wpX1_addToStock (S : Mem) (a0 : Nat) (p1 : Int32) (p2 : Int32) (post : Unit → Mem → Prop) : Prop := isK S a0 1 ∧ (∃ o2, mR S a0 2 = some o2 ∧ (wpX6_at S o2 p1 (fun x4 S3 => wpX6_put S3 o2 p1 (x4 + p2) (fun u6 S5 => post () S5))))
set_option maxHeartbeats 4000000 in
set_option maxRecDepth 100000 in
theorem meX1_addToStock (l : Launch) (G : GT) (S : Mem) (a0 : Nat) (p1 : Int32) (p2 : Int32) (post : Unit → Mem → Prop) (hw : wpX1_addToStock S a0 p1 p2 post) : CN emV l yX1_addToStock (wsU yX1_addToStock cX1_addToStock 3 none) rmX1_addToStock 0 0 G [.ref a0, .int p1, .int p2] S post := by
  refine cn_open RX1 rfl (by decide +kernel) (Nat.le_of_ble_eq_true rfl) ?_
  intro p e s m args below meth c A X h hr hin ls hl
  have hl : lv_has ls 3 [(0, .ref a0), (1, .int p1), (2, .int p2)] := hl
  have hx := X.1
  have hb := X.2.1
  have hown := X.2.2.2.1
  unfold wpX1_addToStock at hw
  refine lv_aload_n hx hb dX1_addToStock_0 rfl (lv_at hl 0 rfl) ?_
  obtain ⟨k1, hw⟩ := hw
  obtain ⟨o2, eo2, hw⟩ := hw
  refine r_getR X h k1 2 eo2  (by decide) rfl inX1 (by decide) rfl q432 rfl dX1_addToStock_1 ?_
  refine lv_iload_n hx hb dX1_addToStock_4 rfl (lv_at hl 1 rfl) ?_
  refine lv_aload_n hx hb dX1_addToStock_5 rfl (lv_at hl 0 rfl) ?_
  refine r_getR X h k1 2 eo2  (by decide) rfl inX1 (by decide) rfl q432 rfl dX1_addToStock_6 ?_
  refine lv_iload_n hx hb dX1_addToStock_9 rfl (lv_at hl 1 rfl) ?_
  refine rc_SN (As := [.ref o2, .int p1]) (rest := [.int p1, .ref o2]) X h (meX6_at l G _ _ _ _ hw) gU_X1_30 q380 q33 q327 rfl rfl hdS_X6_at rfl ⟨Nat.le_of_ble_eq_true rfl, Nat.le_of_ble_eq_true rfl⟩ hl.1 rfl (Nat.le_of_ble_eq_true rfl) ⟨Nat.le_of_ble_eq_true rfl, Nat.le_of_ble_eq_true rfl⟩ dX1_addToStock_10 (fun x4 S3 H locs hw h => ?_)
  refine lv_iload_n hx hb dX1_addToStock_13 rfl (lv_at hl 2 rfl) ?_
  refine lv_iadd hx hb dX1_addToStock_14 ?_
  refine rc_SN (As := [.ref o2, .int p1, .int (x4 + p2)]) (rest := []) X h (meX6_put l G _ _ _ _ _ hw) gU_X1_26 q385 q33 q334 rfl rfl hdS_X6_put rfl ⟨Nat.le_of_ble_eq_true rfl, Nat.le_of_ble_eq_true rfl⟩ hl.1 rfl (Nat.le_of_ble_eq_true rfl) ⟨Nat.le_of_ble_eq_true rfl, Nat.le_of_ble_eq_true rfl⟩ dX1_addToStock_15 (fun u6 S5 H locs hw h => ?_)
  exact (en_v X h hr hw (Nat.le_of_ble_eq_true rfl) (Nat.le_of_ble_eq_true rfl) dX1_addToStock_18)
abbrev rmX1_takeSheetsFor : Room := { frames := 2, cells := 0, slots := 0, locals := 44 }
def wlX1_takeSheetsFor_7 (a0 : Nat) (p1 : Int32) (x3 : Int32) (post : Unit → Mem → Prop)  : Nat → Int32 → Mem → Prop
  | 0 => fun _ _ => False
  | n + 1 => fun w3 S => (x3 ≤ w3 → (post () S)) ∧ (¬ x3 ≤ w3 → (isK S a0 1 ∧ (wpX1_addToStock S a0 w3 (-p1) (fun u7 S5 => ∀ x8 : Int32, x8 = (w3 + (nI 1)) → (wlX1_takeSheetsFor_7 a0 p1 x3 post n x8 S5)))))
set_option maxHeartbeats 4000000 in
set_option maxRecDepth 100000 in
theorem llX1_takeSheetsFor_7 {p : Program} {l : Launch} {e : Env} {s : State} {m : MethodId} {args : Array Value} {below : List Frame} {meth : Method} {c : Code} {G : GT} {A : Nat → Prop} (X : Cx p s m args meth c cX1_takeSheetsFor 4 RX1 G A) (hr : meth.sig.returnType = none) (a0 : Nat) (p1 : Int32) (x3 : Int32) (post : Unit → Mem → Prop)   : ∀ (n : Nat) (w3 : Int32) (S : Mem), wlX1_takeSheetsFor_7 a0 p1 x3 post n w3 S → ∀ (H : Heap) (locs : List Loc) (ls : Array Slot), Hx G A s.heap H locs S → lv_has ls 4 [(0, .ref a0), (1, .int p1), (2, .int x3), (3, .int w3)] → W p l e rmX1_takeSheetsFor s m args below meth c H locs 0 0 (MQ below (QN emV post G A) args s 0 0 A) (F0 m 7 ls []) := by
  have hx := X.1
  have hb := X.2.1
  have hown := X.2.2.2.1
  intro n
  induction n with
  | zero =>
    intro _ _ hw
    exact hw.elim
  | succ n ih =>
    intro w3 S hw H locs ls h hl
    refine lv_iload_n hx hb dX1_takeSheetsFor_7 rfl (lv_at hl 3 rfl) ?_
    refine lv_iload_n hx hb dX1_takeSheetsFor_8 rfl (lv_at hl 2 rfl) ?_
    refine lv_icmp_ge (tgt := 25) hx hb dX1_takeSheetsFor_9 (by decide) (fun c4 => ?_) (fun c4 => ?_)
    · have hw := hw.1 c4
      exact (en_v X h hr hw (Nat.le_of_ble_eq_true rfl) (Nat.le_of_ble_eq_true rfl) dX1_takeSheetsFor_25)
    · have hw := hw.2 c4
      refine lv_aload_n hx hb dX1_takeSheetsFor_12 rfl (lv_at hl 0 rfl) ?_
      refine lv_iload_n hx hb dX1_takeSheetsFor_13 rfl (lv_at hl 3 rfl) ?_
      refine lv_iload_n hx hb dX1_takeSheetsFor_14 rfl (lv_at hl 1 rfl) ?_
      refine lv_ineg hx hb dX1_takeSheetsFor_15 ?_
      obtain ⟨k6, hw⟩ := hw
      refine rc_V (As := [.int w3, .int (-p1)]) (rest := []) X h k6 (by decide) rfl (meX1_addToStock l G _ _ _ _ _ hw) gV_X1_67 rfl rfl hdV_X1_addToStock rfl ⟨Nat.le_of_ble_eq_true rfl, Nat.le_of_ble_eq_true rfl⟩ hl.1 rfl (Nat.le_of_ble_eq_true rfl) ⟨Nat.le_of_ble_eq_true rfl, Nat.le_of_ble_eq_true rfl⟩ dX1_takeSheetsFor_16 (fun u7 S5 H locs hw h => ?_)
      obtain ⟨x8, ex8⟩ : ∃ y : Int32, y = (w3 + (nI 1)) := ⟨_, rfl⟩
      have hw := hw x8 ex8
      refine lv_iinc (v := x8) (lv' := [(3, .int x8), (0, .ref a0), (1, .int p1), (2, .int x3)]) hx hb dX1_takeSheetsFor_19 hl (k := 3) rfl (by rw [ex8]; rfl) (by decide) rfl (fun ls hl => ?_)
      refine lv_goto (tgt := 7) hx hb dX1_takeSheetsFor_22 (by decide) ?_
      exact ih _ _ hw _ _ _ h (lv_sub hl [1, 2, 3, 0] rfl)
def wpX1_takeSheetsFor (S : Mem) (a0 : Nat) (p1 : Int32) (post : Unit → Mem → Prop) : Prop := isK S a0 1 ∧ (wpX1_sheetCount S a0 (fun x3 S1 => ∃ m, wlX1_takeSheetsFor_7 a0 p1 x3 post m (nI 0) S1))
set_option maxHeartbeats 4000000 in
set_option maxRecDepth 100000 in
theorem meX1_takeSheetsFor (l : Launch) (G : GT) (S : Mem) (a0 : Nat) (p1 : Int32) (post : Unit → Mem → Prop) (hw : wpX1_takeSheetsFor S a0 p1 post) : CN emV l yX1_takeSheetsFor (wsU yX1_takeSheetsFor cX1_takeSheetsFor 4 none) rmX1_takeSheetsFor 0 0 G [.ref a0, .int p1] S post := by
  refine cn_open RX1 rfl (by decide +kernel) (Nat.le_of_ble_eq_true rfl) ?_
  intro p e s m args below meth c A X h hr hin ls hl
  have hl : lv_has ls 4 [(0, .ref a0), (1, .int p1)] := hl
  have hx := X.1
  have hb := X.2.1
  have hown := X.2.2.2.1
  unfold wpX1_takeSheetsFor at hw
  refine lv_aload_n hx hb dX1_takeSheetsFor_0 rfl (lv_at hl 0 rfl) ?_
  obtain ⟨k2, hw⟩ := hw
  refine rc_V (As := []) (rest := []) X h k2 (by decide) rfl (meX1_sheetCount l G _ _ _ hw) gV_X1_46 rfl rfl hdV_X1_sheetCount rfl ⟨Nat.le_of_ble_eq_true rfl, Nat.le_of_ble_eq_true rfl⟩ hl.1 rfl (Nat.le_of_ble_eq_true rfl) ⟨Nat.le_of_ble_eq_true rfl, Nat.le_of_ble_eq_true rfl⟩ dX1_takeSheetsFor_1 (fun x3 S1 H locs hw h => ?_)
  refine lv_istore_n (lv' := [(2, .int x3), (0, .ref a0), (1, .int p1)]) hx hb dX1_takeSheetsFor_4 rfl hl (by decide) rfl (fun ls hl => ?_)
  refine lv_iconst (v := (nI 0)) hx hb dX1_takeSheetsFor_5 (by decide) ?_
  refine lv_istore_n (lv' := [(3, .int (nI 0)), (2, .int x3), (0, .ref a0), (1, .int p1)]) hx hb dX1_takeSheetsFor_6 rfl hl (by decide) rfl (fun ls hl => ?_)
  obtain ⟨n9, hw⟩ := hw
  exact llX1_takeSheetsFor_7  X hr _ _ _ _ n9 _ _ hw _ _ _ h (lv_sub hl [2, 3, 1, 0] rfl)
abbrev rmX2_init : Room := { frames := 1, cells := 2, slots := 32, locals := 20 }
def wpX2_init (S : Mem) (a0 : Nat) (p1 : Int32) (p2 : Int32) (p3 : Int32) (post : Unit → Mem → Prop) : Prop := isK S a0 2 ∧ (∀ S2 : Mem, S2 = (sI S a0 0 p1) → (∀ S3 : Mem, S3 = (sI S2 a0 1 p2) → (∀ S4 : Mem, S4 = (sI S3 a0 2 p3) → (∀ o5 : Nat, o5 ∉ mL S4 → (∀ S6 : Mem, S6 = (nA S4 o5 8 16) → (∀ S7 : Mem, S7 = (sR S6 a0 3 (some o5)) → (∀ o8 : Nat, o8 ∉ mL S7 → (∀ S9 : Mem, S9 = (nA S7 o8 8 16) → (∀ S10 : Mem, S10 = (sR S9 a0 4 (some o8)) → (post () S10))))))))))
set_option maxHeartbeats 4000000 in
set_option maxRecDepth 100000 in
theorem meX2_init (l : Launch) (G : GT) (S : Mem) (a0 : Nat) (p1 : Int32) (p2 : Int32) (p3 : Int32) (post : Unit → Mem → Prop) (hw : wpX2_init S a0 p1 p2 p3 post) : CN emV l yX2_init (wsU yX2_init cX2_init 4 none) rmX2_init 2 32 G [.ref a0, .int p1, .int p2, .int p3] S post := by
  refine cn_open RX2 rfl (by decide +kernel) (Nat.le_of_ble_eq_true rfl) ?_
  intro p e s m args below meth c A X h hr hin ls hl
  have hl : lv_has ls 4 [(0, .ref a0), (1, .int p1), (2, .int p2), (3, .int p3)] := hl
  have hx := X.1
  have hb := X.2.1
  have hown := X.2.2.2.1
  unfold wpX2_init at hw
  refine lv_aload_n hx hb dX2_init_0 rfl (lv_at hl 0 rfl) ?_
  refine r_obj X hl.1 q718 q59 q60 ⟨Nat.le_of_ble_eq_true rfl, Nat.le_of_ble_eq_true rfl⟩ ⟨Nat.le_of_ble_eq_true rfl, Nat.le_of_ble_eq_true rfl⟩ dX2_init_1 ?_
  refine lv_aload_n hx hb dX2_init_4 rfl (lv_at hl 0 rfl) ?_
  refine lv_iload_n hx hb dX2_init_5 rfl (lv_at hl 1 rfl) ?_
  obtain ⟨k1, hw⟩ := hw
  refine r_putIF X h k1 0 (by decide) rfl inX2 tyX2 tyX2_ok nmX2 (by decide) rfl (Nat.le_of_ble_eq_true rfl) q719 rfl rfl hin rfl (tyX2_ok 0 (by decide)) rfl rfl dX2_init_6 (fun H locs h => ?_)
  obtain ⟨S2, eS2⟩ : ∃ z : Mem, z = (sI S a0 0 p1) := ⟨_, rfl⟩
  rw [← eS2] at h
  have hw := hw S2 eS2
  refine lv_aload_n hx hb dX2_init_9 rfl (lv_at hl 0 rfl) ?_
  refine lv_iload_n hx hb dX2_init_10 rfl (lv_at hl 2 rfl) ?_
  refine r_putIF X h (kI eS2 k1) 1 (by decide) rfl inX2 tyX2 tyX2_ok nmX2 (by decide) rfl (Nat.le_of_ble_eq_true rfl) q721 rfl rfl hin rfl (tyX2_ok 1 (by decide)) rfl rfl dX2_init_11 (fun H locs h => ?_)
  obtain ⟨S3, eS3⟩ : ∃ z : Mem, z = (sI S2 a0 1 p2) := ⟨_, rfl⟩
  rw [← eS3] at h
  have hw := hw S3 eS3
  refine lv_aload_n hx hb dX2_init_14 rfl (lv_at hl 0 rfl) ?_
  refine lv_iload_n hx hb dX2_init_15 rfl (lv_at hl 3 rfl) ?_
  refine r_putIF X h (kI eS3 (kI eS2 k1)) 2 (by decide) rfl inX2 tyX2 tyX2_ok nmX2 (by decide) rfl (Nat.le_of_ble_eq_true rfl) q723 rfl rfl hin rfl (tyX2_ok 2 (by decide)) rfl rfl dX2_init_16 (fun H locs h => ?_)
  obtain ⟨S4, eS4⟩ : ∃ z : Mem, z = (sI S3 a0 2 p3) := ⟨_, rfl⟩
  rw [← eS4] at h
  have hw := hw S4 eS4
  refine lv_aload_n hx hb dX2_init_19 rfl (lv_at hl 0 rfl) ?_
  refine lv_bipush (v := (nI 16)) hx hb dX2_init_20 (by decide) ?_
  refine r_newI X h 16 q85 (by decide) ⟨Nat.le_of_ble_eq_true rfl, Nat.le_of_ble_eq_true rfl⟩ dX2_init_22 (fun o5 H ho5 h => ?_)
  have hw := hw o5 ho5
  obtain ⟨S6, eS6⟩ : ∃ z : Mem, z = (nA S4 o5 8 16) := ⟨_, rfl⟩
  rw [← eS6] at h
  have hw := hw S6 eS6
  refine r_putRF X h (kE eS6 (nA_keep (kI eS4 (kI eS3 (kI eS2 k1))) ho5)) 3 (by decide) rfl inX2 tyX2 tyX2_ok nmX2 (by decide) rfl (Nat.le_of_ble_eq_true rfl) q725 rfl rfl hin rfl (tyX2_ok 3 (by decide)) rfl rfl dX2_init_24 (fun H locs h => ?_)
  obtain ⟨S7, eS7⟩ : ∃ z : Mem, z = (sR S6 a0 3 (some o5)) := ⟨_, rfl⟩
  rw [← eS7] at h
  have hw := hw S7 eS7
  refine lv_aload_n hx hb dX2_init_27 rfl (lv_at hl 0 rfl) ?_
  refine lv_bipush (v := (nI 16)) hx hb dX2_init_28 (by decide) ?_
  refine r_newI X h 16 q85 (by decide) ⟨Nat.le_of_ble_eq_true rfl, Nat.le_of_ble_eq_true rfl⟩ dX2_init_30 (fun o8 H ho8 h => ?_)
  have hw := hw o8 ho8
  obtain ⟨S9, eS9⟩ : ∃ z : Mem, z = (nA S7 o8 8 16) := ⟨_, rfl⟩
  rw [← eS9] at h
  have hw := hw S9 eS9
  refine r_putRF X h (kE eS9 (nA_keep (kR eS7 (kE eS6 (nA_keep (kI eS4 (kI eS3 (kI eS2 k1))) ho5))) ho8)) 4 (by decide) rfl inX2 tyX2 tyX2_ok nmX2 (by decide) rfl (Nat.le_of_ble_eq_true rfl) q726 rfl rfl hin rfl (tyX2_ok 4 (by decide)) rfl rfl dX2_init_32 (fun H locs h => ?_)
  obtain ⟨S10, eS10⟩ : ∃ z : Mem, z = (sR S9 a0 4 (some o8)) := ⟨_, rfl⟩
  rw [← eS10] at h
  have hw := hw S10 eS10
  exact (en_v X h hr hw (Nat.le_of_ble_eq_true rfl) (Nat.le_of_ble_eq_true rfl) dX2_init_35)
abbrev rmX1_contentOf : Room := { frames := 1, cells := 0, slots := 0, locals := 21 }
def wpX1_contentOf (S : Mem) (a0 : Nat) (p1 : Int32) (post : Int32 → Mem → Prop) : Prop := isK S a0 1 ∧ (∃ o2, mR S a0 1 = some o2 ∧ (wpX6_at S o2 (p1 - (nI 1)) (fun x4 S3 => post x4 S3)))
set_option maxHeartbeats 4000000 in
set_option maxRecDepth 100000 in
theorem meX1_contentOf (l : Launch) (G : GT) (S : Mem) (a0 : Nat) (p1 : Int32) (post : Int32 → Mem → Prop) (hw : wpX1_contentOf S a0 p1 post) : CN emI l yX1_contentOf (wsU yX1_contentOf cX1_contentOf 2 (some .int)) rmX1_contentOf 0 0 G [.ref a0, .int p1] S post := by
  refine cn_open RX1 rfl (by decide +kernel) (Nat.le_of_ble_eq_true rfl) ?_
  intro p e s m args below meth c A X h hr hin ls hl
  have hl : lv_has ls 2 [(0, .ref a0), (1, .int p1)] := hl
  have hx := X.1
  have hb := X.2.1
  have hown := X.2.2.2.1
  unfold wpX1_contentOf at hw
  refine lv_aload_n hx hb dX1_contentOf_0 rfl (lv_at hl 0 rfl) ?_
  obtain ⟨k1, hw⟩ := hw
  obtain ⟨o2, eo2, hw⟩ := hw
  refine r_getR X h k1 1 eo2  (by decide) rfl inX1 (by decide) rfl q431 rfl dX1_contentOf_1 ?_
  refine lv_iload_n hx hb dX1_contentOf_4 rfl (lv_at hl 1 rfl) ?_
  refine lv_iconst (v := (nI 1)) hx hb dX1_contentOf_5 (by decide) ?_
  refine lv_isub hx hb dX1_contentOf_6 ?_
  refine rc_SN (As := [.ref o2, .int (p1 - (nI 1))]) (rest := []) X h (meX6_at l G _ _ _ _ hw) gU_X1_30 q380 q33 q327 rfl rfl hdS_X6_at rfl ⟨Nat.le_of_ble_eq_true rfl, Nat.le_of_ble_eq_true rfl⟩ hl.1 rfl (Nat.le_of_ble_eq_true rfl) ⟨Nat.le_of_ble_eq_true rfl, Nat.le_of_ble_eq_true rfl⟩ dX1_contentOf_7 (fun x4 S3 H locs hw h => ?_)
  exact (en_i X h hr hw (Nat.le_of_ble_eq_true rfl) (Nat.le_of_ble_eq_true rfl) dX1_contentOf_10)
abbrev rmX0_stateOf : Room := { frames := 1, cells := 0, slots := 0, locals := 21 }
def wpX0_stateOf (S : Mem) (a0 : Nat) (p1 : Int32) (post : Int32 → Mem → Prop) : Prop := isK S a0 0 ∧ (∃ o2, mR S a0 0 = some o2 ∧ (wpX6_at S o2 p1 (fun x4 S3 => post x4 S3)))
set_option maxHeartbeats 4000000 in
set_option maxRecDepth 100000 in
theorem meX0_stateOf (l : Launch) (G : GT) (S : Mem) (a0 : Nat) (p1 : Int32) (post : Int32 → Mem → Prop) (hw : wpX0_stateOf S a0 p1 post) : CN emI l yX0_stateOf (wsU yX0_stateOf cX0_stateOf 2 (some .int)) rmX0_stateOf 0 0 G [.ref a0, .int p1] S post := by
  refine cn_open RX0 rfl (by decide +kernel) (Nat.le_of_ble_eq_true rfl) ?_
  intro p e s m args below meth c A X h hr hin ls hl
  have hl : lv_has ls 2 [(0, .ref a0), (1, .int p1)] := hl
  have hx := X.1
  have hb := X.2.1
  have hown := X.2.2.2.1
  unfold wpX0_stateOf at hw
  refine lv_aload_n hx hb dX0_stateOf_0 rfl (lv_at hl 0 rfl) ?_
  obtain ⟨k1, hw⟩ := hw
  obtain ⟨o2, eo2, hw⟩ := hw
  refine r_getR X h k1 0 eo2  (by decide) rfl inX0 (by decide) rfl q67 rfl dX0_stateOf_1 ?_
  refine lv_iload_n hx hb dX0_stateOf_4 rfl (lv_at hl 1 rfl) ?_
  refine rc_SN (As := [.ref o2, .int p1]) (rest := []) X h (meX6_at l G _ _ _ _ hw) gU_X0_25 q326 q33 q327 rfl rfl hdS_X6_at rfl ⟨Nat.le_of_ble_eq_true rfl, Nat.le_of_ble_eq_true rfl⟩ hl.1 rfl (Nat.le_of_ble_eq_true rfl) ⟨Nat.le_of_ble_eq_true rfl, Nat.le_of_ble_eq_true rfl⟩ dX0_stateOf_5 (fun x4 S3 H locs hw h => ?_)
  exact (en_i X h hr hw (Nat.le_of_ble_eq_true rfl) (Nat.le_of_ble_eq_true rfl) dX0_stateOf_8)
abbrev rmX2_keep : Room := { frames := 1, cells := 0, slots := 0, locals := 22 }
def wpX2_keep (S : Mem) (a0 : Nat) (p1 : Int32) (p2 : Int32) (p3 : Int32) (post : Unit → Mem → Prop) : Prop := isK S a0 2 ∧ (∃ o2, mR S a0 3 = some o2 ∧ (wpX6_put S o2 (p1 - (nI 1)) p2 (fun u4 S3 => isK S3 a0 2 ∧ (∃ o6, mR S3 a0 4 = some o6 ∧ (wpX6_put S3 o6 (p1 - (nI 1)) p3 (fun u8 S7 => post () S7))))))
set_option maxHeartbeats 4000000 in
set_option maxRecDepth 100000 in
theorem meX2_keep (l : Launch) (G : GT) (S : Mem) (a0 : Nat) (p1 : Int32) (p2 : Int32) (p3 : Int32) (post : Unit → Mem → Prop) (hw : wpX2_keep S a0 p1 p2 p3 post) : CN emV l yX2_keep (wsU yX2_keep cX2_keep 4 none) rmX2_keep 0 0 G [.ref a0, .int p1, .int p2, .int p3] S post := by
  refine cn_open RX2 rfl (by decide +kernel) (Nat.le_of_ble_eq_true rfl) ?_
  intro p e s m args below meth c A X h hr hin ls hl
  have hl : lv_has ls 4 [(0, .ref a0), (1, .int p1), (2, .int p2), (3, .int p3)] := hl
  have hx := X.1
  have hb := X.2.1
  have hown := X.2.2.2.1
  unfold wpX2_keep at hw
  refine lv_aload_n hx hb dX2_keep_0 rfl (lv_at hl 0 rfl) ?_
  obtain ⟨k1, hw⟩ := hw
  obtain ⟨o2, eo2, hw⟩ := hw
  refine r_getR X h k1 3 eo2  (by decide) rfl inX2 (by decide) rfl q725 rfl dX2_keep_1 ?_
  refine lv_iload_n hx hb dX2_keep_4 rfl (lv_at hl 1 rfl) ?_
  refine lv_iconst (v := (nI 1)) hx hb dX2_keep_5 (by decide) ?_
  refine lv_isub hx hb dX2_keep_6 ?_
  refine lv_iload_n hx hb dX2_keep_7 rfl (lv_at hl 2 rfl) ?_
  refine rc_SN (As := [.ref o2, .int (p1 - (nI 1)), .int p2]) (rest := []) X h (meX6_put l G _ _ _ _ _ hw) gU_X2_28 q743 q33 q334 rfl rfl hdS_X6_put rfl ⟨Nat.le_of_ble_eq_true rfl, Nat.le_of_ble_eq_true rfl⟩ hl.1 rfl (Nat.le_of_ble_eq_true rfl) ⟨Nat.le_of_ble_eq_true rfl, Nat.le_of_ble_eq_true rfl⟩ dX2_keep_8 (fun u4 S3 H locs hw h => ?_)
  refine lv_aload_n hx hb dX2_keep_11 rfl (lv_at hl 0 rfl) ?_
  obtain ⟨k5, hw⟩ := hw
  obtain ⟨o6, eo6, hw⟩ := hw
  refine r_getR X h k5 4 eo6  (by decide) rfl inX2 (by decide) rfl q726 rfl dX2_keep_12 ?_
  refine lv_iload_n hx hb dX2_keep_15 rfl (lv_at hl 1 rfl) ?_
  refine lv_iconst (v := (nI 1)) hx hb dX2_keep_16 (by decide) ?_
  refine lv_isub hx hb dX2_keep_17 ?_
  refine lv_iload_n hx hb dX2_keep_18 rfl (lv_at hl 3 rfl) ?_
  refine rc_SN (As := [.ref o6, .int (p1 - (nI 1)), .int p3]) (rest := []) X h (meX6_put l G _ _ _ _ _ hw) gU_X2_28 q743 q33 q334 rfl rfl hdS_X6_put rfl ⟨Nat.le_of_ble_eq_true rfl, Nat.le_of_ble_eq_true rfl⟩ hl.1 rfl (Nat.le_of_ble_eq_true rfl) ⟨Nat.le_of_ble_eq_true rfl, Nat.le_of_ble_eq_true rfl⟩ dX2_keep_19 (fun u8 S7 H locs hw h => ?_)
  exact (en_v X h hr hw (Nat.le_of_ble_eq_true rfl) (Nat.le_of_ble_eq_true rfl) dX2_keep_22)
abbrev rmX6_newLot : Room := { frames := 2, cells := 3, slots := 37, locals := 45 }
def wlX6_newLot_23 (a0 : Nat) (a1 : Nat) (p2 : Int32) (o1 : Nat) (post : Option Nat → Mem → Prop)  : Nat → Int32 → Mem → Prop
  | 0 => fun _ _ => False
  | n + 1 => fun w4 S => isK S a1 1 ∧ (((mI S a1 3) < w4 → (post (some o1) S)) ∧ (¬ (mI S a1 3) < w4 → (wpX1_contentOf S a1 w4 (fun x12 S11 => isK S11 a0 6 ∧ (∃ o14, mR S11 a0 0 = some o14 ∧ (isK S11 o14 0 ∧ (wpX0_stateOf S11 o14 x12 (fun x17 S15 => isK S15 o1 2 ∧ (wpX2_keep S15 o1 w4 x12 x17 (fun u20 S18 => ∀ x21 : Int32, x21 = (w4 + (nI 1)) → (wlX6_newLot_23 a0 a1 p2 o1 post n x21 S18)))))))))))
set_option maxHeartbeats 4000000 in
set_option maxRecDepth 100000 in
theorem llX6_newLot_23 {p : Program} {l : Launch} {e : Env} {s : State} {m : MethodId} {args : Array Value} {below : List Frame} {meth : Method} {c : Code} {G : GT} {A : Nat → Prop} (X : Cx p s m args meth c cX6_newLot 6 RX6 G A) (hr : meth.sig.returnType = (some (.object "BinderyDesk$Lot"))) (a0 : Nat) (a1 : Nat) (p2 : Int32) (o1 : Nat) (post : Option Nat → Mem → Prop)   : ∀ (n : Nat) (w4 : Int32) (S : Mem), wlX6_newLot_23 a0 a1 p2 o1 post n w4 S → ∀ (H : Heap) (locs : List Loc) (ls : Array Slot), Hx G A s.heap H locs S → lv_has ls 6 [(0, .ref a0), (1, .ref a1), (2, .int p2), (3, .ref o1), (4, .int w4)] → W p l e rmX6_newLot s m args below meth c H locs 3 37 (MQ below (QN emR post G A) args s 3 37 A) (F0 m 23 ls []) := by
  have hx := X.1
  have hb := X.2.1
  have hown := X.2.2.2.1
  intro n
  induction n with
  | zero =>
    intro _ _ hw
    exact hw.elim
  | succ n ih =>
    intro w4 S hw H locs ls h hl
    refine lv_iload hx hb dX6_newLot_23 (lv_at hl 4 rfl) ?_
    refine lv_aload_n hx hb dX6_newLot_25 rfl (lv_at hl 1 rfl) ?_
    obtain ⟨k9, hw⟩ := hw
    refine r_getIN X h k9 3  (by decide) rfl inX1 (by decide) rfl q434 rfl dX6_newLot_26 ?_
    refine lv_icmp_gt (tgt := 63) hx hb dX6_newLot_29 (by decide) (fun c10 => ?_) (fun c10 => ?_)
    · have hw := hw.1 c10
      refine lv_aload_n hx hb dX6_newLot_63 rfl (lv_at hl 3 rfl) ?_
      exact (en_r (r := (some o1)) X h rfl hr hw (Nat.le_of_ble_eq_true rfl) (Nat.le_of_ble_eq_true rfl) dX6_newLot_64)
    · have hw := hw.2 c10
      refine lv_aload_n hx hb dX6_newLot_32 rfl (lv_at hl 1 rfl) ?_
      refine lv_iload hx hb dX6_newLot_33 (lv_at hl 4 rfl) ?_
      refine rc_V (As := [.int w4]) (rest := []) X h k9 (by decide) rfl (meX1_contentOf l G _ _ _ _ hw) gV_X6_322 rfl rfl hdV_X1_contentOf rfl ⟨Nat.le_of_ble_eq_true rfl, Nat.le_of_ble_eq_true rfl⟩ hl.1 rfl (Nat.le_of_ble_eq_true rfl) ⟨Nat.le_of_ble_eq_true rfl, Nat.le_of_ble_eq_true rfl⟩ dX6_newLot_35 (fun x12 S11 H locs hw h => ?_)
      refine lv_istore (lv' := [(5, .int x12), (0, .ref a0), (1, .ref a1), (2, .int p2), (3, .ref o1), (4, .int w4)]) hx hb dX6_newLot_38 hl (by decide) rfl (fun ls hl => ?_)
      refine lv_aload_n hx hb dX6_newLot_40 rfl (lv_at hl 4 rfl) ?_
      refine lv_iload hx hb dX6_newLot_41 (lv_at hl 5 rfl) ?_
      refine lv_iload hx hb dX6_newLot_43 (lv_at hl 0 rfl) ?_
      refine lv_aload_n hx hb dX6_newLot_45 rfl (lv_at hl 1 rfl) ?_
      obtain ⟨k13, hw⟩ := hw
      obtain ⟨o14, eo14, hw⟩ := hw
      refine r_getR X h k13 0 eo14  (by decide) rfl inX6 (by decide) rfl q141 rfl dX6_newLot_46 ?_
      refine lv_iload hx hb dX6_newLot_49 (lv_at hl 0 rfl) ?_
      obtain ⟨k16, hw⟩ := hw
      refine rc_V (As := [.int x12]) (rest := [.int x12, .int w4, .ref o1]) X h k16 (by decide) rfl (meX0_stateOf l G _ _ _ _ hw) gV_X6_76 rfl rfl hdV_X0_stateOf rfl ⟨Nat.le_of_ble_eq_true rfl, Nat.le_of_ble_eq_true rfl⟩ hl.1 rfl (Nat.le_of_ble_eq_true rfl) ⟨Nat.le_of_ble_eq_true rfl, Nat.le_of_ble_eq_true rfl⟩ dX6_newLot_51 (fun x17 S15 H locs hw h => ?_)
      obtain ⟨k19, hw⟩ := hw
      refine rc_V (As := [.int w4, .int x12, .int x17]) (rest := []) X h k19 (by decide) rfl (meX2_keep l G _ _ _ _ _ _ hw) gV_X6_323 rfl rfl hdV_X2_keep rfl ⟨Nat.le_of_ble_eq_true rfl, Nat.le_of_ble_eq_true rfl⟩ hl.1 rfl (Nat.le_of_ble_eq_true rfl) ⟨Nat.le_of_ble_eq_true rfl, Nat.le_of_ble_eq_true rfl⟩ dX6_newLot_54 (fun u20 S18 H locs hw h => ?_)
      obtain ⟨x21, ex21⟩ : ∃ y : Int32, y = (w4 + (nI 1)) := ⟨_, rfl⟩
      have hw := hw x21 ex21
      refine lv_iinc (v := x21) (lv' := [(4, .int x21), (5, .int x12), (0, .ref a0), (1, .ref a1), (2, .int p2), (3, .ref o1)]) hx hb dX6_newLot_57 hl (k := 5) rfl (by rw [ex21]; rfl) (by decide) rfl (fun ls hl => ?_)
      refine lv_goto (tgt := 23) hx hb dX6_newLot_60 (by decide) ?_
      exact ih _ _ hw _ _ _ h (lv_sub hl [2, 3, 4, 5, 0] rfl)
def wpX6_newLot (S : Mem) (a0 : Nat) (a1 : Nat) (p2 : Int32) (post : Option Nat → Mem → Prop) : Prop := ∀ o1 : Nat, o1 ∉ mL S → (∀ S2 : Mem, S2 = (nA S o1 2 0) → (isK S2 a1 1 ∧ (isK S2 a0 6 ∧ (∃ o5, mR S2 a0 0 = some o5 ∧ (isK S2 o5 0 ∧ (wpX2_init S2 o1 p2 (mI S2 a1 3) (mI S2 o5 4) (fun u8 S7 => ∃ m, wlX6_newLot_23 a0 a1 p2 o1 post m (nI 1) S7)))))))
set_option maxHeartbeats 4000000 in
set_option maxRecDepth 100000 in
theorem meX6_newLot (l : Launch) (G : GT) (S : Mem) (a0 : Nat) (a1 : Nat) (p2 : Int32) (post : Option Nat → Mem → Prop) (hw : wpX6_newLot S a0 a1 p2 post) : CN emR l yX6_newLot (wsU yX6_newLot cX6_newLot 6 (some (.object "BinderyDesk$Lot"))) rmX6_newLot 3 37 G [.ref a0, .ref a1, .int p2] S post := by
  refine cn_open RX6 rfl (by decide +kernel) (Nat.le_of_ble_eq_true rfl) ?_
  intro p e s m args below meth c A X h hr hin ls hl
  have hl : lv_has ls 6 [(0, .ref a0), (1, .ref a1), (2, .int p2)] := hl
  have hx := X.1
  have hb := X.2.1
  have hown := X.2.2.2.1
  unfold wpX6_newLot at hw
  refine r_new X h 2 (by decide) rfl inX2 tyX2 tyX2_ok q139 q714 q51 (by decide +kernel) ⟨Nat.le_of_ble_eq_true rfl, Nat.le_of_ble_eq_true rfl⟩ dX6_newLot_0 (fun o1 H ho1 h => ?_)
  have hw := hw o1 ho1
  obtain ⟨S2, eS2⟩ : ∃ z : Mem, z = (nA S o1 2 0) := ⟨_, rfl⟩
  rw [← eS2] at h
  have hw := hw S2 eS2
  refine lv_dup hx hb dX6_newLot_3 rfl ?_
  refine lv_iload_n hx hb dX6_newLot_4 rfl (lv_at hl 2 rfl) ?_
  refine lv_aload_n hx hb dX6_newLot_5 rfl (lv_at hl 1 rfl) ?_
  obtain ⟨k3, hw⟩ := hw
  refine r_getIN X h k3 3  (by decide) rfl inX1 (by decide) rfl q434 rfl dX6_newLot_6 ?_
  refine lv_aload_n hx hb dX6_newLot_9 rfl (lv_at hl 0 rfl) ?_
  obtain ⟨k4, hw⟩ := hw
  obtain ⟨o5, eo5, hw⟩ := hw
  refine r_getR X h k4 0 eo5  (by decide) rfl inX6 (by decide) rfl q141 rfl dX6_newLot_10 ?_
  obtain ⟨k6, hw⟩ := hw
  refine r_getIN X h k6 4  (by decide) rfl inX0 (by decide) rfl q73 rfl dX6_newLot_13 ?_
  refine rc_I (As := [.int p2, .int (mI S2 a1 3), .int (mI S2 o5 4)]) (rest := [.ref o1]) X h (meX2_init l G _ _ _ _ _ _ hw) gU_X6_320 q51 q715 q716 rfl rfl rfl hdS_X2_init rfl ⟨Nat.le_of_ble_eq_true rfl, Nat.le_of_ble_eq_true rfl⟩ hl.1 rfl (Nat.le_of_ble_eq_true rfl) ⟨Nat.le_of_ble_eq_true rfl, Nat.le_of_ble_eq_true rfl⟩ dX6_newLot_16 (fun u8 S7 H locs hw h => ?_)
  refine lv_astore_n (lv' := [(3, .ref o1), (0, .ref a0), (1, .ref a1), (2, .int p2)]) hx hb dX6_newLot_19 rfl hl (by decide) rfl (fun ls hl => ?_)
  refine lv_iconst (v := (nI 1)) hx hb dX6_newLot_20 (by decide) ?_
  refine lv_istore (lv' := [(4, .int (nI 1)), (3, .ref o1), (0, .ref a0), (1, .ref a1), (2, .int p2)]) hx hb dX6_newLot_21 hl (by decide) rfl (fun ls hl => ?_)
  obtain ⟨n22, hw⟩ := hw
  exact llX6_newLot_23  X hr _ _ _ _ _ n22 _ _ hw _ _ _ h (lv_sub hl [2, 3, 4, 1, 0] rfl)
abbrev rmX6_bind : Room := { frames := 7, cells := 6, slots := 55, locals := 112 }
def wpX6_bind (S : Mem) (a0 : Nat) (p1 : Int32) (p2 : Int32) (post : Int32 → Mem → Prop) (px : Nat → Mem → Prop) : Prop := isK S a0 6 ∧ (wpX6_existingJob S a0 p1 (fun r3 S1 => ∃ o4, r3 = some o4 ∧ (wpX6_requireCount S1 p2 (fun u6 S5 => wpX6_requireComplete S5 o4 (fun u8 S7 => isK S7 a0 6 ∧ (((mI S7 a0 7) < 0 → (px 2 S7)) ∧ (¬ (mI S7 a0 7) < 0 → (∃ o11, mR S7 a0 5 = some o11 ∧ (isK S7 o11 11 ∧ (((mI S7 a0 7) < (nI (mN S7 o11)) → (isK S7 o4 1 ∧ (wpX1_lackFor S7 o4 p2 (fun x16 S14 => (x16 ≤ 0 → (isK S14 o4 1 ∧ (wpX1_takeSheetsFor S14 o4 p2 (fun u20 S18 => isK S18 a0 6 ∧ (∃ o22, mR S18 a0 5 = some o22 ∧ (wpX6_newLot S18 a0 o4 p2 (fun r24 S23 => ∃ o25, r24 = some o25 ∧ (isK S23 o22 11 ∧ (isK S23 o25 2 ∧ (vp_in (mI S18 a0 7) (mN S23 o22) ∧ (∀ S29 : Mem, S29 = (sR S23 o22 (mI S18 a0 7).toNatClampNeg (some o25)) → (isK S29 a0 6 ∧ (∀ x31 : Int32, x31 = ((mI S29 a0 7) + (nI 1)) → (∀ S32 : Mem, S32 = (sI S29 a0 7 x31) → (post ((mI S32 a0 7) - (nI 1)) S32))))))))))))))) ∧ (¬ x16 ≤ 0 → (px 5 S14)))))) ∧ (¬ (mI S7 a0 7) < (nI (mN S7 o11)) → (px 2 S7)))))))) px) px)) px)
set_option maxHeartbeats 4000000 in
set_option maxRecDepth 100000 in
theorem meX6_bind (l : Launch) (hl9 : l.stackTraces = false) (G : GT) (S : Mem) (a0 : Nat) (p1 : Int32) (p2 : Int32) (post : Int32 → Mem → Prop) (px : Nat → Mem → Prop) (hw : wpX6_bind S a0 p1 p2 post px) : CX emI l yX6_bind (wsU yX6_bind cX6_bind 4 (some .int)) rmX6_bind 6 55 G [.ref a0, .int p1, .int p2] S post px := by
  refine cx_open RX6 rfl (by decide +kernel) (Nat.le_of_ble_eq_true rfl) ?_
  intro p e s m args below meth c A X h hr hno ls hl
  have hl : lv_has ls 4 [(0, .ref a0), (1, .int p1), (2, .int p2)] := hl
  have hx := X.1
  have hb := X.2.1
  have hown := X.2.2.2.1
  unfold wpX6_bind at hw
  refine lv_aload_n hx hb dX6_bind_0 rfl (lv_at hl 0 rfl) ?_
  refine lv_iload_n hx hb dX6_bind_1 rfl (lv_at hl 1 rfl) ?_
  obtain ⟨k2, hw⟩ := hw
  refine rx_V (As := [.int p1]) (rest := []) X h hno k2 (by decide) rfl (meX6_existingJob l hl9 G _ _ _ _ _ hw) gV_X6_109 rfl rfl hdV_X6_existingJob rfl ⟨Nat.le_of_ble_eq_true rfl, Nat.le_of_ble_eq_true rfl⟩ hl.1 rfl (Nat.le_of_ble_eq_true rfl) ⟨Nat.le_of_ble_eq_true rfl, Nat.le_of_ble_eq_true rfl⟩ ⟨Nat.le_of_ble_eq_true rfl, Nat.le_of_ble_eq_true rfl⟩ dX6_bind_2 (fun r3 S1 H locs hw h => ?_)
  obtain ⟨o4, rfl, hw⟩ := hw
  refine lv_astore_n (lv' := [(3, .ref o4), (0, .ref a0), (1, .int p1), (2, .int p2)]) hx hb dX6_bind_5 rfl hl (by decide) rfl (fun ls hl => ?_)
  refine lv_iload_n hx hb dX6_bind_6 rfl (lv_at hl 3 rfl) ?_
  refine rx_S (As := [.int p2]) (rest := []) X h hno (meX6_requireCount l hl9 G _ _ _ _ hw) gS_X6_148 rfl rfl hdS_X6_requireCount rfl ⟨Nat.le_of_ble_eq_true rfl, Nat.le_of_ble_eq_true rfl⟩ hl.1 rfl (Nat.le_of_ble_eq_true rfl) ⟨Nat.le_of_ble_eq_true rfl, Nat.le_of_ble_eq_true rfl⟩ ⟨Nat.le_of_ble_eq_true rfl, Nat.le_of_ble_eq_true rfl⟩ dX6_bind_7 (fun u6 S5 H locs hw h => ?_)
  refine lv_aload_n hx hb dX6_bind_10 rfl (lv_at hl 0 rfl) ?_
  refine rx_S (As := [.ref o4]) (rest := []) X h hno (meX6_requireComplete l hl9 G _ _ _ _ hw) gS_X6_223 rfl rfl hdS_X6_requireComplete rfl ⟨Nat.le_of_ble_eq_true rfl, Nat.le_of_ble_eq_true rfl⟩ hl.1 rfl (Nat.le_of_ble_eq_true rfl) ⟨Nat.le_of_ble_eq_true rfl, Nat.le_of_ble_eq_true rfl⟩ ⟨Nat.le_of_ble_eq_true rfl, Nat.le_of_ble_eq_true rfl⟩ dX6_bind_11 (fun u8 S7 H locs hw h => ?_)
  refine lv_aload_n hx hb dX6_bind_14 rfl (lv_at hl 1 rfl) ?_
  obtain ⟨k9, hw⟩ := hw
  refine r_getI X h k9 7  (by decide) rfl inX6 (by decide) rfl q148 rfl dX6_bind_15 ?_
  refine lv_if_lt (tgt := 33) hx hb dX6_bind_18 (by decide) (fun c10 => ?_) (fun c10 => ?_)
  · have hw := hw.1 c10
    exact en_x 2 X h hl9 th_X6_229 hl.1 hno dX6_bind_33 dX6_bind_36 dX6_bind_37 dX6_bind_39 dX6_bind_42 ⟨Nat.le_of_ble_eq_true rfl, Nat.le_of_ble_eq_true rfl⟩ ⟨Nat.le_of_ble_eq_true rfl, Nat.le_of_ble_eq_true rfl⟩ ⟨Nat.le_of_ble_eq_true rfl, Nat.le_of_ble_eq_true rfl⟩ hw
  · have hw := hw.2 c10
    refine lv_aload_n hx hb dX6_bind_21 rfl (lv_at hl 1 rfl) ?_
    refine r_getI X h k9 7  (by decide) rfl inX6 (by decide) rfl q148 rfl dX6_bind_22 ?_
    refine lv_aload_n hx hb dX6_bind_25 rfl (lv_at hl 1 rfl) ?_
    obtain ⟨o11, eo11, hw⟩ := hw
    refine r_getR X h k9 5 eo11  (by decide) rfl inX6 (by decide) rfl q146 rfl dX6_bind_26 ?_
    obtain ⟨k12, hw⟩ := hw
    refine r_alen X h k12 (by decide) dX6_bind_29 ?_
    refine lv_icmp_lt (tgt := 43) hx hb dX6_bind_30 (by decide) (fun c13 => ?_) (fun c13 => ?_)
    · have hw := hw.1 c13
      refine lv_aload_n hx hb dX6_bind_43 rfl (lv_at hl 0 rfl) ?_
      refine lv_iload_n hx hb dX6_bind_44 rfl (lv_at hl 3 rfl) ?_
      obtain ⟨k15, hw⟩ := hw
      refine rc_V (As := [.int p2]) (rest := []) X h k15 (by decide) rfl (meX1_lackFor l G _ _ _ _ hw) gV_X6_231 rfl rfl hdV_X1_lackFor rfl ⟨Nat.le_of_ble_eq_true rfl, Nat.le_of_ble_eq_true rfl⟩ hl.1 rfl (Nat.le_of_ble_eq_true rfl) ⟨Nat.le_of_ble_eq_true rfl, Nat.le_of_ble_eq_true rfl⟩ dX6_bind_45 (fun x16 S14 H locs hw h => ?_)
      refine lv_if_le (tgt := 61) hx hb dX6_bind_48 (by decide) (fun c17 => ?_) (fun c17 => ?_)
      · have hw := hw.1 c17
        refine lv_aload_n hx hb dX6_bind_61 rfl (lv_at hl 0 rfl) ?_
        refine lv_iload_n hx hb dX6_bind_62 rfl (lv_at hl 3 rfl) ?_
        obtain ⟨k19, hw⟩ := hw
        refine rc_V (As := [.int p2]) (rest := []) X h k19 (by decide) rfl (meX1_takeSheetsFor l G _ _ _ _ hw) gV_X6_236 rfl rfl hdV_X1_takeSheetsFor rfl ⟨Nat.le_of_ble_eq_true rfl, Nat.le_of_ble_eq_true rfl⟩ hl.1 rfl (Nat.le_of_ble_eq_true rfl) ⟨Nat.le_of_ble_eq_true rfl, Nat.le_of_ble_eq_true rfl⟩ dX6_bind_63 (fun u20 S18 H locs hw h => ?_)
        refine lv_aload_n hx hb dX6_bind_66 rfl (lv_at hl 1 rfl) ?_
        obtain ⟨k21, hw⟩ := hw
        obtain ⟨o22, eo22, hw⟩ := hw
        refine r_getR X h k21 5 eo22  (by decide) rfl inX6 (by decide) rfl q146 rfl dX6_bind_67 ?_
        refine lv_aload_n hx hb dX6_bind_70 rfl (lv_at hl 1 rfl) ?_
        refine r_getI X h k21 7  (by decide) rfl inX6 (by decide) rfl q148 rfl dX6_bind_71 ?_
        refine lv_aload_n hx hb dX6_bind_74 rfl (lv_at hl 1 rfl) ?_
        refine lv_aload_n hx hb dX6_bind_75 rfl (lv_at hl 0 rfl) ?_
        refine lv_iload_n hx hb dX6_bind_76 rfl (lv_at hl 3 rfl) ?_
        refine rc_V (As := [.ref o4, .int p2]) (rest := [.int (mI S18 a0 7), .ref o22]) X h k21 (by decide) rfl (meX6_newLot l G _ _ _ _ _ hw) gV_X6_239 rfl rfl hdV_X6_newLot rfl ⟨Nat.le_of_ble_eq_true rfl, Nat.le_of_ble_eq_true rfl⟩ hl.1 rfl (Nat.le_of_ble_eq_true rfl) ⟨Nat.le_of_ble_eq_true rfl, Nat.le_of_ble_eq_true rfl⟩ dX6_bind_77 (fun r24 S23 H locs hw h => ?_)
        obtain ⟨o25, rfl, hw⟩ := hw
        obtain ⟨k26, hw⟩ := hw
        obtain ⟨k27, hw⟩ := hw
        obtain ⟨v28, hw⟩ := hw
        refine r_astLot X h k26 k27 v28 dX6_bind_80 (fun H locs h => ?_)
        obtain ⟨S29, eS29⟩ : ∃ z : Mem, z = (sR S23 o22 (mI S18 a0 7).toNatClampNeg (some o25)) := ⟨_, rfl⟩
        rw [← eS29] at h
        have hw := hw S29 eS29
        refine lv_aload_n hx hb dX6_bind_81 rfl (lv_at hl 1 rfl) ?_
        refine lv_dup hx hb dX6_bind_82 rfl ?_
        obtain ⟨k30, hw⟩ := hw
        refine r_getI X h k30 7  (by decide) rfl inX6 (by decide) rfl q148 rfl dX6_bind_83 ?_
        refine lv_iconst (v := (nI 1)) hx hb dX6_bind_86 (by decide) ?_
        refine lv_iadd hx hb dX6_bind_87 ?_
        refine lv_topi (fun x31 ex31 => ?_)
        have hw := hw x31 ex31
        refine r_putI X h k30 7 (by decide) rfl inX6 tyX6 tyX6_ok nmX6 (by decide) rfl (Nat.le_of_ble_eq_true rfl) q148 rfl rfl (tyX6_ok 7 (by decide)) rfl rfl dX6_bind_88 (fun H locs h => ?_)
        obtain ⟨S32, eS32⟩ : ∃ z : Mem, z = (sI S29 a0 7 x31) := ⟨_, rfl⟩
        rw [← eS32] at h
        have hw := hw S32 eS32
        refine lv_aload_n hx hb dX6_bind_91 rfl (lv_at hl 1 rfl) ?_
        refine r_getI X h (kI eS32 k30) 7  (by decide) rfl inX6 (by decide) rfl q148 rfl dX6_bind_92 ?_
        refine lv_iconst (v := (nI 1)) hx hb dX6_bind_95 (by decide) ?_
        refine lv_isub hx hb dX6_bind_96 ?_
        exact vx_ret (en_i X h hr hw (Nat.le_of_ble_eq_true rfl) (Nat.le_of_ble_eq_true rfl) dX6_bind_97)
      · have hw := hw.2 c17
        exact en_x 5 X h hl9 th_X6_234 hl.1 hno dX6_bind_51 dX6_bind_54 dX6_bind_55 dX6_bind_57 dX6_bind_60 ⟨Nat.le_of_ble_eq_true rfl, Nat.le_of_ble_eq_true rfl⟩ ⟨Nat.le_of_ble_eq_true rfl, Nat.le_of_ble_eq_true rfl⟩ ⟨Nat.le_of_ble_eq_true rfl, Nat.le_of_ble_eq_true rfl⟩ hw
    · have hw := hw.2 c13
      exact en_x 2 X h hl9 th_X6_229 hl.1 hno dX6_bind_33 dX6_bind_36 dX6_bind_37 dX6_bind_39 dX6_bind_42 ⟨Nat.le_of_ble_eq_true rfl, Nat.le_of_ble_eq_true rfl⟩ ⟨Nat.le_of_ble_eq_true rfl, Nat.le_of_ble_eq_true rfl⟩ ⟨Nat.le_of_ble_eq_true rfl, Nat.le_of_ble_eq_true rfl⟩ hw
abbrev rmL_bind : Room := { frames := 8, cells := 6, slots := 55, locals := 135 }
def wpL_bind (S : Mem) (a0 : Nat) (p1 : Int32) (p2 : Int32) (a3 : Nat) (post : Int32 → Mem → Prop) : Prop := isK S a0 6 ∧ (wpX6_bind S a0 p1 p2 (fun x3 S1 => isK S1 a3 12 ∧ (vp_in (nI 0) (mN S1 a3) ∧ (∀ S8 : Mem, S8 = (sJ S1 a3 (nI 0).toNatClampNeg x3.toInt64) → (post (nI 0) S8)))) (fun k4 S5 => (k4 = 1 → (post (nI 1) S5)) ∧ (k4 = 2 → (post (nI 3) S5)) ∧ (k4 = 4 → (post (nI 2) S5)) ∧ (k4 = 5 → (post (nI 4) S5)) ∧ (k4 = 1 ∨ k4 = 2 ∨ k4 = 4 ∨ k4 = 5)))
set_option maxHeartbeats 4000000 in
set_option maxRecDepth 100000 in
theorem meL_bind (l : Launch) (hl9 : l.stackTraces = false) (G : GT) (S : Mem) (a0 : Nat) (p1 : Int32) (p2 : Int32) (a3 : Nat) (post : Int32 → Mem → Prop) (hw : wpL_bind S a0 p1 p2 a3 post) : CN emI l yL_bind (wsH yL_bind cL_bind 5 (some .int) [(0, 10, 13, 19), (0, 10, 17, 32), (0, 10, 21, 13), (0, 10, 25, 56)]) rmL_bind 6 55 G [.ref a0, .int p1, .int p2, .ref a3] S post := by
  refine ch_open RL rfl (by decide +kernel) (Nat.le_of_ble_eq_true rfl) ?_
  intro p e s m args below meth c A X h hr hTab ls hl
  have hl : lv_has ls 5 [(0, .ref a0), (1, .int p1), (2, .int p2), (3, .ref a3)] := hl
  have hx := X.1
  have hb := X.2.1
  have hown := X.2.2.2.1
  unfold wpL_bind at hw
  refine lv_aload_n hx hb dL_bind_0 rfl (lv_at hl 3 rfl) ?_
  refine lv_iconst (v := (nI 0)) hx hb dL_bind_1 (by decide) ?_
  refine lv_aload_n hx hb dL_bind_2 rfl (lv_at hl 0 rfl) ?_
  refine lv_iload_n hx hb dL_bind_3 rfl (lv_at hl 1 rfl) ?_
  refine lv_iload_n hx hb dL_bind_4 rfl (lv_at hl 2 rfl) ?_
  obtain ⟨k2, hw⟩ := hw
  refine rx_VH (As := [.int p1, .int p2]) (rest := [.int (nI 0), .ref a3]) X h k2 (by decide) rfl (meX6_bind l hl9 G _ _ _ _ _ _ hw) gV_L_73 rfl rfl hdV_X6_bind rfl ⟨Nat.le_of_ble_eq_true rfl, Nat.le_of_ble_eq_true rfl⟩ hl.1 rfl (Nat.le_of_ble_eq_true rfl) ⟨Nat.le_of_ble_eq_true rfl, Nat.le_of_ble_eq_true rfl⟩ dL_bind_5 (fun k4 S5 H locs q9 ce hw h hce hcv hcl => ?_) (fun x3 S1 H locs hw h => ?_)
  · rcases hw.2.2.2.2 with hk9 | hk9 | hk9 | hk9
    · subst hk9
      have hw := hw.1 rfl
      refine vx_catch (own := RL) (name := "java/lang/IndexOutOfBoundsException") (E := xn 1) hown [] ⟨0, 10, 13, 19⟩ [⟨0, 10, 17, 32⟩, ⟨0, 10, 21, 13⟩, ⟨0, 10, 25, 56⟩] (by rw [hTab]; rfl) (fun z hz => nomatch hz) (by decide) (by decide) (X.hts q277) (va_Nw.use (by rfl) (X.nw q311)) hce hcv hcl ?_
      refine lv_astore (lv' := [(4, .ref q9), (0, .ref a0), (1, .int p1), (2, .int p2), (3, .ref a3)]) hx hb dL_bind_13 hl (by decide) rfl (fun ls hl => ?_)
      refine lv_iconst (v := (nI 1)) hx hb dL_bind_15 (by decide) ?_
      exact (en_i X h hr hw (Nat.le_of_ble_eq_true rfl) (Nat.le_of_ble_eq_true rfl) dL_bind_16)
    · subst hk9
      have hw := hw.2.1 rfl
      have hpass2 : ∀ z ∈ ([⟨0, 10, 13, 19⟩, ⟨0, 10, 17, 32⟩] : List ExceptionTableEntry), covers z 5 = false ∨ (z.catchType ≠ 0 ∧ ∃ nm : String, (Cond.classLink RL z.catchType nm).before args s = true ∧ va_Nc (xn 2) nm s) := by
        intro z hz
        rcases List.mem_cons.mp hz with rfl | hz
        · exact Or.inr ⟨by decide, "java/lang/IndexOutOfBoundsException", X.hts q277, X.2.2.2.2.2.2.1.2.2.2.2.1 ("java/lang/IllegalStateException", "java/lang/IndexOutOfBoundsException") (by decide +kernel)⟩
        rcases List.mem_cons.mp hz with rfl | hz
        · exact Or.inr ⟨by decide, "java/lang/IllegalArgumentException", X.hts q402, X.2.2.2.2.2.2.1.2.2.2.2.1 ("java/lang/IllegalStateException", "java/lang/IllegalArgumentException") (by decide +kernel)⟩
        cases hz
      refine vx_catch (own := RL) (name := "java/lang/IllegalStateException") (E := xn 2) hown [⟨0, 10, 13, 19⟩, ⟨0, 10, 17, 32⟩] ⟨0, 10, 21, 13⟩ [⟨0, 10, 25, 56⟩] (by rw [hTab]; rfl) (hpass2) (by decide) (by decide) (X.hts q193) (va_Nw.use (by rfl) (X.nw q200)) hce hcv hcl ?_
      refine lv_astore (lv' := [(4, .ref q9), (0, .ref a0), (1, .int p1), (2, .int p2), (3, .ref a3)]) hx hb dL_bind_21 hl (by decide) rfl (fun ls hl => ?_)
      refine lv_iconst (v := (nI 3)) hx hb dL_bind_23 (by decide) ?_
      exact (en_i X h hr hw (Nat.le_of_ble_eq_true rfl) (Nat.le_of_ble_eq_true rfl) dL_bind_24)
    · subst hk9
      have hw := hw.2.2.1 rfl
      have hpass4 : ∀ z ∈ ([⟨0, 10, 13, 19⟩] : List ExceptionTableEntry), covers z 5 = false ∨ (z.catchType ≠ 0 ∧ ∃ nm : String, (Cond.classLink RL z.catchType nm).before args s = true ∧ va_Nc (xn 4) nm s) := by
        intro z hz
        rcases List.mem_cons.mp hz with rfl | hz
        · exact Or.inr ⟨by decide, "java/lang/IndexOutOfBoundsException", X.hts q277, X.2.2.2.2.2.2.1.2.2.2.2.1 ("java/lang/IllegalArgumentException", "java/lang/IndexOutOfBoundsException") (by decide +kernel)⟩
        cases hz
      refine vx_catch (own := RL) (name := "java/lang/IllegalArgumentException") (E := xn 4) hown [⟨0, 10, 13, 19⟩] ⟨0, 10, 17, 32⟩ [⟨0, 10, 21, 13⟩, ⟨0, 10, 25, 56⟩] (by rw [hTab]; rfl) (hpass4) (by decide) (by decide) (X.hts q402) (va_Nw.use (by rfl) (X.nw q409)) hce hcv hcl ?_
      refine lv_astore (lv' := [(4, .ref q9), (0, .ref a0), (1, .int p1), (2, .int p2), (3, .ref a3)]) hx hb dL_bind_17 hl (by decide) rfl (fun ls hl => ?_)
      refine lv_iconst (v := (nI 2)) hx hb dL_bind_19 (by decide) ?_
      exact (en_i X h hr hw (Nat.le_of_ble_eq_true rfl) (Nat.le_of_ble_eq_true rfl) dL_bind_20)
    · subst hk9
      have hw := hw.2.2.2.1 rfl
      have hpass5 : ∀ z ∈ ([⟨0, 10, 13, 19⟩, ⟨0, 10, 17, 32⟩, ⟨0, 10, 21, 13⟩] : List ExceptionTableEntry), covers z 5 = false ∨ (z.catchType ≠ 0 ∧ ∃ nm : String, (Cond.classLink RL z.catchType nm).before args s = true ∧ va_Nc (xn 5) nm s) := by
        intro z hz
        rcases List.mem_cons.mp hz with rfl | hz
        · exact Or.inr ⟨by decide, "java/lang/IndexOutOfBoundsException", X.hts q277, X.2.2.2.2.2.2.1.2.2.2.2.1 ("java/lang/UnsupportedOperationException", "java/lang/IndexOutOfBoundsException") (by decide +kernel)⟩
        rcases List.mem_cons.mp hz with rfl | hz
        · exact Or.inr ⟨by decide, "java/lang/IllegalArgumentException", X.hts q402, X.2.2.2.2.2.2.1.2.2.2.2.1 ("java/lang/UnsupportedOperationException", "java/lang/IllegalArgumentException") (by decide +kernel)⟩
        rcases List.mem_cons.mp hz with rfl | hz
        · exact Or.inr ⟨by decide, "java/lang/IllegalStateException", X.hts q193, X.2.2.2.2.2.2.1.2.2.2.2.1 ("java/lang/UnsupportedOperationException", "java/lang/IllegalStateException") (by decide +kernel)⟩
        cases hz
      refine vx_catch (own := RL) (name := "java/lang/UnsupportedOperationException") (E := xn 5) hown [⟨0, 10, 13, 19⟩, ⟨0, 10, 17, 32⟩, ⟨0, 10, 21, 13⟩] ⟨0, 10, 25, 56⟩ [] (by rw [hTab]; rfl) (hpass5) (by decide) (by decide) (X.hts q541) (va_Nw.use (by rfl) (X.nw q557)) hce hcv hcl ?_
      refine lv_astore (lv' := [(4, .ref q9), (0, .ref a0), (1, .int p1), (2, .int p2), (3, .ref a3)]) hx hb dL_bind_25 hl (by decide) rfl (fun ls hl => ?_)
      refine lv_iconst (v := (nI 4)) hx hb dL_bind_27 (by decide) ?_
      exact (en_i X h hr hw (Nat.le_of_ble_eq_true rfl) (Nat.le_of_ble_eq_true rfl) dL_bind_28)
  · refine lv_i2l (v := x3.toInt64) hx hb dL_bind_8 rfl ?_
    obtain ⟨k6, hw⟩ := hw
    obtain ⟨v7, hw⟩ := hw
    refine r_last X h k6 v7 dL_bind_9 (fun H locs h => ?_)
    obtain ⟨S8, eS8⟩ : ∃ z : Mem, z = (sJ S1 a3 (nI 0).toNatClampNeg x3.toInt64) := ⟨_, rfl⟩
    rw [← eS8] at h
    have hw := hw S8 eS8
    refine lv_goto (tgt := 29) hx hb dL_bind_10 (by decide) ?_
    refine lv_iconst (v := (nI 0)) hx hb dL_bind_29 (by decide) ?_
    exact (en_i X h hr hw (Nat.le_of_ble_eq_true rfl) (Nat.le_of_ble_eq_true rfl) dL_bind_30)
abbrev rmX6_findLot : Room := { frames := 0, cells := 0, slots := 0, locals := 0 }
def wpX6_findLot (S : Mem) (a0 : Nat) (p1 : Int32) (post : Option Nat → Mem → Prop) : Prop := (p1 < 0 → (post none S)) ∧ (¬ p1 < 0 → (isK S a0 6 ∧ (((mI S a0 7) ≤ p1 → (post none S)) ∧ (¬ (mI S a0 7) ≤ p1 → (∃ o4, mR S a0 5 = some o4 ∧ (isK S o4 11 ∧ (((nI (mN S o4)) ≤ p1 → (post none S)) ∧ (¬ (nI (mN S o4)) ≤ p1 → (vp_in p1 (mN S o4) ∧ ((mR S o4 p1.toNatClampNeg = none → (post none S)) ∧ (∀ o8, mR S o4 p1.toNatClampNeg = some o8 → (post (some o8) S))))))))))))
set_option maxHeartbeats 4000000 in
set_option maxRecDepth 100000 in
theorem meX6_findLot (l : Launch) (G : GT) (S : Mem) (a0 : Nat) (p1 : Int32) (post : Option Nat → Mem → Prop) (hw : wpX6_findLot S a0 p1 post) : CN emR l yX6_findLot (wsU yX6_findLot cX6_findLot 2 (some (.object "BinderyDesk$Lot"))) rmX6_findLot 0 0 G [.ref a0, .int p1] S post := by
  refine cn_open RX6 rfl (by decide +kernel) (Nat.le_of_ble_eq_true rfl) ?_
  intro p e s m args below meth c A X h hr hin ls hl
  have hl : lv_has ls 2 [(0, .ref a0), (1, .int p1)] := hl
  have hx := X.1
  have hb := X.2.1
  have hown := X.2.2.2.1
  unfold wpX6_findLot at hw
  refine lv_iload_n hx hb dX6_findLot_0 rfl (lv_at hl 1 rfl) ?_
  refine lv_if_lt (tgt := 30) hx hb dX6_findLot_1 (by decide) (fun c1 => ?_) (fun c1 => ?_)
  · have hw := hw.1 c1
    refine lv_null hx hb dX6_findLot_30 ?_
    exact (en_r (r := none) X h rfl hr hw (Nat.le_of_ble_eq_true rfl) (Nat.le_of_ble_eq_true rfl) dX6_findLot_31)
  · have hw := hw.2 c1
    refine lv_iload_n hx hb dX6_findLot_4 rfl (lv_at hl 1 rfl) ?_
    refine lv_aload_n hx hb dX6_findLot_5 rfl (lv_at hl 0 rfl) ?_
    obtain ⟨k2, hw⟩ := hw
    refine r_getI X h k2 7  (by decide) rfl inX6 (by decide) rfl q148 rfl dX6_findLot_6 ?_
    refine lv_icmp_ge (tgt := 30) hx hb dX6_findLot_9 (by decide) (fun c3 => ?_) (fun c3 => ?_)
    · have hw := hw.1 c3
      refine lv_null hx hb dX6_findLot_30 ?_
      exact (en_r (r := none) X h rfl hr hw (Nat.le_of_ble_eq_true rfl) (Nat.le_of_ble_eq_true rfl) dX6_findLot_31)
    · have hw := hw.2 c3
      refine lv_iload_n hx hb dX6_findLot_12 rfl (lv_at hl 1 rfl) ?_
      refine lv_aload_n hx hb dX6_findLot_13 rfl (lv_at hl 0 rfl) ?_
      obtain ⟨o4, eo4, hw⟩ := hw
      refine r_getR X h k2 5 eo4  (by decide) rfl inX6 (by decide) rfl q146 rfl dX6_findLot_14 ?_
      obtain ⟨k5, hw⟩ := hw
      refine r_alen X h k5 (by decide) dX6_findLot_17 ?_
      refine lv_icmp_ge (tgt := 30) hx hb dX6_findLot_18 (by decide) (fun c6 => ?_) (fun c6 => ?_)
      · have hw := hw.1 c6
        refine lv_null hx hb dX6_findLot_30 ?_
        exact (en_r (r := none) X h rfl hr hw (Nat.le_of_ble_eq_true rfl) (Nat.le_of_ble_eq_true rfl) dX6_findLot_31)
      · have hw := hw.2 c6
        refine lv_aload_n hx hb dX6_findLot_21 rfl (lv_at hl 0 rfl) ?_
        refine r_getR X h k2 5 eo4  (by decide) rfl inX6 (by decide) rfl q146 rfl dX6_findLot_22 ?_
        refine lv_iload_n hx hb dX6_findLot_25 rfl (lv_at hl 1 rfl) ?_
        obtain ⟨v7, hw⟩ := hw
        rcases hqo8 : mR S o4 p1.toNatClampNeg with _ | o8
        · have hw := hw.1 hqo8
          refine r_aldLot (r := none) X h k5 v7 hqo8 dX6_findLot_26 ?_
          refine lv_goto (tgt := 31) hx hb dX6_findLot_27 (by decide) ?_
          exact (en_r (r := none) X h rfl hr hw (Nat.le_of_ble_eq_true rfl) (Nat.le_of_ble_eq_true rfl) dX6_findLot_31)
        · have hw := hw.2 o8 hqo8
          refine r_aldLot (r := some o8) X h k5 v7 hqo8 dX6_findLot_26 ?_
          refine lv_goto (tgt := 31) hx hb dX6_findLot_27 (by decide) ?_
          exact (en_r (r := (some o8)) X h rfl hr hw (Nat.le_of_ble_eq_true rfl) (Nat.le_of_ble_eq_true rfl) dX6_findLot_31)
abbrev rmX6_existingLot : Room := { frames := 6, cells := 1, slots := 6, locals := 90 }
def wpX6_existingLot (S : Mem) (a0 : Nat) (p1 : Int32) (post : Option Nat → Mem → Prop) (px : Nat → Mem → Prop) : Prop := isK S a0 6 ∧ (wpX6_findLot S a0 p1 (fun r3 S1 => (r3 = none → (px 1 S1)) ∧ (∀ o4, r3 = some o4 → (post (some o4) S1))))
set_option maxHeartbeats 4000000 in
set_option maxRecDepth 100000 in
theorem meX6_existingLot (l : Launch) (hl9 : l.stackTraces = false) (G : GT) (S : Mem) (a0 : Nat) (p1 : Int32) (post : Option Nat → Mem → Prop) (px : Nat → Mem → Prop) (hw : wpX6_existingLot S a0 p1 post px) : CX emR l yX6_existingLot (wsU yX6_existingLot cX6_existingLot 3 (some (.object "BinderyDesk$Lot"))) rmX6_existingLot 1 6 G [.ref a0, .int p1] S post px := by
  refine cx_open RX6 rfl (by decide +kernel) (Nat.le_of_ble_eq_true rfl) ?_
  intro p e s m args below meth c A X h hr hno ls hl
  have hl : lv_has ls 3 [(0, .ref a0), (1, .int p1)] := hl
  have hx := X.1
  have hb := X.2.1
  have hown := X.2.2.2.1
  unfold wpX6_existingLot at hw
  refine lv_aload_n hx hb dX6_existingLot_0 rfl (lv_at hl 0 rfl) ?_
  refine lv_iload_n hx hb dX6_existingLot_1 rfl (lv_at hl 1 rfl) ?_
  obtain ⟨k2, hw⟩ := hw
  refine rc_V (As := [.int p1]) (rest := []) X h k2 (by decide) rfl (meX6_findLot l G _ _ _ _ hw) gV_X6_266 rfl rfl hdV_X6_findLot rfl ⟨Nat.le_of_ble_eq_true rfl, Nat.le_of_ble_eq_true rfl⟩ hl.1 rfl (Nat.le_of_ble_eq_true rfl) ⟨Nat.le_of_ble_eq_true rfl, Nat.le_of_ble_eq_true rfl⟩ dX6_existingLot_2 (fun r3 S1 H locs hw h => ?_)
  rcases r3 with _ | o4
  · have hw := hw.1 rfl
    refine lv_astore_nN (lv' := [(2, .null), (0, .ref a0), (1, .int p1)]) hx hb dX6_existingLot_5 rfl hl (by decide) rfl (fun ls hl => ?_)
    refine lv_aload_nN hx hb dX6_existingLot_6 rfl (lv_at hl 0 rfl) ?_
    refine lv_ifnonnullN hx hb dX6_existingLot_7 ?_
    exact en_xW 1 X h hl9 th_X6_295 hl.1 hno dX6_existingLot_10 dX6_existingLot_13 dX6_existingLot_14 dX6_existingLot_17 dX6_existingLot_20 ⟨Nat.le_of_ble_eq_true rfl, Nat.le_of_ble_eq_true rfl⟩ ⟨Nat.le_of_ble_eq_true rfl, Nat.le_of_ble_eq_true rfl⟩ ⟨Nat.le_of_ble_eq_true rfl, Nat.le_of_ble_eq_true rfl⟩ hw
  · have hw := hw.2 o4 rfl
    refine lv_astore_n (lv' := [(2, .ref o4), (0, .ref a0), (1, .int p1)]) hx hb dX6_existingLot_5 rfl hl (by decide) rfl (fun ls hl => ?_)
    refine lv_aload_n hx hb dX6_existingLot_6 rfl (lv_at hl 0 rfl) ?_
    refine lv_ifnonnull (tgt := 21) hx hb dX6_existingLot_7 (by decide) ?_
    refine lv_aload_n hx hb dX6_existingLot_21 rfl (lv_at hl 0 rfl) ?_
    exact vx_ret (en_r (r := (some o4)) X h rfl hr hw (Nat.le_of_ble_eq_true rfl) (Nat.le_of_ble_eq_true rfl) dX6_existingLot_22)
abbrev rmX6_copies : Room := { frames := 7, cells := 1, slots := 6, locals := 112 }
def wpX6_copies (S : Mem) (a0 : Nat) (p1 : Int32) (post : Int32 → Mem → Prop) (px : Nat → Mem → Prop) : Prop := isK S a0 6 ∧ (wpX6_existingLot S a0 p1 (fun r3 S1 => ∃ o4, r3 = some o4 ∧ (isK S1 o4 2 ∧ (post (mI S1 o4 0) S1))) px)
set_option maxHeartbeats 4000000 in
set_option maxRecDepth 100000 in
theorem meX6_copies (l : Launch) (hl9 : l.stackTraces = false) (G : GT) (S : Mem) (a0 : Nat) (p1 : Int32) (post : Int32 → Mem → Prop) (px : Nat → Mem → Prop) (hw : wpX6_copies S a0 p1 post px) : CX emI l yX6_copies (wsU yX6_copies cX6_copies 2 (some .int)) rmX6_copies 1 6 G [.ref a0, .int p1] S post px := by
  refine cx_open RX6 rfl (by decide +kernel) (Nat.le_of_ble_eq_true rfl) ?_
  intro p e s m args below meth c A X h hr hno ls hl
  have hl : lv_has ls 2 [(0, .ref a0), (1, .int p1)] := hl
  have hx := X.1
  have hb := X.2.1
  have hown := X.2.2.2.1
  unfold wpX6_copies at hw
  refine lv_aload_n hx hb dX6_copies_0 rfl (lv_at hl 0 rfl) ?_
  refine lv_iload_n hx hb dX6_copies_1 rfl (lv_at hl 1 rfl) ?_
  obtain ⟨k2, hw⟩ := hw
  refine rx_V (As := [.int p1]) (rest := []) X h hno k2 (by decide) rfl (meX6_existingLot l hl9 G _ _ _ _ _ hw) gV_X6_243 rfl rfl hdV_X6_existingLot rfl ⟨Nat.le_of_ble_eq_true rfl, Nat.le_of_ble_eq_true rfl⟩ hl.1 rfl (Nat.le_of_ble_eq_true rfl) ⟨Nat.le_of_ble_eq_true rfl, Nat.le_of_ble_eq_true rfl⟩ ⟨Nat.le_of_ble_eq_true rfl, Nat.le_of_ble_eq_true rfl⟩ dX6_copies_2 (fun r3 S1 H locs hw h => ?_)
  obtain ⟨o4, rfl, hw⟩ := hw
  obtain ⟨k5, hw⟩ := hw
  refine r_getIN X h k5 0  (by decide) rfl inX2 (by decide) rfl q720 rfl dX6_copies_5 ?_
  exact vx_ret (en_i X h hr hw (Nat.le_of_ble_eq_true rfl) (Nat.le_of_ble_eq_true rfl) dX6_copies_8)
abbrev rmL_copies : Room := { frames := 8, cells := 1, slots := 6, locals := 133 }
def wpL_copies (S : Mem) (a0 : Nat) (p1 : Int32) (a2 : Nat) (post : Int32 → Mem → Prop) : Prop := isK S a0 6 ∧ (wpX6_copies S a0 p1 (fun x3 S1 => isK S1 a2 12 ∧ (vp_in (nI 0) (mN S1 a2) ∧ (∀ S8 : Mem, S8 = (sJ S1 a2 (nI 0).toNatClampNeg x3.toInt64) → (post (nI 0) S8)))) (fun k4 S5 => (k4 = 1 → (post (nI 1) S5)) ∧ (k4 = 1)))
set_option maxHeartbeats 4000000 in
set_option maxRecDepth 100000 in
theorem meL_copies (l : Launch) (hl9 : l.stackTraces = false) (G : GT) (S : Mem) (a0 : Nat) (p1 : Int32) (a2 : Nat) (post : Int32 → Mem → Prop) (hw : wpL_copies S a0 p1 a2 post) : CN emI l yL_copies (wsH yL_copies cL_copies 4 (some .int) [(0, 9, 12, 19)]) rmL_copies 1 6 G [.ref a0, .int p1, .ref a2] S post := by
  refine ch_open RL rfl (by decide +kernel) (Nat.le_of_ble_eq_true rfl) ?_
  intro p e s m args below meth c A X h hr hTab ls hl
  have hl : lv_has ls 4 [(0, .ref a0), (1, .int p1), (2, .ref a2)] := hl
  have hx := X.1
  have hb := X.2.1
  have hown := X.2.2.2.1
  unfold wpL_copies at hw
  refine lv_aload_n hx hb dL_copies_0 rfl (lv_at hl 2 rfl) ?_
  refine lv_iconst (v := (nI 0)) hx hb dL_copies_1 (by decide) ?_
  refine lv_aload_n hx hb dL_copies_2 rfl (lv_at hl 0 rfl) ?_
  refine lv_iload_n hx hb dL_copies_3 rfl (lv_at hl 1 rfl) ?_
  obtain ⟨k2, hw⟩ := hw
  refine rx_VH (As := [.int p1]) (rest := [.int (nI 0), .ref a2]) X h k2 (by decide) rfl (meX6_copies l hl9 G _ _ _ _ _ hw) gV_L_79 rfl rfl hdV_X6_copies rfl ⟨Nat.le_of_ble_eq_true rfl, Nat.le_of_ble_eq_true rfl⟩ hl.1 rfl (Nat.le_of_ble_eq_true rfl) ⟨Nat.le_of_ble_eq_true rfl, Nat.le_of_ble_eq_true rfl⟩ dL_copies_4 (fun k4 S5 H locs q9 ce hw h hce hcv hcl => ?_) (fun x3 S1 H locs hw h => ?_)
  · rcases hw.2 with hk9
    · subst hk9
      have hw := hw.1 rfl
      refine vx_catch (own := RL) (name := "java/lang/IndexOutOfBoundsException") (E := xn 1) hown [] ⟨0, 9, 12, 19⟩ [] (by rw [hTab]; rfl) (fun z hz => nomatch hz) (by decide) (by decide) (X.hts q277) (va_Nw.use (by rfl) (X.nw q311)) hce hcv hcl ?_
      refine lv_astore_n (lv' := [(3, .ref q9), (0, .ref a0), (1, .int p1), (2, .ref a2)]) hx hb dL_copies_12 rfl hl (by decide) rfl (fun ls hl => ?_)
      refine lv_iconst (v := (nI 1)) hx hb dL_copies_13 (by decide) ?_
      exact (en_i X h hr hw (Nat.le_of_ble_eq_true rfl) (Nat.le_of_ble_eq_true rfl) dL_copies_14)
  · refine lv_i2l (v := x3.toInt64) hx hb dL_copies_7 rfl ?_
    obtain ⟨k6, hw⟩ := hw
    obtain ⟨v7, hw⟩ := hw
    refine r_last X h k6 v7 dL_copies_8 (fun H locs h => ?_)
    obtain ⟨S8, eS8⟩ : ∃ z : Mem, z = (sJ S1 a2 (nI 0).toNatClampNeg x3.toInt64) := ⟨_, rfl⟩
    rw [← eS8] at h
    have hw := hw S8 eS8
    refine lv_goto (tgt := 15) hx hb dL_copies_9 (by decide) ?_
    refine lv_iconst (v := (nI 0)) hx hb dL_copies_15 (by decide) ?_
    exact (en_i X h hr hw (Nat.le_of_ble_eq_true rfl) (Nat.le_of_ble_eq_true rfl) dL_copies_16)
abbrev rmX1_placeCount : Room := { frames := 0, cells := 0, slots := 0, locals := 0 }
def wpX1_placeCount (S : Mem) (a0 : Nat) (post : Int32 → Mem → Prop) : Prop := isK S a0 1 ∧ ((¬ (mI S a0 0) = (nI 119) → (post (nI 4) S)) ∧ ((mI S a0 0) = (nI 119) → (post (nI 2) S)))
set_option maxHeartbeats 4000000 in
set_option maxRecDepth 100000 in
theorem meX1_placeCount (l : Launch) (G : GT) (S : Mem) (a0 : Nat) (post : Int32 → Mem → Prop) (hw : wpX1_placeCount S a0 post) : CN emI l yX1_placeCount (wsU yX1_placeCount cX1_placeCount 1 (some .int)) rmX1_placeCount 0 0 G [.ref a0] S post := by
  refine cn_open RX1 rfl (by decide +kernel) (Nat.le_of_ble_eq_true rfl) ?_
  intro p e s m args below meth c A X h hr hin ls hl
  have hl : lv_has ls 1 [(0, .ref a0)] := hl
  have hx := X.1
  have hb := X.2.1
  have hown := X.2.2.2.1
  unfold wpX1_placeCount at hw
  refine lv_aload_n hx hb dX1_placeCount_0 rfl (lv_at hl 0 rfl) ?_
  obtain ⟨k1, hw⟩ := hw
  refine r_getI X h k1 0  (by decide) rfl inX1 (by decide) rfl q429 rfl dX1_placeCount_1 ?_
  refine lv_bipush (v := (nI 119)) hx hb dX1_placeCount_4 (by decide) ?_
  refine lv_icmp_ne (tgt := 13) hx hb dX1_placeCount_6 (by decide) (fun c2 => ?_) (fun c2 => ?_)
  · have hw := hw.1 c2
    refine lv_iconst (v := (nI 4)) hx hb dX1_placeCount_13 (by decide) ?_
    exact (en_i X h hr hw (Nat.le_of_ble_eq_true rfl) (Nat.le_of_ble_eq_true rfl) dX1_placeCount_14)
  · have hw := hw.2 c2
    refine lv_iconst (v := (nI 2)) hx hb dX1_placeCount_9 (by decide) ?_
    refine lv_goto (tgt := 14) hx hb dX1_placeCount_10 (by decide) ?_
    exact (en_i X h hr hw (Nat.le_of_ble_eq_true rfl) (Nat.le_of_ble_eq_true rfl) dX1_placeCount_14)
abbrev rmX1_pageOn : Room := { frames := 0, cells := 0, slots := 0, locals := 0 }
def wpX1_pageOn (S : Mem) (a0 : Nat) (p1 : Int32) (p2 : Int32) (post : Int32 → Mem → Prop) : Prop := isK S a0 1 ∧ ((¬ (mI S a0 0) = (nI 119) → ((¬ (mI S a0 0) = (nI 112) → ((¬ (0 ≤ p2.toInt ∧ p2.toInt < 3) → (post (((mI S a0 3) - ((nI 2) * p1)) - (nI 1)) S)) ∧ (p2 = nI 0 → (post ((mI S a0 3) - ((nI 2) * p1)) S)) ∧ (p2 = nI 1 → (post (((nI 2) * p1) + (nI 1)) S)) ∧ (p2 = nI 2 → (post (((nI 2) * p1) + (nI 2)) S)))) ∧ ((mI S a0 0) = (nI 112) → ((¬ p2 = 0 → (post (((nI 4) * p1) + p2) S)) ∧ (p2 = 0 → (post (((nI 4) * p1) + (nI 4)) S)))))) ∧ ((mI S a0 0) = (nI 119) → (post ((((nI 2) * p1) + (nI 1)) + p2) S)))
set_option maxHeartbeats 4000000 in
set_option maxRecDepth 100000 in
theorem meX1_pageOn (l : Launch) (G : GT) (S : Mem) (a0 : Nat) (p1 : Int32) (p2 : Int32) (post : Int32 → Mem → Prop) (hw : wpX1_pageOn S a0 p1 p2 post) : CN emI l yX1_pageOn (wsU yX1_pageOn cX1_pageOn 3 (some .int)) rmX1_pageOn 0 0 G [.ref a0, .int p1, .int p2] S post := by
  refine cn_open RX1 rfl (by decide +kernel) (Nat.le_of_ble_eq_true rfl) ?_
  intro p e s m args below meth c A X h hr hin ls hl
  have hl : lv_has ls 3 [(0, .ref a0), (1, .int p1), (2, .int p2)] := hl
  have hx := X.1
  have hb := X.2.1
  have hown := X.2.2.2.1
  unfold wpX1_pageOn at hw
  refine lv_aload_n hx hb dX1_pageOn_0 rfl (lv_at hl 0 rfl) ?_
  obtain ⟨k1, hw⟩ := hw
  refine r_getI X h k1 0  (by decide) rfl inX1 (by decide) rfl q429 rfl dX1_pageOn_1 ?_
  refine lv_bipush (v := (nI 119)) hx hb dX1_pageOn_4 (by decide) ?_
  refine lv_icmp_ne (tgt := 17) hx hb dX1_pageOn_6 (by decide) (fun c2 => ?_) (fun c2 => ?_)
  · have hw := hw.1 c2
    refine lv_aload_n hx hb dX1_pageOn_17 rfl (lv_at hl 0 rfl) ?_
    refine r_getI X h k1 0  (by decide) rfl inX1 (by decide) rfl q429 rfl dX1_pageOn_18 ?_
    refine lv_bipush (v := (nI 112)) hx hb dX1_pageOn_21 (by decide) ?_
    refine lv_icmp_ne (tgt := 44) hx hb dX1_pageOn_23 (by decide) (fun c3 => ?_) (fun c3 => ?_)
    · have hw := hw.1 c3
      refine lv_iload_n hx hb dX1_pageOn_44 rfl (lv_at hl 2 rfl) ?_
      rcases tbl_cases p2 3 (by decide) with c4 | ⟨jc4, hjc4, c4⟩
      · have hw := hw.1 c4
        refine lv_tableOut (tgt := 93) hx hb dX1_pageOn_45 (by omega) (by decide) ?_
        refine lv_aload_n hx hb dX1_pageOn_93 rfl (lv_at hl 0 rfl) ?_
        refine r_getI X h k1 3  (by decide) rfl inX1 (by decide) rfl q433 rfl dX1_pageOn_94 ?_
        refine lv_iconst (v := (nI 2)) hx hb dX1_pageOn_97 (by decide) ?_
        refine lv_iload_n hx hb dX1_pageOn_98 rfl (lv_at hl 1 rfl) ?_
        refine lv_imul hx hb dX1_pageOn_99 ?_
        refine lv_isub hx hb dX1_pageOn_100 ?_
        refine lv_iconst (v := (nI 1)) hx hb dX1_pageOn_101 (by decide) ?_
        refine lv_isub hx hb dX1_pageOn_102 ?_
        exact (en_i X h hr hw (Nat.le_of_ble_eq_true rfl) (Nat.le_of_ble_eq_true rfl) dX1_pageOn_103)
      · have hw := hw.2
        rcases jc4 with _ | jc4
        · have hw := hw.1 c4
          refine lv_tableIn (tgt := 72) (off := 27) hx hb dX1_pageOn_45 (by rw [c4]; decide) (by rw [c4]; decide) (by rw [c4]; rfl) (by decide) ?_
          refine lv_aload_n hx hb dX1_pageOn_72 rfl (lv_at hl 0 rfl) ?_
          refine r_getI X h k1 3  (by decide) rfl inX1 (by decide) rfl q433 rfl dX1_pageOn_73 ?_
          refine lv_iconst (v := (nI 2)) hx hb dX1_pageOn_76 (by decide) ?_
          refine lv_iload_n hx hb dX1_pageOn_77 rfl (lv_at hl 1 rfl) ?_
          refine lv_imul hx hb dX1_pageOn_78 ?_
          refine lv_isub hx hb dX1_pageOn_79 ?_
          exact (en_i X h hr hw (Nat.le_of_ble_eq_true rfl) (Nat.le_of_ble_eq_true rfl) dX1_pageOn_80)
        have hw := hw.2
        rcases jc4 with _ | jc4
        · have hw := hw.1 c4
          refine lv_tableIn (tgt := 81) (off := 36) hx hb dX1_pageOn_45 (by rw [c4]; decide) (by rw [c4]; decide) (by rw [c4]; rfl) (by decide) ?_
          refine lv_iconst (v := (nI 2)) hx hb dX1_pageOn_81 (by decide) ?_
          refine lv_iload_n hx hb dX1_pageOn_82 rfl (lv_at hl 1 rfl) ?_
          refine lv_imul hx hb dX1_pageOn_83 ?_
          refine lv_iconst (v := (nI 1)) hx hb dX1_pageOn_84 (by decide) ?_
          refine lv_iadd hx hb dX1_pageOn_85 ?_
          exact (en_i X h hr hw (Nat.le_of_ble_eq_true rfl) (Nat.le_of_ble_eq_true rfl) dX1_pageOn_86)
        have hw := hw.2
        obtain rfl : jc4 = 0 := by omega
        have hw := hw c4
        refine lv_tableIn (tgt := 87) (off := 42) hx hb dX1_pageOn_45 (by rw [c4]; decide) (by rw [c4]; decide) (by rw [c4]; rfl) (by decide) ?_
        refine lv_iconst (v := (nI 2)) hx hb dX1_pageOn_87 (by decide) ?_
        refine lv_iload_n hx hb dX1_pageOn_88 rfl (lv_at hl 1 rfl) ?_
        refine lv_imul hx hb dX1_pageOn_89 ?_
        refine lv_iconst (v := (nI 2)) hx hb dX1_pageOn_90 (by decide) ?_
        refine lv_iadd hx hb dX1_pageOn_91 ?_
        exact (en_i X h hr hw (Nat.le_of_ble_eq_true rfl) (Nat.le_of_ble_eq_true rfl) dX1_pageOn_92)
    · have hw := hw.2 c3
      refine lv_iload_n hx hb dX1_pageOn_26 rfl (lv_at hl 2 rfl) ?_
      refine lv_if_ne (tgt := 38) hx hb dX1_pageOn_27 (by decide) (fun c5 => ?_) (fun c5 => ?_)
      · have hw := hw.1 c5
        refine lv_iconst (v := (nI 4)) hx hb dX1_pageOn_38 (by decide) ?_
        refine lv_iload_n hx hb dX1_pageOn_39 rfl (lv_at hl 1 rfl) ?_
        refine lv_imul hx hb dX1_pageOn_40 ?_
        refine lv_iload_n hx hb dX1_pageOn_41 rfl (lv_at hl 2 rfl) ?_
        refine lv_iadd hx hb dX1_pageOn_42 ?_
        exact (en_i X h hr hw (Nat.le_of_ble_eq_true rfl) (Nat.le_of_ble_eq_true rfl) dX1_pageOn_43)
      · have hw := hw.2 c5
        refine lv_iconst (v := (nI 4)) hx hb dX1_pageOn_30 (by decide) ?_
        refine lv_iload_n hx hb dX1_pageOn_31 rfl (lv_at hl 1 rfl) ?_
        refine lv_imul hx hb dX1_pageOn_32 ?_
        refine lv_iconst (v := (nI 4)) hx hb dX1_pageOn_33 (by decide) ?_
        refine lv_iadd hx hb dX1_pageOn_34 ?_
        refine lv_goto (tgt := 43) hx hb dX1_pageOn_35 (by decide) ?_
        exact (en_i X h hr hw (Nat.le_of_ble_eq_true rfl) (Nat.le_of_ble_eq_true rfl) dX1_pageOn_43)
  · have hw := hw.2 c2
    refine lv_iconst (v := (nI 2)) hx hb dX1_pageOn_9 (by decide) ?_
    refine lv_iload_n hx hb dX1_pageOn_10 rfl (lv_at hl 1 rfl) ?_
    refine lv_imul hx hb dX1_pageOn_11 ?_
    refine lv_iconst (v := (nI 1)) hx hb dX1_pageOn_12 (by decide) ?_
    refine lv_iadd hx hb dX1_pageOn_13 ?_
    refine lv_iload_n hx hb dX1_pageOn_14 rfl (lv_at hl 2 rfl) ?_
    refine lv_iadd hx hb dX1_pageOn_15 ?_
    exact (en_i X h hr hw (Nat.le_of_ble_eq_true rfl) (Nat.le_of_ble_eq_true rfl) dX1_pageOn_16)
abbrev rmX1_contentOn : Room := { frames := 2, cells := 0, slots := 0, locals := 42 }
def wpX1_contentOn (S : Mem) (a0 : Nat) (p1 : Int32) (p2 : Int32) (post : Int32 → Mem → Prop) : Prop := isK S a0 1 ∧ (wpX1_pageOn S a0 p1 p2 (fun x3 S1 => isK S1 a0 1 ∧ (wpX1_contentOf S1 a0 x3 (fun x6 S4 => post x6 S4))))
set_option maxHeartbeats 4000000 in
set_option maxRecDepth 100000 in
theorem meX1_contentOn (l : Launch) (G : GT) (S : Mem) (a0 : Nat) (p1 : Int32) (p2 : Int32) (post : Int32 → Mem → Prop) (hw : wpX1_contentOn S a0 p1 p2 post) : CN emI l yX1_contentOn (wsU yX1_contentOn cX1_contentOn 3 (some .int)) rmX1_contentOn 0 0 G [.ref a0, .int p1, .int p2] S post := by
  refine cn_open RX1 rfl (by decide +kernel) (Nat.le_of_ble_eq_true rfl) ?_
  intro p e s m args below meth c A X h hr hin ls hl
  have hl : lv_has ls 3 [(0, .ref a0), (1, .int p1), (2, .int p2)] := hl
  have hx := X.1
  have hb := X.2.1
  have hown := X.2.2.2.1
  unfold wpX1_contentOn at hw
  refine lv_aload_n hx hb dX1_contentOn_0 rfl (lv_at hl 0 rfl) ?_
  refine lv_aload_n hx hb dX1_contentOn_1 rfl (lv_at hl 0 rfl) ?_
  refine lv_iload_n hx hb dX1_contentOn_2 rfl (lv_at hl 1 rfl) ?_
  refine lv_iload_n hx hb dX1_contentOn_3 rfl (lv_at hl 2 rfl) ?_
  obtain ⟨k2, hw⟩ := hw
  refine rc_V (As := [.int p1, .int p2]) (rest := [.ref a0]) X h k2 (by decide) rfl (meX1_pageOn l G _ _ _ _ _ hw) gV_X1_34 rfl rfl hdV_X1_pageOn rfl ⟨Nat.le_of_ble_eq_true rfl, Nat.le_of_ble_eq_true rfl⟩ hl.1 rfl (Nat.le_of_ble_eq_true rfl) ⟨Nat.le_of_ble_eq_true rfl, Nat.le_of_ble_eq_true rfl⟩ dX1_contentOn_4 (fun x3 S1 H locs hw h => ?_)
  obtain ⟨k5, hw⟩ := hw
  refine rc_V (As := [.int x3]) (rest := []) X h k5 (by decide) rfl (meX1_contentOf l G _ _ _ _ hw) gV_X1_38 rfl rfl hdV_X1_contentOf rfl ⟨Nat.le_of_ble_eq_true rfl, Nat.le_of_ble_eq_true rfl⟩ hl.1 rfl (Nat.le_of_ble_eq_true rfl) ⟨Nat.le_of_ble_eq_true rfl, Nat.le_of_ble_eq_true rfl⟩ dX1_contentOn_7 (fun x6 S4 H locs hw h => ?_)
  exact (en_i X h hr hw (Nat.le_of_ble_eq_true rfl) (Nat.le_of_ble_eq_true rfl) dX1_contentOn_10)
abbrev rmX1_isShowing : Room := { frames := 3, cells := 0, slots := 0, locals := 64 }
def wlX1_isShowing_8 (a0 : Nat) (p1 : Int32) (p2 : Int32) (x3 : Int32) (post : Int32 → Mem → Prop)  : Nat → Int32 → Mem → Prop
  | 0 => fun _ _ => False
  | n + 1 => fun w4 S => (x3 ≤ w4 → (vz_nar (nI 0) ∧ (post (nI 0) S))) ∧ (¬ x3 ≤ w4 → (isK S a0 1 ∧ (wpX1_contentOn S a0 p1 w4 (fun x8 S6 => (¬ x8 = p2 → (∀ x10 : Int32, x10 = (w4 + (nI 1)) → (wlX1_isShowing_8 a0 p1 p2 x3 post n x10 S6))) ∧ (x8 = p2 → (vz_nar (nI 1) ∧ (post (nI 1) S6)))))))
set_option maxHeartbeats 4000000 in
set_option maxRecDepth 100000 in
theorem llX1_isShowing_8 {p : Program} {l : Launch} {e : Env} {s : State} {m : MethodId} {args : Array Value} {below : List Frame} {meth : Method} {c : Code} {G : GT} {A : Nat → Prop} (X : Cx p s m args meth c cX1_isShowing 5 RX1 G A) (hr : meth.sig.returnType = (some .boolean)) (a0 : Nat) (p1 : Int32) (p2 : Int32) (x3 : Int32) (post : Int32 → Mem → Prop)   : ∀ (n : Nat) (w4 : Int32) (S : Mem), wlX1_isShowing_8 a0 p1 p2 x3 post n w4 S → ∀ (H : Heap) (locs : List Loc) (ls : Array Slot), Hx G A s.heap H locs S → lv_has ls 5 [(0, .ref a0), (1, .int p1), (2, .int p2), (3, .int x3), (4, .int w4)] → W p l e rmX1_isShowing s m args below meth c H locs 0 0 (MQ below (QN emI post G A) args s 0 0 A) (F0 m 8 ls []) := by
  have hx := X.1
  have hb := X.2.1
  have hown := X.2.2.2.1
  intro n
  induction n with
  | zero =>
    intro _ _ hw
    exact hw.elim
  | succ n ih =>
    intro w4 S hw H locs ls h hl
    refine lv_iload hx hb dX1_isShowing_8 (lv_at hl 4 rfl) ?_
    refine lv_iload_n hx hb dX1_isShowing_10 rfl (lv_at hl 3 rfl) ?_
    refine lv_icmp_ge (tgt := 33) hx hb dX1_isShowing_11 (by decide) (fun c4 => ?_) (fun c4 => ?_)
    · have hw := hw.1 c4
      refine lv_iconst (v := (nI 0)) hx hb dX1_isShowing_33 (by decide) ?_
      obtain ⟨b5, hw⟩ := hw
      exact (en_z X h hr b5 hw (Nat.le_of_ble_eq_true rfl) (Nat.le_of_ble_eq_true rfl) dX1_isShowing_34)
    · have hw := hw.2 c4
      refine lv_aload_n hx hb dX1_isShowing_14 rfl (lv_at hl 0 rfl) ?_
      refine lv_iload_n hx hb dX1_isShowing_15 rfl (lv_at hl 1 rfl) ?_
      refine lv_iload hx hb dX1_isShowing_16 (lv_at hl 4 rfl) ?_
      obtain ⟨k7, hw⟩ := hw
      refine rc_V (As := [.int p1, .int w4]) (rest := []) X h k7 (by decide) rfl (meX1_contentOn l G _ _ _ _ _ hw) gV_X1_53 rfl rfl hdV_X1_contentOn rfl ⟨Nat.le_of_ble_eq_true rfl, Nat.le_of_ble_eq_true rfl⟩ hl.1 rfl (Nat.le_of_ble_eq_true rfl) ⟨Nat.le_of_ble_eq_true rfl, Nat.le_of_ble_eq_true rfl⟩ dX1_isShowing_18 (fun x8 S6 H locs hw h => ?_)
      refine lv_iload_n hx hb dX1_isShowing_21 rfl (lv_at hl 2 rfl) ?_
      refine lv_icmp_ne (tgt := 27) hx hb dX1_isShowing_22 (by decide) (fun c9 => ?_) (fun c9 => ?_)
      · have hw := hw.1 c9
        obtain ⟨x10, ex10⟩ : ∃ y : Int32, y = (w4 + (nI 1)) := ⟨_, rfl⟩
        have hw := hw x10 ex10
        refine lv_iinc (v := x10) (lv' := [(4, .int x10), (0, .ref a0), (1, .int p1), (2, .int p2), (3, .int x3)]) hx hb dX1_isShowing_27 hl (k := 4) rfl (by rw [ex10]; rfl) (by decide) rfl (fun ls hl => ?_)
        refine lv_goto (tgt := 8) hx hb dX1_isShowing_30 (by decide) ?_
        exact ih _ _ hw _ _ _ h (lv_sub hl [1, 2, 3, 4, 0] rfl)
      · have hw := hw.2 c9
        refine lv_iconst (v := (nI 1)) hx hb dX1_isShowing_25 (by decide) ?_
        obtain ⟨b11, hw⟩ := hw
        exact (en_z X h hr b11 hw (Nat.le_of_ble_eq_true rfl) (Nat.le_of_ble_eq_true rfl) dX1_isShowing_26)
def wpX1_isShowing (S : Mem) (a0 : Nat) (p1 : Int32) (p2 : Int32) (post : Int32 → Mem → Prop) : Prop := isK S a0 1 ∧ (wpX1_placeCount S a0 (fun x3 S1 => ∃ m, wlX1_isShowing_8 a0 p1 p2 x3 post m (nI 0) S1))
set_option maxHeartbeats 4000000 in
set_option maxRecDepth 100000 in
theorem meX1_isShowing (l : Launch) (G : GT) (S : Mem) (a0 : Nat) (p1 : Int32) (p2 : Int32) (post : Int32 → Mem → Prop) (hw : wpX1_isShowing S a0 p1 p2 post) : CN emI l yX1_isShowing (wsU yX1_isShowing cX1_isShowing 5 (some .boolean)) rmX1_isShowing 0 0 G [.ref a0, .int p1, .int p2] S post := by
  refine cn_open RX1 rfl (by decide +kernel) (Nat.le_of_ble_eq_true rfl) ?_
  intro p e s m args below meth c A X h hr hin ls hl
  have hl : lv_has ls 5 [(0, .ref a0), (1, .int p1), (2, .int p2)] := hl
  have hx := X.1
  have hb := X.2.1
  have hown := X.2.2.2.1
  unfold wpX1_isShowing at hw
  refine lv_aload_n hx hb dX1_isShowing_0 rfl (lv_at hl 0 rfl) ?_
  obtain ⟨k2, hw⟩ := hw
  refine rc_V (As := []) (rest := []) X h k2 (by decide) rfl (meX1_placeCount l G _ _ _ hw) gV_X1_42 rfl rfl hdV_X1_placeCount rfl ⟨Nat.le_of_ble_eq_true rfl, Nat.le_of_ble_eq_true rfl⟩ hl.1 rfl (Nat.le_of_ble_eq_true rfl) ⟨Nat.le_of_ble_eq_true rfl, Nat.le_of_ble_eq_true rfl⟩ dX1_isShowing_1 (fun x3 S1 H locs hw h => ?_)
  refine lv_istore_n (lv' := [(3, .int x3), (0, .ref a0), (1, .int p1), (2, .int p2)]) hx hb dX1_isShowing_4 rfl hl (by decide) rfl (fun ls hl => ?_)
  refine lv_iconst (v := (nI 0)) hx hb dX1_isShowing_5 (by decide) ?_
  refine lv_istore (lv' := [(4, .int (nI 0)), (3, .int x3), (0, .ref a0), (1, .int p1), (2, .int p2)]) hx hb dX1_isShowing_6 hl (by decide) rfl (fun ls hl => ?_)
  obtain ⟨n12, hw⟩ := hw
  exact llX1_isShowing_8  X hr _ _ _ _ _ n12 _ _ hw _ _ _ h (lv_sub hl [2, 3, 4, 1, 0] rfl)
abbrev rmX1_takeSheetsShowing : Room := { frames := 4, cells := 0, slots := 0, locals := 88 }
def wlX1_takeSheetsShowing_10 (a0 : Nat) (p1 : Int32) (x3 : Int32) (post : Int32 → Mem → Prop)  : Nat → Int32 → Int32 → Mem → Prop
  | 0 => fun _ _ _ => False
  | n + 1 => fun w2 w4 S => (x3 ≤ w4 → (post w2 S)) ∧ (¬ x3 ≤ w4 → (isK S a0 1 ∧ (wpX1_isShowing S a0 w4 p1 (fun x7 S5 => (x7 = 0 → (∀ x9 : Int32, x9 = (w4 + (nI 1)) → (wlX1_takeSheetsShowing_10 a0 p1 x3 post n w2 x9 S5))) ∧ (¬ x7 = 0 → (isK S5 a0 1 ∧ (wpX1_takeSheets S5 a0 w4 (fun x12 S10 => ∀ x13 : Int32, x13 = (w2 + x12) → (∀ x14 : Int32, x14 = (w4 + (nI 1)) → (wlX1_takeSheetsShowing_10 a0 p1 x3 post n x13 x14 S10))))))))))
set_option maxHeartbeats 4000000 in
set_option maxRecDepth 100000 in
theorem llX1_takeSheetsShowing_10 {p : Program} {l : Launch} {e : Env} {s : State} {m : MethodId} {args : Array Value} {below : List Frame} {meth : Method} {c : Code} {G : GT} {A : Nat → Prop} (X : Cx p s m args meth c cX1_takeSheetsShowing 5 RX1 G A) (hr : meth.sig.returnType = (some .int)) (a0 : Nat) (p1 : Int32) (x3 : Int32) (post : Int32 → Mem → Prop)   : ∀ (n : Nat) (w2 : Int32) (w4 : Int32) (S : Mem), wlX1_takeSheetsShowing_10 a0 p1 x3 post n w2 w4 S → ∀ (H : Heap) (locs : List Loc) (ls : Array Slot), Hx G A s.heap H locs S → lv_has ls 5 [(0, .ref a0), (1, .int p1), (2, .int w2), (3, .int x3), (4, .int w4)] → W p l e rmX1_takeSheetsShowing s m args below meth c H locs 0 0 (MQ below (QN emI post G A) args s 0 0 A) (F0 m 10 ls []) := by
  have hx := X.1
  have hb := X.2.1
  have hown := X.2.2.2.1
  intro n
  induction n with
  | zero =>
    intro _ _ _ hw
    exact hw.elim
  | succ n ih =>
    intro w2 w4 S hw H locs ls h hl
    refine lv_iload hx hb dX1_takeSheetsShowing_10 (lv_at hl 4 rfl) ?_
    refine lv_iload_n hx hb dX1_takeSheetsShowing_12 rfl (lv_at hl 3 rfl) ?_
    refine lv_icmp_ge (tgt := 41) hx hb dX1_takeSheetsShowing_13 (by decide) (fun c4 => ?_) (fun c4 => ?_)
    · have hw := hw.1 c4
      refine lv_iload_n hx hb dX1_takeSheetsShowing_41 rfl (lv_at hl 2 rfl) ?_
      exact (en_i X h hr hw (Nat.le_of_ble_eq_true rfl) (Nat.le_of_ble_eq_true rfl) dX1_takeSheetsShowing_42)
    · have hw := hw.2 c4
      refine lv_aload_n hx hb dX1_takeSheetsShowing_16 rfl (lv_at hl 0 rfl) ?_
      refine lv_iload hx hb dX1_takeSheetsShowing_17 (lv_at hl 4 rfl) ?_
      refine lv_iload_n hx hb dX1_takeSheetsShowing_19 rfl (lv_at hl 1 rfl) ?_
      obtain ⟨k6, hw⟩ := hw
      refine rc_V (As := [.int w4, .int p1]) (rest := []) X h k6 (by decide) rfl (meX1_isShowing l G _ _ _ _ _ hw) gV_X1_59 rfl rfl hdV_X1_isShowing rfl ⟨Nat.le_of_ble_eq_true rfl, Nat.le_of_ble_eq_true rfl⟩ hl.1 rfl (Nat.le_of_ble_eq_true rfl) ⟨Nat.le_of_ble_eq_true rfl, Nat.le_of_ble_eq_true rfl⟩ dX1_takeSheetsShowing_20 (fun x7 S5 H locs hw h => ?_)
      refine lv_if_eq (tgt := 35) hx hb dX1_takeSheetsShowing_23 (by decide) (fun c8 => ?_) (fun c8 => ?_)
      · have hw := hw.1 c8
        obtain ⟨x9, ex9⟩ : ∃ y : Int32, y = (w4 + (nI 1)) := ⟨_, rfl⟩
        have hw := hw x9 ex9
        refine lv_iinc (v := x9) (lv' := [(4, .int x9), (0, .ref a0), (1, .int p1), (2, .int w2), (3, .int x3)]) hx hb dX1_takeSheetsShowing_35 hl (k := 4) rfl (by rw [ex9]; rfl) (by decide) rfl (fun ls hl => ?_)
        refine lv_goto (tgt := 10) hx hb dX1_takeSheetsShowing_38 (by decide) ?_
        exact ih _ _ _ hw _ _ _ h (lv_sub hl [1, 2, 3, 4, 0] rfl)
      · have hw := hw.2 c8
        refine lv_iload_n hx hb dX1_takeSheetsShowing_26 rfl (lv_at hl 2 rfl) ?_
        refine lv_aload_n hx hb dX1_takeSheetsShowing_27 rfl (lv_at hl 0 rfl) ?_
        refine lv_iload hx hb dX1_takeSheetsShowing_28 (lv_at hl 4 rfl) ?_
        obtain ⟨k11, hw⟩ := hw
        refine rc_V (As := [.int w4]) (rest := [.int w2]) X h k11 (by decide) rfl (meX1_takeSheets l G _ _ _ _ hw) gV_X1_56 rfl rfl hdV_X1_takeSheets rfl ⟨Nat.le_of_ble_eq_true rfl, Nat.le_of_ble_eq_true rfl⟩ hl.1 rfl (Nat.le_of_ble_eq_true rfl) ⟨Nat.le_of_ble_eq_true rfl, Nat.le_of_ble_eq_true rfl⟩ dX1_takeSheetsShowing_30 (fun x12 S10 H locs hw h => ?_)
        refine lv_iadd hx hb dX1_takeSheetsShowing_33 ?_
        refine lv_topi (fun x13 ex13 => ?_)
        have hw := hw x13 ex13
        refine lv_istore_n (lv' := [(2, .int x13), (0, .ref a0), (1, .int p1), (3, .int x3), (4, .int w4)]) hx hb dX1_takeSheetsShowing_34 rfl hl (by decide) rfl (fun ls hl => ?_)
        obtain ⟨x14, ex14⟩ : ∃ y : Int32, y = (w4 + (nI 1)) := ⟨_, rfl⟩
        have hw := hw x14 ex14
        refine lv_iinc (v := x14) (lv' := [(4, .int x14), (2, .int x13), (0, .ref a0), (1, .int p1), (3, .int x3)]) hx hb dX1_takeSheetsShowing_35 hl (k := 4) rfl (by rw [ex14]; rfl) (by decide) rfl (fun ls hl => ?_)
        refine lv_goto (tgt := 10) hx hb dX1_takeSheetsShowing_38 (by decide) ?_
        exact ih _ _ _ hw _ _ _ h (lv_sub hl [2, 3, 1, 4, 0] rfl)
def wpX1_takeSheetsShowing (S : Mem) (a0 : Nat) (p1 : Int32) (post : Int32 → Mem → Prop) : Prop := isK S a0 1 ∧ (wpX1_sheetCount S a0 (fun x3 S1 => ∃ m, wlX1_takeSheetsShowing_10 a0 p1 x3 post m (nI 0) (nI 0) S1))
set_option maxHeartbeats 4000000 in
set_option maxRecDepth 100000 in
theorem meX1_takeSheetsShowing (l : Launch) (G : GT) (S : Mem) (a0 : Nat) (p1 : Int32) (post : Int32 → Mem → Prop) (hw : wpX1_takeSheetsShowing S a0 p1 post) : CN emI l yX1_takeSheetsShowing (wsU yX1_takeSheetsShowing cX1_takeSheetsShowing 5 (some .int)) rmX1_takeSheetsShowing 0 0 G [.ref a0, .int p1] S post := by
  refine cn_open RX1 rfl (by decide +kernel) (Nat.le_of_ble_eq_true rfl) ?_
  intro p e s m args below meth c A X h hr hin ls hl
  have hl : lv_has ls 5 [(0, .ref a0), (1, .int p1)] := hl
  have hx := X.1
  have hb := X.2.1
  have hown := X.2.2.2.1
  unfold wpX1_takeSheetsShowing at hw
  refine lv_iconst (v := (nI 0)) hx hb dX1_takeSheetsShowing_0 (by decide) ?_
  refine lv_istore_n (lv' := [(2, .int (nI 0)), (0, .ref a0), (1, .int p1)]) hx hb dX1_takeSheetsShowing_1 rfl hl (by decide) rfl (fun ls hl => ?_)
  refine lv_aload_n hx hb dX1_takeSheetsShowing_2 rfl (lv_at hl 1 rfl) ?_
  obtain ⟨k2, hw⟩ := hw
  refine rc_V (As := []) (rest := []) X h k2 (by decide) rfl (meX1_sheetCount l G _ _ _ hw) gV_X1_46 rfl rfl hdV_X1_sheetCount rfl ⟨Nat.le_of_ble_eq_true rfl, Nat.le_of_ble_eq_true rfl⟩ hl.1 rfl (Nat.le_of_ble_eq_true rfl) ⟨Nat.le_of_ble_eq_true rfl, Nat.le_of_ble_eq_true rfl⟩ dX1_takeSheetsShowing_3 (fun x3 S1 H locs hw h => ?_)
  refine lv_istore_n (lv' := [(3, .int x3), (2, .int (nI 0)), (0, .ref a0), (1, .int p1)]) hx hb dX1_takeSheetsShowing_6 rfl hl (by decide) rfl (fun ls hl => ?_)
  refine lv_iconst (v := (nI 0)) hx hb dX1_takeSheetsShowing_7 (by decide) ?_
  refine lv_istore (lv' := [(4, .int (nI 0)), (3, .int x3), (2, .int (nI 0)), (0, .ref a0), (1, .int p1)]) hx hb dX1_takeSheetsShowing_8 hl (by decide) rfl (fun ls hl => ?_)
  obtain ⟨n15, hw⟩ := hw
  exact llX1_takeSheetsShowing_10  X hr _ _ _ _ n15 _ _ _ hw _ _ _ h (lv_sub hl [3, 4, 2, 1, 0] rfl)
abbrev rmX0_noteCorrection : Room := { frames := 2, cells := 0, slots := 0, locals := 44 }
def wpX0_noteCorrection (S : Mem) (a0 : Nat) (p1 : Int32) (post : Unit → Mem → Prop) : Prop := isK S a0 0 ∧ (∃ o2, mR S a0 0 = some o2 ∧ (wpX0_stateOf S a0 p1 (fun x4 S3 => wpX6_put S3 o2 p1 (x4 + (nI 1)) (fun u6 S5 => isK S5 a0 0 ∧ (wpX0_setApproved S5 a0 p1 (nI 0) (fun u9 S7 => isK S7 a0 0 ∧ (∃ o11, mR S7 a0 2 = some o11 ∧ (wpX6_put S7 o11 (mI S7 a0 4) p1 (fun u13 S12 => isK S12 a0 0 ∧ (∀ x15 : Int32, x15 = ((mI S12 a0 4) + (nI 1)) → (∀ S16 : Mem, S16 = (sI S12 a0 4 x15) → (post () S16))))))))))))
set_option maxHeartbeats 4000000 in
set_option maxRecDepth 100000 in
theorem meX0_noteCorrection (l : Launch) (G : GT) (S : Mem) (a0 : Nat) (p1 : Int32) (post : Unit → Mem → Prop) (hw : wpX0_noteCorrection S a0 p1 post) : CN emV l yX0_noteCorrection (wsU yX0_noteCorrection cX0_noteCorrection 2 none) rmX0_noteCorrection 0 0 G [.ref a0, .int p1] S post := by
  refine cn_open RX0 rfl (by decide +kernel) (Nat.le_of_ble_eq_true rfl) ?_
  intro p e s m args below meth c A X h hr hin ls hl
  have hl : lv_has ls 2 [(0, .ref a0), (1, .int p1)] := hl
  have hx := X.1
  have hb := X.2.1
  have hown := X.2.2.2.1
  unfold wpX0_noteCorrection at hw
  refine lv_aload_n hx hb dX0_noteCorrection_0 rfl (lv_at hl 0 rfl) ?_
  obtain ⟨k1, hw⟩ := hw
  obtain ⟨o2, eo2, hw⟩ := hw
  refine r_getR X h k1 0 eo2  (by decide) rfl inX0 (by decide) rfl q67 rfl dX0_noteCorrection_1 ?_
  refine lv_iload_n hx hb dX0_noteCorrection_4 rfl (lv_at hl 1 rfl) ?_
  refine lv_aload_n hx hb dX0_noteCorrection_5 rfl (lv_at hl 0 rfl) ?_
  refine lv_iload_n hx hb dX0_noteCorrection_6 rfl (lv_at hl 1 rfl) ?_
  refine rc_V (As := [.int p1]) (rest := [.int p1, .ref o2]) X h k1 (by decide) rfl (meX0_stateOf l G _ _ _ _ hw) gV_X0_33 rfl rfl hdV_X0_stateOf rfl ⟨Nat.le_of_ble_eq_true rfl, Nat.le_of_ble_eq_true rfl⟩ hl.1 rfl (Nat.le_of_ble_eq_true rfl) ⟨Nat.le_of_ble_eq_true rfl, Nat.le_of_ble_eq_true rfl⟩ dX0_noteCorrection_7 (fun x4 S3 H locs hw h => ?_)
  refine lv_iconst (v := (nI 1)) hx hb dX0_noteCorrection_10 (by decide) ?_
  refine lv_iadd hx hb dX0_noteCorrection_11 ?_
  refine rc_SN (As := [.ref o2, .int p1, .int (x4 + (nI 1))]) (rest := []) X h (meX6_put l G _ _ _ _ _ hw) gU_X0_29 q333 q33 q334 rfl rfl hdS_X6_put rfl ⟨Nat.le_of_ble_eq_true rfl, Nat.le_of_ble_eq_true rfl⟩ hl.1 rfl (Nat.le_of_ble_eq_true rfl) ⟨Nat.le_of_ble_eq_true rfl, Nat.le_of_ble_eq_true rfl⟩ dX0_noteCorrection_12 (fun u6 S5 H locs hw h => ?_)
  refine lv_aload_n hx hb dX0_noteCorrection_15 rfl (lv_at hl 0 rfl) ?_
  refine lv_iload_n hx hb dX0_noteCorrection_16 rfl (lv_at hl 1 rfl) ?_
  refine lv_iconst (v := (nI 0)) hx hb dX0_noteCorrection_17 (by decide) ?_
  obtain ⟨k8, hw⟩ := hw
  refine rc_V (As := [.int p1, .int (nI 0)]) (rest := []) X h k8 (by decide) rfl (meX0_setApproved l G _ _ _ _ _ hw) gV_X0_37 rfl rfl hdV_X0_setApproved rfl ⟨Nat.le_of_ble_eq_true rfl, Nat.le_of_ble_eq_true rfl⟩ hl.1 rfl (Nat.le_of_ble_eq_true rfl) ⟨Nat.le_of_ble_eq_true rfl, Nat.le_of_ble_eq_true rfl⟩ dX0_noteCorrection_18 (fun u9 S7 H locs hw h => ?_)
  refine lv_aload_n hx hb dX0_noteCorrection_21 rfl (lv_at hl 0 rfl) ?_
  obtain ⟨k10, hw⟩ := hw
  obtain ⟨o11, eo11, hw⟩ := hw
  refine r_getR X h k10 2 eo11  (by decide) rfl inX0 (by decide) rfl q69 rfl dX0_noteCorrection_22 ?_
  refine lv_aload_n hx hb dX0_noteCorrection_25 rfl (lv_at hl 0 rfl) ?_
  refine r_getI X h k10 4  (by decide) rfl inX0 (by decide) rfl q72 rfl dX0_noteCorrection_26 ?_
  refine lv_iload_n hx hb dX0_noteCorrection_29 rfl (lv_at hl 1 rfl) ?_
  refine rc_SN (As := [.ref o11, .int (mI S7 a0 4), .int p1]) (rest := []) X h (meX6_put l G _ _ _ _ _ hw) gU_X0_29 q333 q33 q334 rfl rfl hdS_X6_put rfl ⟨Nat.le_of_ble_eq_true rfl, Nat.le_of_ble_eq_true rfl⟩ hl.1 rfl (Nat.le_of_ble_eq_true rfl) ⟨Nat.le_of_ble_eq_true rfl, Nat.le_of_ble_eq_true rfl⟩ dX0_noteCorrection_30 (fun u13 S12 H locs hw h => ?_)
  refine lv_aload_n hx hb dX0_noteCorrection_33 rfl (lv_at hl 0 rfl) ?_
  refine lv_dup hx hb dX0_noteCorrection_34 rfl ?_
  obtain ⟨k14, hw⟩ := hw
  refine r_getI X h k14 4  (by decide) rfl inX0 (by decide) rfl q72 rfl dX0_noteCorrection_35 ?_
  refine lv_iconst (v := (nI 1)) hx hb dX0_noteCorrection_38 (by decide) ?_
  refine lv_iadd hx hb dX0_noteCorrection_39 ?_
  refine lv_topi (fun x15 ex15 => ?_)
  have hw := hw x15 ex15
  refine r_putI X h k14 4 (by decide) rfl inX0 tyX0 tyX0_ok nmX0 (by decide) rfl (Nat.le_of_ble_eq_true rfl) q72 rfl rfl (tyX0_ok 4 (by decide)) rfl rfl dX0_noteCorrection_40 (fun H locs h => ?_)
  obtain ⟨S16, eS16⟩ : ∃ z : Mem, z = (sI S12 a0 4 x15) := ⟨_, rfl⟩
  rw [← eS16] at h
  have hw := hw S16 eS16
  exact (en_v X h hr hw (Nat.le_of_ble_eq_true rfl) (Nat.le_of_ble_eq_true rfl) dX0_noteCorrection_43)
