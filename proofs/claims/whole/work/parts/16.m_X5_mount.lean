abbrev rmX5_mount : Room := { frames := 0, cells := 0, slots := 0, locals := 0 }
def wpX5_mount (S : Mem) (a0 : Nat) (p1 : Int32) (p2 : Int32) (p3 : Int32) (post : Unit → Mem → Prop) : Prop := isK S a0 5 ∧ (∀ S2 : Mem, S2 = (sI S a0 0 p1) → (∀ S3 : Mem, S3 = (sI S2 a0 1 p2) → (vz_chr p3 ∧ (∀ S5 : Mem, S5 = (sI S3 a0 2 p3) → (post () S5)))))
set_option maxHeartbeats 4000000 in
set_option maxRecDepth 100000 in
theorem meX5_mount (l : Launch) (G : GT) (S : Mem) (a0 : Nat) (p1 : Int32) (p2 : Int32) (p3 : Int32) (post : Unit → Mem → Prop) (hw : wpX5_mount S a0 p1 p2 p3 post) : CN emV l yX5_mount (wsU yX5_mount cX5_mount 4 none) rmX5_mount 0 0 G [.ref a0, .int p1, .int p2, .int p3] S post := by
  refine cn_open RX5 rfl (by decide +kernel) (Nat.le_of_ble_eq_true rfl) ?_
  intro p e s m args below meth c A X h hr hin ls hl
  have hl : lv_has ls 4 [(0, .ref a0), (1, .int p1), (2, .int p2), (3, .int p3)] := hl
  have hx := X.1
  have hb := X.2.1
  have hown := X.2.2.2.1
  unfold wpX5_mount at hw
  refine lv_aload_n hx hb dX5_mount_0 rfl (lv_at hl 0 rfl) ?_
  refine lv_iload_n hx hb dX5_mount_1 rfl (lv_at hl 1 rfl) ?_
  obtain ⟨k1, hw⟩ := hw
  refine r_putI X h k1 0 (by decide) rfl inX5 tyX5 tyX5_ok nmX5 (by decide) rfl (Nat.le_of_ble_eq_true rfl) q94 rfl rfl (tyX5_ok 0 (by decide)) rfl rfl dX5_mount_2 (fun H locs h => ?_)
  obtain ⟨S2, eS2⟩ : ∃ z : Mem, z = (sI S a0 0 p1) := ⟨_, rfl⟩
  rw [← eS2] at h
  have hw := hw S2 eS2
  refine lv_aload_n hx hb dX5_mount_5 rfl (lv_at hl 0 rfl) ?_
  refine lv_iload_n hx hb dX5_mount_6 rfl (lv_at hl 2 rfl) ?_
  refine r_putI X h (kI eS2 k1) 1 (by decide) rfl inX5 tyX5 tyX5_ok nmX5 (by decide) rfl (Nat.le_of_ble_eq_true rfl) q96 rfl rfl (tyX5_ok 1 (by decide)) rfl rfl dX5_mount_7 (fun H locs h => ?_)
  obtain ⟨S3, eS3⟩ : ∃ z : Mem, z = (sI S2 a0 1 p2) := ⟨_, rfl⟩
  rw [← eS3] at h
  have hw := hw S3 eS3
  refine lv_aload_n hx hb dX5_mount_10 rfl (lv_at hl 0 rfl) ?_
  refine lv_iload_n hx hb dX5_mount_11 rfl (lv_at hl 3 rfl) ?_
  obtain ⟨b4, hw⟩ := hw
  refine r_putI X h (kI eS3 (kI eS2 k1)) 2 (by decide) rfl inX5 tyX5 tyX5_ok nmX5 (by decide) rfl (Nat.le_of_ble_eq_true rfl) q98 rfl rfl (tyX5_ok 2 (by decide)) b4.1 b4.2 dX5_mount_12 (fun H locs h => ?_)
  obtain ⟨S5, eS5⟩ : ∃ z : Mem, z = (sI S3 a0 2 p3) := ⟨_, rfl⟩
  rw [← eS5] at h
  have hw := hw S5 eS5
  exact (en_v X h hr hw (Nat.le_of_ble_eq_true rfl) (Nat.le_of_ble_eq_true rfl) dX5_mount_15)
abbrev rmX4_has : Room := { frames := 1, cells := 0, slots := 0, locals := 21 }
def wpX4_has (S : Mem) (a0 : Nat) (p1 : Int32) (post : Int32 → Mem → Prop) : Prop := isK S a0 4 ∧ (∃ o2, mR S a0 0 = some o2 ∧ (wpX6_at S o2 (p1 / (nI 10000)) (fun x4 S3 => (¬ x4 = p1 → (vz_nar (nI 0) ∧ (post (nI 0) S3))) ∧ (x4 = p1 → (vz_nar (nI 1) ∧ (post (nI 1) S3))))))
set_option maxHeartbeats 4000000 in
set_option maxRecDepth 100000 in
theorem meX4_has (l : Launch) (G : GT) (S : Mem) (a0 : Nat) (p1 : Int32) (post : Int32 → Mem → Prop) (hw : wpX4_has S a0 p1 post) : CN emI l yX4_has (wsU yX4_has cX4_has 2 (some .boolean)) rmX4_has 0 0 G [.ref a0, .int p1] S post := by
  refine cn_open RX4 rfl (by decide +kernel) (Nat.le_of_ble_eq_true rfl) ?_
  intro p e s m args below meth c A X h hr hin ls hl
  have hl : lv_has ls 2 [(0, .ref a0), (1, .int p1)] := hl
  have hx := X.1
  have hb := X.2.1
  have hown := X.2.2.2.1
  unfold wpX4_has at hw
  refine lv_aload_n hx hb dX4_has_0 rfl (lv_at hl 0 rfl) ?_
  obtain ⟨k1, hw⟩ := hw
  obtain ⟨o2, eo2, hw⟩ := hw
  refine r_getR X h k1 0 eo2  (by decide) rfl inX4 (by decide) rfl q112 rfl dX4_has_1 ?_
  refine lv_iload_n hx hb dX4_has_4 rfl (lv_at hl 1 rfl) ?_
  refine lv_sipush (v := (nI 10000)) hx hb dX4_has_5 (by decide) ?_
  refine lv_idiv hx hb dX4_has_8 (by decide) ?_
  refine rc_SN (As := [.ref o2, .int (p1 / (nI 10000))]) (rest := []) X h (meX6_at l G _ _ _ _ hw) gU_X4_15 q604 q33 q327 rfl rfl hdS_X6_at rfl ⟨Nat.le_of_ble_eq_true rfl, Nat.le_of_ble_eq_true rfl⟩ hl.1 rfl (Nat.le_of_ble_eq_true rfl) ⟨Nat.le_of_ble_eq_true rfl, Nat.le_of_ble_eq_true rfl⟩ dX4_has_9 (fun x4 S3 H locs hw h => ?_)
  refine lv_iload_n hx hb dX4_has_12 rfl (lv_at hl 1 rfl) ?_
  refine lv_icmp_ne (tgt := 20) hx hb dX4_has_13 (by decide) (fun c5 => ?_) (fun c5 => ?_)
  · have hw := hw.1 c5
    refine lv_iconst (v := (nI 0)) hx hb dX4_has_20 (by decide) ?_
    obtain ⟨b6, hw⟩ := hw
    exact (en_z X h hr b6 hw (Nat.le_of_ble_eq_true rfl) (Nat.le_of_ble_eq_true rfl) dX4_has_21)
  · have hw := hw.2 c5
    refine lv_iconst (v := (nI 1)) hx hb dX4_has_16 (by decide) ?_
    refine lv_goto (tgt := 21) hx hb dX4_has_17 (by decide) ?_
    obtain ⟨b7, hw⟩ := hw
    exact (en_z X h hr b7 hw (Nat.le_of_ble_eq_true rfl) (Nat.le_of_ble_eq_true rfl) dX4_has_21)
abbrev rmX4_make : Room := { frames := 2, cells := 0, slots := 0, locals := 42 }
def wpX4_make (S : Mem) (a0 : Nat) (p1 : Int32) (post : Unit → Mem → Prop) : Prop := isK S a0 4 ∧ (wpX4_has S a0 p1 (fun x3 S1 => (¬ x3 = 0 → (post () S1)) ∧ (x3 = 0 → (isK S1 a0 4 ∧ (∃ o6, mR S1 a0 0 = some o6 ∧ (wpX6_put S1 o6 (p1 / (nI 10000)) p1 (fun u8 S7 => isK S7 a0 4 ∧ (∀ x10 : Int32, x10 = ((mI S7 a0 1) + (nI 1)) → (∀ S11 : Mem, S11 = (sI S7 a0 1 x10) → (post () S11))))))))))
set_option maxHeartbeats 4000000 in
set_option maxRecDepth 100000 in
theorem meX4_make (l : Launch) (G : GT) (S : Mem) (a0 : Nat) (p1 : Int32) (post : Unit → Mem → Prop) (hw : wpX4_make S a0 p1 post) : CN emV l yX4_make (wsU yX4_make cX4_make 2 none) rmX4_make 0 0 G [.ref a0, .int p1] S post := by
  refine cn_open RX4 rfl (by decide +kernel) (Nat.le_of_ble_eq_true rfl) ?_
  intro p e s m args below meth c A X h hr hin ls hl
  have hl : lv_has ls 2 [(0, .ref a0), (1, .int p1)] := hl
  have hx := X.1
  have hb := X.2.1
  have hown := X.2.2.2.1
  unfold wpX4_make at hw
  refine lv_aload_n hx hb dX4_make_0 rfl (lv_at hl 0 rfl) ?_
  refine lv_iload_n hx hb dX4_make_1 rfl (lv_at hl 1 rfl) ?_
  obtain ⟨k2, hw⟩ := hw
  refine rc_V (As := [.int p1]) (rest := []) X h k2 (by decide) rfl (meX4_has l G _ _ _ _ hw) gV_X4_19 rfl rfl hdV_X4_has rfl ⟨Nat.le_of_ble_eq_true rfl, Nat.le_of_ble_eq_true rfl⟩ hl.1 rfl (Nat.le_of_ble_eq_true rfl) ⟨Nat.le_of_ble_eq_true rfl, Nat.le_of_ble_eq_true rfl⟩ dX4_make_2 (fun x3 S1 H locs hw h => ?_)
  refine lv_if_ne (tgt := 31) hx hb dX4_make_5 (by decide) (fun c4 => ?_) (fun c4 => ?_)
  · have hw := hw.1 c4
    exact (en_v X h hr hw (Nat.le_of_ble_eq_true rfl) (Nat.le_of_ble_eq_true rfl) dX4_make_31)
  · have hw := hw.2 c4
    refine lv_aload_n hx hb dX4_make_8 rfl (lv_at hl 0 rfl) ?_
    obtain ⟨k5, hw⟩ := hw
    obtain ⟨o6, eo6, hw⟩ := hw
    refine r_getR X h k5 0 eo6  (by decide) rfl inX4 (by decide) rfl q112 rfl dX4_make_9 ?_
    refine lv_iload_n hx hb dX4_make_12 rfl (lv_at hl 1 rfl) ?_
    refine lv_sipush (v := (nI 10000)) hx hb dX4_make_13 (by decide) ?_
    refine lv_idiv hx hb dX4_make_16 (by decide) ?_
    refine lv_iload_n hx hb dX4_make_17 rfl (lv_at hl 1 rfl) ?_
    refine rc_SN (As := [.ref o6, .int (p1 / (nI 10000)), .int p1]) (rest := []) X h (meX6_put l G _ _ _ _ _ hw) gU_X4_23 q605 q33 q334 rfl rfl hdS_X6_put rfl ⟨Nat.le_of_ble_eq_true rfl, Nat.le_of_ble_eq_true rfl⟩ hl.1 rfl (Nat.le_of_ble_eq_true rfl) ⟨Nat.le_of_ble_eq_true rfl, Nat.le_of_ble_eq_true rfl⟩ dX4_make_18 (fun u8 S7 H locs hw h => ?_)
    refine lv_aload_n hx hb dX4_make_21 rfl (lv_at hl 0 rfl) ?_
    refine lv_dup hx hb dX4_make_22 rfl ?_
    obtain ⟨k9, hw⟩ := hw
    refine r_getI X h k9 1  (by decide) rfl inX4 (by decide) rfl q113 rfl dX4_make_23 ?_
    refine lv_iconst (v := (nI 1)) hx hb dX4_make_26 (by decide) ?_
    refine lv_iadd hx hb dX4_make_27 ?_
    refine lv_topi (fun x10 ex10 => ?_)
    have hw := hw x10 ex10
    refine r_putI X h k9 1 (by decide) rfl inX4 tyX4 tyX4_ok nmX4 (by decide) rfl (Nat.le_of_ble_eq_true rfl) q113 rfl rfl (tyX4_ok 1 (by decide)) rfl rfl dX4_make_28 (fun H locs h => ?_)
    obtain ⟨S11, eS11⟩ : ∃ z : Mem, z = (sI S7 a0 1 x10) := ⟨_, rfl⟩
    rw [← eS11] at h
    have hw := hw S11 eS11
    exact (en_v X h hr hw (Nat.le_of_ble_eq_true rfl) (Nat.le_of_ble_eq_true rfl) dX4_make_31)
abbrev rmX6_print : Room := { frames := 8, cells := 5, slots := 30, locals := 134 }
def wpX6_print (S : Mem) (a0 : Nat) (p1 : Int32) (p2 : Int32) (p3 : Int32) (post : Int32 → Mem → Prop) (px : Nat → Mem → Prop) : Prop := isK S a0 6 ∧ (wpX6_completeJob S a0 p1 (fun r3 S1 => ∃ o4, r3 = some o4 ∧ (wpX6_requireSheet S1 o4 p2 (fun u6 S5 => wpX6_requireCount S5 p3 (fun u8 S7 => isK S7 a0 6 ∧ (wpX6_isWhollyApproved S7 a0 o4 p2 (fun x11 S9 => (¬ x11 = 0 → (isK S9 o4 1 ∧ (wpX1_stockOf S9 o4 p2 (fun x15 S13 => ((x15 + p3) ≤ (nI 9999) → (isK S13 a0 6 ∧ (wpX6_plateFor S13 a0 o4 p2 (nI 0) (fun x19 S17 => isK S17 a0 6 ∧ (wpX6_plateFor S17 a0 o4 p2 (nI 1) (fun x22 S20 => isK S20 a0 6 ∧ (∃ o24, mR S20 a0 2 = some o24 ∧ (isK S20 o4 1 ∧ (isK S20 o24 5 ∧ (wpX5_minutesFor S20 o24 x19 x22 (mI S20 o4 0) (fun x28 S26 => isK S26 a0 6 ∧ (∃ o30, mR S26 a0 2 = some o30 ∧ (isK S26 o4 1 ∧ (isK S26 o30 5 ∧ (wpX5_mount S26 o30 x19 x22 (mI S26 o4 0) (fun u34 S32 => isK S32 a0 6 ∧ (∃ o36, mR S32 a0 3 = some o36 ∧ (isK S32 o36 4 ∧ (wpX4_make S32 o36 x19 (fun u39 S37 => isK S37 a0 6 ∧ (∃ o41, mR S37 a0 3 = some o41 ∧ (isK S37 o41 4 ∧ (wpX4_make S37 o41 x22 (fun u44 S42 => isK S42 o4 1 ∧ (wpX1_addToStock S42 o4 p2 p3 (fun u47 S45 => isK S45 a0 6 ∧ (∀ S49 : Mem, S49 = (sJ S45 a0 9 ((mJ S45 a0 9) + p3.toInt64)) → (∀ S50 : Mem, S50 = (sJ S49 a0 10 ((mJ S49 a0 10) + (1 : Int64))) → (∀ S51 : Mem, S51 = (sJ S50 a0 11 ((mJ S50 a0 11) + x28.toInt64)) → (post x28 S51)))))))))))))))))))))))))))))) ∧ (¬ (x15 + p3) ≤ (nI 9999) → (px 5 S13)))))) ∧ (x11 = 0 → (px 5 S9))))) px) px)) px)
set_option maxHeartbeats 4000000 in
set_option maxRecDepth 100000 in
theorem meX6_print (l : Launch) (hl9 : l.stackTraces = false) (G : GT) (S : Mem) (a0 : Nat) (p1 : Int32) (p2 : Int32) (p3 : Int32) (post : Int32 → Mem → Prop) (px : Nat → Mem → Prop) (hw : wpX6_print S a0 p1 p2 p3 post px) : CX emI l yX6_print (wsU yX6_print cX6_print 8 (some .int)) rmX6_print 5 30 G [.ref a0, .int p1, .int p2, .int p3] S post px := by
  refine cx_open RX6 rfl (by decide +kernel) (Nat.le_of_ble_eq_true rfl) ?_
  intro p e s m args below meth c A X h hr hno ls hl
  have hl : lv_has ls 8 [(0, .ref a0), (1, .int p1), (2, .int p2), (3, .int p3)] := hl
  have hx := X.1
  have hb := X.2.1
  have hown := X.2.2.2.1
  unfold wpX6_print at hw
  refine lv_aload_n hx hb dX6_print_0 rfl (lv_at hl 0 rfl) ?_
  refine lv_iload_n hx hb dX6_print_1 rfl (lv_at hl 1 rfl) ?_
  obtain ⟨k2, hw⟩ := hw
  refine rx_V (As := [.int p1]) (rest := []) X h hno k2 (by decide) rfl (meX6_completeJob l hl9 G _ _ _ _ _ hw) gV_X6_121 rfl rfl hdV_X6_completeJob rfl ⟨Nat.le_of_ble_eq_true rfl, Nat.le_of_ble_eq_true rfl⟩ hl.1 rfl (Nat.le_of_ble_eq_true rfl) ⟨Nat.le_of_ble_eq_true rfl, Nat.le_of_ble_eq_true rfl⟩ ⟨Nat.le_of_ble_eq_true rfl, Nat.le_of_ble_eq_true rfl⟩ dX6_print_2 (fun r3 S1 H locs hw h => ?_)
  obtain ⟨o4, rfl, hw⟩ := hw
  refine lv_astore (lv' := [(4, .ref o4), (0, .ref a0), (1, .int p1), (2, .int p2), (3, .int p3)]) hx hb dX6_print_5 hl (by decide) rfl (fun ls hl => ?_)
  refine lv_aload hx hb dX6_print_7 (lv_at hl 0 rfl) ?_
  refine lv_iload_n hx hb dX6_print_9 rfl (lv_at hl 3 rfl) ?_
  refine rx_S (As := [.ref o4, .int p2]) (rest := []) X h hno (meX6_requireSheet l hl9 G _ _ _ _ _ hw) gS_X6_127 rfl rfl hdS_X6_requireSheet rfl ⟨Nat.le_of_ble_eq_true rfl, Nat.le_of_ble_eq_true rfl⟩ hl.1 rfl (Nat.le_of_ble_eq_true rfl) ⟨Nat.le_of_ble_eq_true rfl, Nat.le_of_ble_eq_true rfl⟩ ⟨Nat.le_of_ble_eq_true rfl, Nat.le_of_ble_eq_true rfl⟩ dX6_print_10 (fun u6 S5 H locs hw h => ?_)
  refine lv_iload_n hx hb dX6_print_13 rfl (lv_at hl 4 rfl) ?_
  refine rx_S (As := [.int p3]) (rest := []) X h hno (meX6_requireCount l hl9 G _ _ _ _ hw) gS_X6_148 rfl rfl hdS_X6_requireCount rfl ⟨Nat.le_of_ble_eq_true rfl, Nat.le_of_ble_eq_true rfl⟩ hl.1 rfl (Nat.le_of_ble_eq_true rfl) ⟨Nat.le_of_ble_eq_true rfl, Nat.le_of_ble_eq_true rfl⟩ ⟨Nat.le_of_ble_eq_true rfl, Nat.le_of_ble_eq_true rfl⟩ dX6_print_14 (fun u8 S7 H locs hw h => ?_)
  refine lv_aload_n hx hb dX6_print_17 rfl (lv_at hl 1 rfl) ?_
  refine lv_aload hx hb dX6_print_18 (lv_at hl 0 rfl) ?_
  refine lv_iload_n hx hb dX6_print_20 rfl (lv_at hl 3 rfl) ?_
  obtain ⟨k10, hw⟩ := hw
  refine rc_V (As := [.ref o4, .int p2]) (rest := []) X h k10 (by decide) rfl (meX6_isWhollyApproved l G _ _ _ _ _ hw) gV_X6_151 rfl rfl hdV_X6_isWhollyApproved rfl ⟨Nat.le_of_ble_eq_true rfl, Nat.le_of_ble_eq_true rfl⟩ hl.1 rfl (Nat.le_of_ble_eq_true rfl) ⟨Nat.le_of_ble_eq_true rfl, Nat.le_of_ble_eq_true rfl⟩ dX6_print_21 (fun x11 S9 H locs hw h => ?_)
  refine lv_if_ne (tgt := 37) hx hb dX6_print_24 (by decide) (fun c12 => ?_) (fun c12 => ?_)
  · have hw := hw.1 c12
    refine lv_aload hx hb dX6_print_37 (lv_at hl 0 rfl) ?_
    refine lv_iload_n hx hb dX6_print_39 rfl (lv_at hl 3 rfl) ?_
    obtain ⟨k14, hw⟩ := hw
    refine rc_V (As := [.int p2]) (rest := []) X h k14 (by decide) rfl (meX1_stockOf l G _ _ _ _ hw) gV_X6_160 rfl rfl hdV_X1_stockOf rfl ⟨Nat.le_of_ble_eq_true rfl, Nat.le_of_ble_eq_true rfl⟩ hl.1 rfl (Nat.le_of_ble_eq_true rfl) ⟨Nat.le_of_ble_eq_true rfl, Nat.le_of_ble_eq_true rfl⟩ dX6_print_40 (fun x15 S13 H locs hw h => ?_)
    refine lv_iload_n hx hb dX6_print_43 rfl (lv_at hl 4 rfl) ?_
    refine lv_iadd hx hb dX6_print_44 ?_
    refine lv_sipush (v := (nI 9999)) hx hb dX6_print_45 (by decide) ?_
    refine lv_icmp_le (tgt := 61) hx hb dX6_print_48 (by decide) (fun c16 => ?_) (fun c16 => ?_)
    · have hw := hw.1 c16
      refine lv_aload_n hx hb dX6_print_61 rfl (lv_at hl 1 rfl) ?_
      refine lv_aload hx hb dX6_print_62 (lv_at hl 0 rfl) ?_
      refine lv_iload_n hx hb dX6_print_64 rfl (lv_at hl 3 rfl) ?_
      refine lv_iconst (v := (nI 0)) hx hb dX6_print_65 (by decide) ?_
      obtain ⟨k18, hw⟩ := hw
      refine rc_V (As := [.ref o4, .int p2, .int (nI 0)]) (rest := []) X h k18 (by decide) rfl (meX6_plateFor l G _ _ _ _ _ _ hw) gV_X6_165 rfl rfl hdV_X6_plateFor rfl ⟨Nat.le_of_ble_eq_true rfl, Nat.le_of_ble_eq_true rfl⟩ hl.1 rfl (Nat.le_of_ble_eq_true rfl) ⟨Nat.le_of_ble_eq_true rfl, Nat.le_of_ble_eq_true rfl⟩ dX6_print_66 (fun x19 S17 H locs hw h => ?_)
      refine lv_istore (lv' := [(5, .int x19), (4, .ref o4), (0, .ref a0), (1, .int p1), (2, .int p2), (3, .int p3)]) hx hb dX6_print_69 hl (by decide) rfl (fun ls hl => ?_)
      refine lv_aload_n hx hb dX6_print_71 rfl (lv_at hl 2 rfl) ?_
      refine lv_aload hx hb dX6_print_72 (lv_at hl 1 rfl) ?_
      refine lv_iload_n hx hb dX6_print_74 rfl (lv_at hl 4 rfl) ?_
      refine lv_iconst (v := (nI 1)) hx hb dX6_print_75 (by decide) ?_
      obtain ⟨k21, hw⟩ := hw
      refine rc_V (As := [.ref o4, .int p2, .int (nI 1)]) (rest := []) X h k21 (by decide) rfl (meX6_plateFor l G _ _ _ _ _ _ hw) gV_X6_165 rfl rfl hdV_X6_plateFor rfl ⟨Nat.le_of_ble_eq_true rfl, Nat.le_of_ble_eq_true rfl⟩ hl.1 rfl (Nat.le_of_ble_eq_true rfl) ⟨Nat.le_of_ble_eq_true rfl, Nat.le_of_ble_eq_true rfl⟩ dX6_print_76 (fun x22 S20 H locs hw h => ?_)
      refine lv_istore (lv' := [(6, .int x22), (5, .int x19), (4, .ref o4), (0, .ref a0), (1, .int p1), (2, .int p2), (3, .int p3)]) hx hb dX6_print_79 hl (by decide) rfl (fun ls hl => ?_)
      refine lv_aload_n hx hb dX6_print_81 rfl (lv_at hl 3 rfl) ?_
      obtain ⟨k23, hw⟩ := hw
      obtain ⟨o24, eo24, hw⟩ := hw
      refine r_getR X h k23 2 eo24  (by decide) rfl inX6 (by decide) rfl q143 rfl dX6_print_82 ?_
      refine lv_iload hx hb dX6_print_85 (lv_at hl 1 rfl) ?_
      refine lv_iload hx hb dX6_print_87 (lv_at hl 0 rfl) ?_
      refine lv_aload hx hb dX6_print_89 (lv_at hl 2 rfl) ?_
      obtain ⟨k25, hw⟩ := hw
      refine r_getIN X h k25 0  (by decide) rfl inX1 (by decide) rfl q430 rfl dX6_print_91 ?_
      obtain ⟨k27, hw⟩ := hw
      refine rc_V (As := [.int x19, .int x22, .int (mI S20 o4 0)]) (rest := []) X h k27 (by decide) rfl (meX5_minutesFor l G _ _ _ _ _ _ hw) gV_X6_173 rfl rfl hdV_X5_minutesFor rfl ⟨Nat.le_of_ble_eq_true rfl, Nat.le_of_ble_eq_true rfl⟩ hl.1 rfl (Nat.le_of_ble_eq_true rfl) ⟨Nat.le_of_ble_eq_true rfl, Nat.le_of_ble_eq_true rfl⟩ dX6_print_94 (fun x28 S26 H locs hw h => ?_)
      refine lv_istore (lv' := [(7, .int x28), (6, .int x22), (5, .int x19), (4, .ref o4), (0, .ref a0), (1, .int p1), (2, .int p2), (3, .int p3)]) hx hb dX6_print_97 hl (by decide) rfl (fun ls hl => ?_)
      refine lv_aload_n hx hb dX6_print_99 rfl (lv_at hl 4 rfl) ?_
      obtain ⟨k29, hw⟩ := hw
      obtain ⟨o30, eo30, hw⟩ := hw
      refine r_getR X h k29 2 eo30  (by decide) rfl inX6 (by decide) rfl q143 rfl dX6_print_100 ?_
      refine lv_iload hx hb dX6_print_103 (lv_at hl 2 rfl) ?_
      refine lv_iload hx hb dX6_print_105 (lv_at hl 1 rfl) ?_
      refine lv_aload hx hb dX6_print_107 (lv_at hl 3 rfl) ?_
      obtain ⟨k31, hw⟩ := hw
      refine r_getIN X h k31 0  (by decide) rfl inX1 (by decide) rfl q430 rfl dX6_print_109 ?_
      obtain ⟨k33, hw⟩ := hw
      refine rc_V (As := [.int x19, .int x22, .int (mI S26 o4 0)]) (rest := []) X h k33 (by decide) rfl (meX5_mount l G _ _ _ _ _ _ hw) gV_X6_177 rfl rfl hdV_X5_mount rfl ⟨Nat.le_of_ble_eq_true rfl, Nat.le_of_ble_eq_true rfl⟩ hl.1 rfl (Nat.le_of_ble_eq_true rfl) ⟨Nat.le_of_ble_eq_true rfl, Nat.le_of_ble_eq_true rfl⟩ dX6_print_112 (fun u34 S32 H locs hw h => ?_)
      refine lv_aload_n hx hb dX6_print_115 rfl (lv_at hl 4 rfl) ?_
      obtain ⟨k35, hw⟩ := hw
      obtain ⟨o36, eo36, hw⟩ := hw
      refine r_getR X h k35 3 eo36  (by decide) rfl inX6 (by decide) rfl q144 rfl dX6_print_116 ?_
      refine lv_iload hx hb dX6_print_119 (lv_at hl 2 rfl) ?_
      obtain ⟨k38, hw⟩ := hw
      refine rc_V (As := [.int x19]) (rest := []) X h k38 (by decide) rfl (meX4_make l G _ _ _ _ hw) gV_X6_181 rfl rfl hdV_X4_make rfl ⟨Nat.le_of_ble_eq_true rfl, Nat.le_of_ble_eq_true rfl⟩ hl.1 rfl (Nat.le_of_ble_eq_true rfl) ⟨Nat.le_of_ble_eq_true rfl, Nat.le_of_ble_eq_true rfl⟩ dX6_print_121 (fun u39 S37 H locs hw h => ?_)
      refine lv_aload_n hx hb dX6_print_124 rfl (lv_at hl 4 rfl) ?_
      obtain ⟨k40, hw⟩ := hw
      obtain ⟨o41, eo41, hw⟩ := hw
      refine r_getR X h k40 3 eo41  (by decide) rfl inX6 (by decide) rfl q144 rfl dX6_print_125 ?_
      refine lv_iload hx hb dX6_print_128 (lv_at hl 1 rfl) ?_
      obtain ⟨k43, hw⟩ := hw
      refine rc_V (As := [.int x22]) (rest := []) X h k43 (by decide) rfl (meX4_make l G _ _ _ _ hw) gV_X6_181 rfl rfl hdV_X4_make rfl ⟨Nat.le_of_ble_eq_true rfl, Nat.le_of_ble_eq_true rfl⟩ hl.1 rfl (Nat.le_of_ble_eq_true rfl) ⟨Nat.le_of_ble_eq_true rfl, Nat.le_of_ble_eq_true rfl⟩ dX6_print_130 (fun u44 S42 H locs hw h => ?_)
      refine lv_aload hx hb dX6_print_133 (lv_at hl 3 rfl) ?_
      refine lv_iload_n hx hb dX6_print_135 rfl (lv_at hl 6 rfl) ?_
      refine lv_iload_n hx hb dX6_print_136 rfl (lv_at hl 7 rfl) ?_
      obtain ⟨k46, hw⟩ := hw
      refine rc_V (As := [.int p2, .int p3]) (rest := []) X h k46 (by decide) rfl (meX1_addToStock l G _ _ _ _ _ hw) gV_X6_184 rfl rfl hdV_X1_addToStock rfl ⟨Nat.le_of_ble_eq_true rfl, Nat.le_of_ble_eq_true rfl⟩ hl.1 rfl (Nat.le_of_ble_eq_true rfl) ⟨Nat.le_of_ble_eq_true rfl, Nat.le_of_ble_eq_true rfl⟩ dX6_print_137 (fun u47 S45 H locs hw h => ?_)
      refine lv_aload_n hx hb dX6_print_140 rfl (lv_at hl 4 rfl) ?_
      refine lv_dup hx hb dX6_print_141 rfl ?_
      obtain ⟨k48, hw⟩ := hw
      refine r_getJ X h k48 9  (by decide) rfl inX6 (by decide) rfl q150 rfl dX6_print_142 ?_
      refine lv_iload_n hx hb dX6_print_145 rfl (lv_at hl 7 rfl) ?_
      refine lv_i2l (v := p3.toInt64) hx hb dX6_print_146 rfl ?_
      refine lv_ladd hx hb dX6_print_147 ?_
      refine r_putJ X h k48 9 (by decide) rfl inX6 tyX6 tyX6_ok nmX6 (by decide) rfl (Nat.le_of_ble_eq_true rfl) q150 rfl rfl (tyX6_ok 9 (by decide)) rfl rfl dX6_print_148 (fun H locs h => ?_)
      obtain ⟨S49, eS49⟩ : ∃ z : Mem, z = (sJ S45 a0 9 ((mJ S45 a0 9) + p3.toInt64)) := ⟨_, rfl⟩
      rw [← eS49] at h
      have hw := hw S49 eS49
      refine lv_aload_n hx hb dX6_print_151 rfl (lv_at hl 4 rfl) ?_
      refine lv_dup hx hb dX6_print_152 rfl ?_
      refine r_getJ X h (kJ eS49 k48) 10  (by decide) rfl inX6 (by decide) rfl q151 rfl dX6_print_153 ?_
      refine lv_lconst (v := 1) hx hb dX6_print_156 (by decide) ?_
      refine lv_ladd hx hb dX6_print_157 ?_
      refine r_putJ X h (kJ eS49 k48) 10 (by decide) rfl inX6 tyX6 tyX6_ok nmX6 (by decide) rfl (Nat.le_of_ble_eq_true rfl) q151 rfl rfl (tyX6_ok 10 (by decide)) rfl rfl dX6_print_158 (fun H locs h => ?_)
      obtain ⟨S50, eS50⟩ : ∃ z : Mem, z = (sJ S49 a0 10 ((mJ S49 a0 10) + (1 : Int64))) := ⟨_, rfl⟩
      rw [← eS50] at h
      have hw := hw S50 eS50
      refine lv_aload_n hx hb dX6_print_161 rfl (lv_at hl 4 rfl) ?_
      refine lv_dup hx hb dX6_print_162 rfl ?_
      refine r_getJ X h (kJ eS50 (kJ eS49 k48)) 11  (by decide) rfl inX6 (by decide) rfl q152 rfl dX6_print_163 ?_
      refine lv_iload hx hb dX6_print_166 (lv_at hl 0 rfl) ?_
      refine lv_i2l (v := x28.toInt64) hx hb dX6_print_168 rfl ?_
      refine lv_ladd hx hb dX6_print_169 ?_
      refine r_putJ X h (kJ eS50 (kJ eS49 k48)) 11 (by decide) rfl inX6 tyX6 tyX6_ok nmX6 (by decide) rfl (Nat.le_of_ble_eq_true rfl) q152 rfl rfl (tyX6_ok 11 (by decide)) rfl rfl dX6_print_170 (fun H locs h => ?_)
      obtain ⟨S51, eS51⟩ : ∃ z : Mem, z = (sJ S50 a0 11 ((mJ S50 a0 11) + x28.toInt64)) := ⟨_, rfl⟩
      rw [← eS51] at h
      have hw := hw S51 eS51
      refine lv_iload hx hb dX6_print_173 (lv_at hl 0 rfl) ?_
      exact vx_ret (en_i X h hr hw (Nat.le_of_ble_eq_true rfl) (Nat.le_of_ble_eq_true rfl) dX6_print_175)
    · have hw := hw.2 c16
      exact en_x 5 X h hl9 th_X6_163 hl.1 hno dX6_print_51 dX6_print_54 dX6_print_55 dX6_print_57 dX6_print_60 ⟨Nat.le_of_ble_eq_true rfl, Nat.le_of_ble_eq_true rfl⟩ ⟨Nat.le_of_ble_eq_true rfl, Nat.le_of_ble_eq_true rfl⟩ ⟨Nat.le_of_ble_eq_true rfl, Nat.le_of_ble_eq_true rfl⟩ hw
  · have hw := hw.2 c12
    exact en_x 5 X h hl9 th_X6_157 hl.1 hno dX6_print_27 dX6_print_30 dX6_print_31 dX6_print_33 dX6_print_36 ⟨Nat.le_of_ble_eq_true rfl, Nat.le_of_ble_eq_true rfl⟩ ⟨Nat.le_of_ble_eq_true rfl, Nat.le_of_ble_eq_true rfl⟩ ⟨Nat.le_of_ble_eq_true rfl, Nat.le_of_ble_eq_true rfl⟩ hw
abbrev rmL_print : Room := { frames := 9, cells := 5, slots := 30, locals := 161 }
def wpL_print (S : Mem) (a0 : Nat) (p1 : Int32) (p2 : Int32) (p3 : Int32) (a4 : Nat) (post : Int32 → Mem → Prop) : Prop := isK S a0 6 ∧ (wpX6_print S a0 p1 p2 p3 (fun x3 S1 => isK S1 a4 12 ∧ (vp_in (nI 0) (mN S1 a4) ∧ (∀ S8 : Mem, S8 = (sJ S1 a4 (nI 0).toNatClampNeg x3.toInt64) → (post (nI 0) S8)))) (fun k4 S5 => (k4 = 1 → (post (nI 1) S5)) ∧ (k4 = 2 → (post (nI 2) S5)) ∧ (k4 = 3 → (post (nI 3) S5)) ∧ (k4 = 4 → (post (nI 4) S5)) ∧ (k4 = 5 → (post (nI 5) S5)) ∧ (k4 = 1 ∨ k4 = 2 ∨ k4 = 3 ∨ k4 = 4 ∨ k4 = 5)))
set_option maxHeartbeats 4000000 in
set_option maxRecDepth 100000 in
theorem meL_print (l : Launch) (hl9 : l.stackTraces = false) (G : GT) (S : Mem) (a0 : Nat) (p1 : Int32) (p2 : Int32) (p3 : Int32) (a4 : Nat) (post : Int32 → Mem → Prop) (hw : wpL_print S a0 p1 p2 p3 a4 post) : CN emI l yL_print (wsH yL_print cL_print 6 (some .int) [(0, 12, 15, 19), (0, 12, 19, 13), (0, 12, 23, 48), (0, 12, 27, 32), (0, 12, 31, 56)]) rmL_print 5 30 G [.ref a0, .int p1, .int p2, .int p3, .ref a4] S post := by
  refine ch_open RL rfl (by decide +kernel) (Nat.le_of_ble_eq_true rfl) ?_
  intro p e s m args below meth c A X h hr hTab ls hl
  have hl : lv_has ls 6 [(0, .ref a0), (1, .int p1), (2, .int p2), (3, .int p3), (4, .ref a4)] := hl
  have hx := X.1
  have hb := X.2.1
  have hown := X.2.2.2.1
  unfold wpL_print at hw
  refine lv_aload hx hb dL_print_0 (lv_at hl 4 rfl) ?_
  refine lv_iconst (v := (nI 0)) hx hb dL_print_2 (by decide) ?_
  refine lv_aload_n hx hb dL_print_3 rfl (lv_at hl 0 rfl) ?_
  refine lv_iload_n hx hb dL_print_4 rfl (lv_at hl 1 rfl) ?_
  refine lv_iload_n hx hb dL_print_5 rfl (lv_at hl 2 rfl) ?_
  refine lv_iload_n hx hb dL_print_6 rfl (lv_at hl 3 rfl) ?_
  obtain ⟨k2, hw⟩ := hw
  refine rx_VH (As := [.int p1, .int p2, .int p3]) (rest := [.int (nI 0), .ref a4]) X h k2 (by decide) rfl (meX6_print l hl9 G _ _ _ _ _ _ _ hw) gV_L_53 rfl rfl hdV_X6_print rfl ⟨Nat.le_of_ble_eq_true rfl, Nat.le_of_ble_eq_true rfl⟩ hl.1 rfl (Nat.le_of_ble_eq_true rfl) ⟨Nat.le_of_ble_eq_true rfl, Nat.le_of_ble_eq_true rfl⟩ dL_print_7 (fun k4 S5 H locs q9 ce hw h hce hcv hcl => ?_) (fun x3 S1 H locs hw h => ?_)
  · rcases hw.2.2.2.2.2 with hk9 | hk9 | hk9 | hk9 | hk9
    · subst hk9
      have hw := hw.1 rfl
      refine vx_catch (own := RL) (name := "java/lang/IndexOutOfBoundsException") (E := xn 1) hown [] ⟨0, 12, 15, 19⟩ [⟨0, 12, 19, 13⟩, ⟨0, 12, 23, 48⟩, ⟨0, 12, 27, 32⟩, ⟨0, 12, 31, 56⟩] (by rw [hTab]; rfl) (fun z hz => nomatch hz) (by decide) (by decide) (X.hts q277) (va_Nw.use (by rfl) (X.nw q311)) hce hcv hcl ?_
      refine lv_astore (lv' := [(5, .ref q9), (0, .ref a0), (1, .int p1), (2, .int p2), (3, .int p3), (4, .ref a4)]) hx hb dL_print_15 hl (by decide) rfl (fun ls hl => ?_)
      refine lv_iconst (v := (nI 1)) hx hb dL_print_17 (by decide) ?_
      exact (en_i X h hr hw (Nat.le_of_ble_eq_true rfl) (Nat.le_of_ble_eq_true rfl) dL_print_18)
    · subst hk9
      have hw := hw.2.1 rfl
      have hpass2 : ∀ z ∈ ([⟨0, 12, 15, 19⟩] : List ExceptionTableEntry), covers z 7 = false ∨ (z.catchType ≠ 0 ∧ ∃ nm : String, (Cond.classLink RL z.catchType nm).before args s = true ∧ va_Nc (xn 2) nm s) := by
        intro z hz
        rcases List.mem_cons.mp hz with rfl | hz
        · exact Or.inr ⟨by decide, "java/lang/IndexOutOfBoundsException", X.hts q277, X.2.2.2.2.2.2.1.2.2.2.2.1 ("java/lang/IllegalStateException", "java/lang/IndexOutOfBoundsException") (by decide +kernel)⟩
        cases hz
      refine vx_catch (own := RL) (name := "java/lang/IllegalStateException") (E := xn 2) hown [⟨0, 12, 15, 19⟩] ⟨0, 12, 19, 13⟩ [⟨0, 12, 23, 48⟩, ⟨0, 12, 27, 32⟩, ⟨0, 12, 31, 56⟩] (by rw [hTab]; rfl) (hpass2) (by decide) (by decide) (X.hts q193) (va_Nw.use (by rfl) (X.nw q200)) hce hcv hcl ?_
      refine lv_astore (lv' := [(5, .ref q9), (0, .ref a0), (1, .int p1), (2, .int p2), (3, .int p3), (4, .ref a4)]) hx hb dL_print_19 hl (by decide) rfl (fun ls hl => ?_)
      refine lv_iconst (v := (nI 2)) hx hb dL_print_21 (by decide) ?_
      exact (en_i X h hr hw (Nat.le_of_ble_eq_true rfl) (Nat.le_of_ble_eq_true rfl) dL_print_22)
    · subst hk9
      have hw := hw.2.2.1 rfl
      have hpass3 : ∀ z ∈ ([⟨0, 12, 15, 19⟩, ⟨0, 12, 19, 13⟩] : List ExceptionTableEntry), covers z 7 = false ∨ (z.catchType ≠ 0 ∧ ∃ nm : String, (Cond.classLink RL z.catchType nm).before args s = true ∧ va_Nc (xn 3) nm s) := by
        intro z hz
        rcases List.mem_cons.mp hz with rfl | hz
        · exact Or.inr ⟨by decide, "java/lang/IndexOutOfBoundsException", X.hts q277, X.2.2.2.2.2.2.1.2.2.2.2.1 ("java/util/NoSuchElementException", "java/lang/IndexOutOfBoundsException") (by decide +kernel)⟩
        rcases List.mem_cons.mp hz with rfl | hz
        · exact Or.inr ⟨by decide, "java/lang/IllegalStateException", X.hts q193, X.2.2.2.2.2.2.1.2.2.2.2.1 ("java/util/NoSuchElementException", "java/lang/IllegalStateException") (by decide +kernel)⟩
        cases hz
      refine vx_catch (own := RL) (name := "java/util/NoSuchElementException") (E := xn 3) hown [⟨0, 12, 15, 19⟩, ⟨0, 12, 19, 13⟩] ⟨0, 12, 23, 48⟩ [⟨0, 12, 27, 32⟩, ⟨0, 12, 31, 56⟩] (by rw [hTab]; rfl) (hpass3) (by decide) (by decide) (X.hts q495) (va_Nw.use (by rfl) (X.nw q505)) hce hcv hcl ?_
      refine lv_astore (lv' := [(5, .ref q9), (0, .ref a0), (1, .int p1), (2, .int p2), (3, .int p3), (4, .ref a4)]) hx hb dL_print_23 hl (by decide) rfl (fun ls hl => ?_)
      refine lv_iconst (v := (nI 3)) hx hb dL_print_25 (by decide) ?_
      exact (en_i X h hr hw (Nat.le_of_ble_eq_true rfl) (Nat.le_of_ble_eq_true rfl) dL_print_26)
    · subst hk9
      have hw := hw.2.2.2.1 rfl
      have hpass4 : ∀ z ∈ ([⟨0, 12, 15, 19⟩, ⟨0, 12, 19, 13⟩, ⟨0, 12, 23, 48⟩] : List ExceptionTableEntry), covers z 7 = false ∨ (z.catchType ≠ 0 ∧ ∃ nm : String, (Cond.classLink RL z.catchType nm).before args s = true ∧ va_Nc (xn 4) nm s) := by
        intro z hz
        rcases List.mem_cons.mp hz with rfl | hz
        · exact Or.inr ⟨by decide, "java/lang/IndexOutOfBoundsException", X.hts q277, X.2.2.2.2.2.2.1.2.2.2.2.1 ("java/lang/IllegalArgumentException", "java/lang/IndexOutOfBoundsException") (by decide +kernel)⟩
        rcases List.mem_cons.mp hz with rfl | hz
        · exact Or.inr ⟨by decide, "java/lang/IllegalStateException", X.hts q193, X.2.2.2.2.2.2.1.2.2.2.2.1 ("java/lang/IllegalArgumentException", "java/lang/IllegalStateException") (by decide +kernel)⟩
        rcases List.mem_cons.mp hz with rfl | hz
        · exact Or.inr ⟨by decide, "java/util/NoSuchElementException", X.hts q495, X.2.2.2.2.2.2.1.2.2.2.2.1 ("java/lang/IllegalArgumentException", "java/util/NoSuchElementException") (by decide +kernel)⟩
        cases hz
      refine vx_catch (own := RL) (name := "java/lang/IllegalArgumentException") (E := xn 4) hown [⟨0, 12, 15, 19⟩, ⟨0, 12, 19, 13⟩, ⟨0, 12, 23, 48⟩] ⟨0, 12, 27, 32⟩ [⟨0, 12, 31, 56⟩] (by rw [hTab]; rfl) (hpass4) (by decide) (by decide) (X.hts q402) (va_Nw.use (by rfl) (X.nw q409)) hce hcv hcl ?_
      refine lv_astore (lv' := [(5, .ref q9), (0, .ref a0), (1, .int p1), (2, .int p2), (3, .int p3), (4, .ref a4)]) hx hb dL_print_27 hl (by decide) rfl (fun ls hl => ?_)
      refine lv_iconst (v := (nI 4)) hx hb dL_print_29 (by decide) ?_
      exact (en_i X h hr hw (Nat.le_of_ble_eq_true rfl) (Nat.le_of_ble_eq_true rfl) dL_print_30)
    · subst hk9
      have hw := hw.2.2.2.2.1 rfl
      have hpass5 : ∀ z ∈ ([⟨0, 12, 15, 19⟩, ⟨0, 12, 19, 13⟩, ⟨0, 12, 23, 48⟩, ⟨0, 12, 27, 32⟩] : List ExceptionTableEntry), covers z 7 = false ∨ (z.catchType ≠ 0 ∧ ∃ nm : String, (Cond.classLink RL z.catchType nm).before args s = true ∧ va_Nc (xn 5) nm s) := by
        intro z hz
        rcases List.mem_cons.mp hz with rfl | hz
        · exact Or.inr ⟨by decide, "java/lang/IndexOutOfBoundsException", X.hts q277, X.2.2.2.2.2.2.1.2.2.2.2.1 ("java/lang/UnsupportedOperationException", "java/lang/IndexOutOfBoundsException") (by decide +kernel)⟩
        rcases List.mem_cons.mp hz with rfl | hz
        · exact Or.inr ⟨by decide, "java/lang/IllegalStateException", X.hts q193, X.2.2.2.2.2.2.1.2.2.2.2.1 ("java/lang/UnsupportedOperationException", "java/lang/IllegalStateException") (by decide +kernel)⟩
        rcases List.mem_cons.mp hz with rfl | hz
        · exact Or.inr ⟨by decide, "java/util/NoSuchElementException", X.hts q495, X.2.2.2.2.2.2.1.2.2.2.2.1 ("java/lang/UnsupportedOperationException", "java/util/NoSuchElementException") (by decide +kernel)⟩
        rcases List.mem_cons.mp hz with rfl | hz
        · exact Or.inr ⟨by decide, "java/lang/IllegalArgumentException", X.hts q402, X.2.2.2.2.2.2.1.2.2.2.2.1 ("java/lang/UnsupportedOperationException", "java/lang/IllegalArgumentException") (by decide +kernel)⟩
        cases hz
      refine vx_catch (own := RL) (name := "java/lang/UnsupportedOperationException") (E := xn 5) hown [⟨0, 12, 15, 19⟩, ⟨0, 12, 19, 13⟩, ⟨0, 12, 23, 48⟩, ⟨0, 12, 27, 32⟩] ⟨0, 12, 31, 56⟩ [] (by rw [hTab]; rfl) (hpass5) (by decide) (by decide) (X.hts q541) (va_Nw.use (by rfl) (X.nw q557)) hce hcv hcl ?_
      refine lv_astore (lv' := [(5, .ref q9), (0, .ref a0), (1, .int p1), (2, .int p2), (3, .int p3), (4, .ref a4)]) hx hb dL_print_31 hl (by decide) rfl (fun ls hl => ?_)
      refine lv_iconst (v := (nI 5)) hx hb dL_print_33 (by decide) ?_
      exact (en_i X h hr hw (Nat.le_of_ble_eq_true rfl) (Nat.le_of_ble_eq_true rfl) dL_print_34)
  · refine lv_i2l (v := x3.toInt64) hx hb dL_print_10 rfl ?_
    obtain ⟨k6, hw⟩ := hw
    obtain ⟨v7, hw⟩ := hw
    refine r_last X h k6 v7 dL_print_11 (fun H locs h => ?_)
    obtain ⟨S8, eS8⟩ : ∃ z : Mem, z = (sJ S1 a4 (nI 0).toNatClampNeg x3.toInt64) := ⟨_, rfl⟩
    rw [← eS8] at h
    have hw := hw S8 eS8
    refine lv_goto (tgt := 35) hx hb dL_print_12 (by decide) ?_
    refine lv_iconst (v := (nI 0)) hx hb dL_print_35 (by decide) ?_
    exact (en_i X h hr hw (Nat.le_of_ble_eq_true rfl) (Nat.le_of_ble_eq_true rfl) dL_print_36)
abbrev rmX7_code : Room := { frames := 0, cells := 0, slots := 0, locals := 0 }
def wpX7_code (S : Mem) (a0 : Nat) (p1 : Int32) (post : Int32 → Mem → Prop) : Prop := isK S a0 7 ∧ (∃ o2, mR S a0 12 = some o2 ∧ (isK S o2 8 ∧ (vp_in p1 (mN S o2) ∧ (post (((nI 100) * p1) + (mI S o2 p1.toNatClampNeg)) S))))
set_option maxHeartbeats 4000000 in
set_option maxRecDepth 100000 in
theorem meX7_code (l : Launch) (G : GT) (S : Mem) (a0 : Nat) (p1 : Int32) (post : Int32 → Mem → Prop) (hw : wpX7_code S a0 p1 post) : CN emI l yX7_code (wsU yX7_code cX7_code 2 (some .int)) rmX7_code 0 0 G [.ref a0, .int p1] S post := by
  refine cn_open RX7 rfl (by decide +kernel) (Nat.le_of_ble_eq_true rfl) ?_
  intro p e s m args below meth c A X h hr hin ls hl
  have hl : lv_has ls 2 [(0, .ref a0), (1, .int p1)] := hl
  have hx := X.1
  have hb := X.2.1
  have hown := X.2.2.2.1
  unfold wpX7_code at hw
  refine lv_bipush (v := (nI 100)) hx hb dX7_code_0 (by decide) ?_
  refine lv_iload_n hx hb dX7_code_2 rfl (lv_at hl 1 rfl) ?_
  refine lv_imul hx hb dX7_code_3 ?_
  refine lv_aload_n hx hb dX7_code_4 rfl (lv_at hl 0 rfl) ?_
  obtain ⟨k1, hw⟩ := hw
  obtain ⟨o2, eo2, hw⟩ := hw
  refine r_getR X h k1 12 eo2  (by decide) rfl inX7 (by decide) rfl q860 rfl dX7_code_5 ?_
  refine lv_iload_n hx hb dX7_code_8 rfl (lv_at hl 1 rfl) ?_
  obtain ⟨k3, hw⟩ := hw
  obtain ⟨v4, hw⟩ := hw
  refine r_iald X h k3 v4 dX7_code_9 ?_
  refine lv_iadd hx hb dX7_code_10 ?_
  exact (en_i X h hr hw (Nat.le_of_ble_eq_true rfl) (Nat.le_of_ble_eq_true rfl) dX7_code_11)
abbrev rmX7_plateOf : Room := { frames := 2, cells := 0, slots := 0, locals := 47 }
def wpX7_plateOf (S : Mem) (a0 : Nat) (p1 : Int32) (p2 : Int32) (p3 : Int32) (post : Int32 → Mem → Prop) : Prop := isK S a0 7 ∧ (∃ o2, mR S a0 13 = some o2 ∧ (isK S o2 8 ∧ (vp_in p1 (mN S o2) ∧ ((¬ (mI S o2 p1.toNatClampNeg) = (nI 119) → ((p3 = 0 → (wpX7_contentOn S a0 p1 p2 (nI 2) (fun x8 S7 => isK S7 a0 7 ∧ (wpX7_code S7 a0 x8 (fun x11 S9 => (p3 = 0 → (isK S9 a0 7 ∧ (wpX7_contentOn S9 a0 p1 p2 (nI 3) (fun x15 S13 => isK S13 a0 7 ∧ (wpX7_code S13 a0 x15 (fun x18 S16 => post (((nI 2000) + ((nI 1200) * x11)) + x18) S16)))))) ∧ (¬ p3 = 0 → (isK S9 a0 7 ∧ (wpX7_contentOn S9 a0 p1 p2 (nI 1) (fun x21 S19 => isK S19 a0 7 ∧ (wpX7_code S19 a0 x21 (fun x24 S22 => post (((nI 2000) + ((nI 1200) * x11)) + x24) S22))))))))))) ∧ (¬ p3 = 0 → (wpX7_contentOn S a0 p1 p2 (nI 0) (fun x26 S25 => isK S25 a0 7 ∧ (wpX7_code S25 a0 x26 (fun x29 S27 => (p3 = 0 → (isK S27 a0 7 ∧ (wpX7_contentOn S27 a0 p1 p2 (nI 3) (fun x33 S31 => isK S31 a0 7 ∧ (wpX7_code S31 a0 x33 (fun x36 S34 => post (((nI 2000) + ((nI 1200) * x29)) + x36) S34)))))) ∧ (¬ p3 = 0 → (isK S27 a0 7 ∧ (wpX7_contentOn S27 a0 p1 p2 (nI 1) (fun x39 S37 => isK S37 a0 7 ∧ (wpX7_code S37 a0 x39 (fun x42 S40 => post (((nI 2000) + ((nI 1200) * x29)) + x42) S40))))))))))))) ∧ ((mI S o2 p1.toNatClampNeg) = (nI 119) → ((p3 = 0 → (wpX7_contentOn S a0 p1 p2 (nI 1) (fun x45 S44 => isK S44 a0 7 ∧ (wpX7_code S44 a0 x45 (fun x48 S46 => post ((nI 1) + x48) S46))))) ∧ (¬ p3 = 0 → (wpX7_contentOn S a0 p1 p2 (nI 0) (fun x50 S49 => isK S49 a0 7 ∧ (wpX7_code S49 a0 x50 (fun x53 S51 => post ((nI 1) + x53) S51)))))))))))
set_option maxHeartbeats 4000000 in
set_option maxRecDepth 100000 in
theorem meX7_plateOf (l : Launch) (G : GT) (S : Mem) (a0 : Nat) (p1 : Int32) (p2 : Int32) (p3 : Int32) (post : Int32 → Mem → Prop) (hw : wpX7_plateOf S a0 p1 p2 p3 post) : CN emI l yX7_plateOf (wsU yX7_plateOf cX7_plateOf 4 (some .int)) rmX7_plateOf 0 0 G [.ref a0, .int p1, .int p2, .int p3] S post := by
  refine cn_open RX7 rfl (by decide +kernel) (Nat.le_of_ble_eq_true rfl) ?_
  intro p e s m args below meth c A X h hr hin ls hl
  have hl : lv_has ls 4 [(0, .ref a0), (1, .int p1), (2, .int p2), (3, .int p3)] := hl
  have hx := X.1
  have hb := X.2.1
  have hown := X.2.2.2.1
  unfold wpX7_plateOf at hw
  refine lv_aload_n hx hb dX7_plateOf_0 rfl (lv_at hl 0 rfl) ?_
  obtain ⟨k1, hw⟩ := hw
  obtain ⟨o2, eo2, hw⟩ := hw
  refine r_getR X h k1 13 eo2  (by decide) rfl inX7 (by decide) rfl q861 rfl dX7_plateOf_1 ?_
  refine lv_iload_n hx hb dX7_plateOf_4 rfl (lv_at hl 1 rfl) ?_
  obtain ⟨k3, hw⟩ := hw
  obtain ⟨v4, hw⟩ := hw
  refine r_iald X h k3 v4 dX7_plateOf_5 ?_
  refine lv_bipush (v := (nI 119)) hx hb dX7_plateOf_6 (by decide) ?_
  refine lv_icmp_ne (tgt := 33) hx hb dX7_plateOf_8 (by decide) (fun c5 => ?_) (fun c5 => ?_)
  · have hw := hw.1 c5
    refine lv_sipush (v := (nI 2000)) hx hb dX7_plateOf_33 (by decide) ?_
    refine lv_sipush (v := (nI 1200)) hx hb dX7_plateOf_36 (by decide) ?_
    refine lv_aload_n hx hb dX7_plateOf_39 rfl (lv_at hl 0 rfl) ?_
    refine lv_aload_n hx hb dX7_plateOf_40 rfl (lv_at hl 0 rfl) ?_
    refine lv_iload_n hx hb dX7_plateOf_41 rfl (lv_at hl 1 rfl) ?_
    refine lv_iload_n hx hb dX7_plateOf_42 rfl (lv_at hl 2 rfl) ?_
    refine lv_iload_n hx hb dX7_plateOf_43 rfl (lv_at hl 3 rfl) ?_
    refine lv_if_eq (tgt := 51) hx hb dX7_plateOf_44 (by decide) (fun c6 => ?_) (fun c6 => ?_)
    · have hw := hw.1 c6
      refine lv_iconst (v := (nI 2)) hx hb dX7_plateOf_51 (by decide) ?_
      refine rc_V (As := [.int p1, .int p2, .int (nI 2)]) (rest := [.ref a0, .int (nI 1200), .int (nI 2000)]) X h k1 (by decide) rfl (meX7_contentOn l G _ _ _ _ _ _ hw) gV_X7_85 rfl rfl hdV_X7_contentOn rfl ⟨Nat.le_of_ble_eq_true rfl, Nat.le_of_ble_eq_true rfl⟩ hl.1 rfl (Nat.le_of_ble_eq_true rfl) ⟨Nat.le_of_ble_eq_true rfl, Nat.le_of_ble_eq_true rfl⟩ dX7_plateOf_52 (fun x8 S7 H locs hw h => ?_)
      obtain ⟨k10, hw⟩ := hw
      refine rc_V (As := [.int x8]) (rest := [.int (nI 1200), .int (nI 2000)]) X h k10 (by decide) rfl (meX7_code l G _ _ _ _ hw) gV_X7_88 rfl rfl hdV_X7_code rfl ⟨Nat.le_of_ble_eq_true rfl, Nat.le_of_ble_eq_true rfl⟩ hl.1 rfl (Nat.le_of_ble_eq_true rfl) ⟨Nat.le_of_ble_eq_true rfl, Nat.le_of_ble_eq_true rfl⟩ dX7_plateOf_55 (fun x11 S9 H locs hw h => ?_)
      refine lv_imul hx hb dX7_plateOf_58 ?_
      refine lv_iadd hx hb dX7_plateOf_59 ?_
      refine lv_aload_n hx hb dX7_plateOf_60 rfl (lv_at hl 0 rfl) ?_
      refine lv_aload_n hx hb dX7_plateOf_61 rfl (lv_at hl 0 rfl) ?_
      refine lv_iload_n hx hb dX7_plateOf_62 rfl (lv_at hl 1 rfl) ?_
      refine lv_iload_n hx hb dX7_plateOf_63 rfl (lv_at hl 2 rfl) ?_
      refine lv_iload_n hx hb dX7_plateOf_64 rfl (lv_at hl 3 rfl) ?_
      refine lv_if_eq (tgt := 72) hx hb dX7_plateOf_65 (by decide) (fun c12 => ?_) (fun c12 => ?_)
      · have hw := hw.1 c12
        refine lv_iconst (v := (nI 3)) hx hb dX7_plateOf_72 (by decide) ?_
        obtain ⟨k14, hw⟩ := hw
        refine rc_V (As := [.int p1, .int p2, .int (nI 3)]) (rest := [.ref a0, .int ((nI 2000) + ((nI 1200) * x11))]) X h k14 (by decide) rfl (meX7_contentOn l G _ _ _ _ _ _ hw) gV_X7_85 rfl rfl hdV_X7_contentOn rfl ⟨Nat.le_of_ble_eq_true rfl, Nat.le_of_ble_eq_true rfl⟩ hl.1 rfl (Nat.le_of_ble_eq_true rfl) ⟨Nat.le_of_ble_eq_true rfl, Nat.le_of_ble_eq_true rfl⟩ dX7_plateOf_73 (fun x15 S13 H locs hw h => ?_)
        obtain ⟨k17, hw⟩ := hw
        refine rc_V (As := [.int x15]) (rest := [.int ((nI 2000) + ((nI 1200) * x11))]) X h k17 (by decide) rfl (meX7_code l G _ _ _ _ hw) gV_X7_88 rfl rfl hdV_X7_code rfl ⟨Nat.le_of_ble_eq_true rfl, Nat.le_of_ble_eq_true rfl⟩ hl.1 rfl (Nat.le_of_ble_eq_true rfl) ⟨Nat.le_of_ble_eq_true rfl, Nat.le_of_ble_eq_true rfl⟩ dX7_plateOf_76 (fun x18 S16 H locs hw h => ?_)
        refine lv_iadd hx hb dX7_plateOf_79 ?_
        exact (en_i X h hr hw (Nat.le_of_ble_eq_true rfl) (Nat.le_of_ble_eq_true rfl) dX7_plateOf_80)
      · have hw := hw.2 c12
        refine lv_iconst (v := (nI 1)) hx hb dX7_plateOf_68 (by decide) ?_
        refine lv_goto (tgt := 73) hx hb dX7_plateOf_69 (by decide) ?_
        obtain ⟨k20, hw⟩ := hw
        refine rc_V (As := [.int p1, .int p2, .int (nI 1)]) (rest := [.ref a0, .int ((nI 2000) + ((nI 1200) * x11))]) X h k20 (by decide) rfl (meX7_contentOn l G _ _ _ _ _ _ hw) gV_X7_85 rfl rfl hdV_X7_contentOn rfl ⟨Nat.le_of_ble_eq_true rfl, Nat.le_of_ble_eq_true rfl⟩ hl.1 rfl (Nat.le_of_ble_eq_true rfl) ⟨Nat.le_of_ble_eq_true rfl, Nat.le_of_ble_eq_true rfl⟩ dX7_plateOf_73 (fun x21 S19 H locs hw h => ?_)
        obtain ⟨k23, hw⟩ := hw
        refine rc_V (As := [.int x21]) (rest := [.int ((nI 2000) + ((nI 1200) * x11))]) X h k23 (by decide) rfl (meX7_code l G _ _ _ _ hw) gV_X7_88 rfl rfl hdV_X7_code rfl ⟨Nat.le_of_ble_eq_true rfl, Nat.le_of_ble_eq_true rfl⟩ hl.1 rfl (Nat.le_of_ble_eq_true rfl) ⟨Nat.le_of_ble_eq_true rfl, Nat.le_of_ble_eq_true rfl⟩ dX7_plateOf_76 (fun x24 S22 H locs hw h => ?_)
        refine lv_iadd hx hb dX7_plateOf_79 ?_
        exact (en_i X h hr hw (Nat.le_of_ble_eq_true rfl) (Nat.le_of_ble_eq_true rfl) dX7_plateOf_80)
    · have hw := hw.2 c6
      refine lv_iconst (v := (nI 0)) hx hb dX7_plateOf_47 (by decide) ?_
      refine lv_goto (tgt := 52) hx hb dX7_plateOf_48 (by decide) ?_
      refine rc_V (As := [.int p1, .int p2, .int (nI 0)]) (rest := [.ref a0, .int (nI 1200), .int (nI 2000)]) X h k1 (by decide) rfl (meX7_contentOn l G _ _ _ _ _ _ hw) gV_X7_85 rfl rfl hdV_X7_contentOn rfl ⟨Nat.le_of_ble_eq_true rfl, Nat.le_of_ble_eq_true rfl⟩ hl.1 rfl (Nat.le_of_ble_eq_true rfl) ⟨Nat.le_of_ble_eq_true rfl, Nat.le_of_ble_eq_true rfl⟩ dX7_plateOf_52 (fun x26 S25 H locs hw h => ?_)
      obtain ⟨k28, hw⟩ := hw
      refine rc_V (As := [.int x26]) (rest := [.int (nI 1200), .int (nI 2000)]) X h k28 (by decide) rfl (meX7_code l G _ _ _ _ hw) gV_X7_88 rfl rfl hdV_X7_code rfl ⟨Nat.le_of_ble_eq_true rfl, Nat.le_of_ble_eq_true rfl⟩ hl.1 rfl (Nat.le_of_ble_eq_true rfl) ⟨Nat.le_of_ble_eq_true rfl, Nat.le_of_ble_eq_true rfl⟩ dX7_plateOf_55 (fun x29 S27 H locs hw h => ?_)
      refine lv_imul hx hb dX7_plateOf_58 ?_
      refine lv_iadd hx hb dX7_plateOf_59 ?_
      refine lv_aload_n hx hb dX7_plateOf_60 rfl (lv_at hl 0 rfl) ?_
      refine lv_aload_n hx hb dX7_plateOf_61 rfl (lv_at hl 0 rfl) ?_
      refine lv_iload_n hx hb dX7_plateOf_62 rfl (lv_at hl 1 rfl) ?_
      refine lv_iload_n hx hb dX7_plateOf_63 rfl (lv_at hl 2 rfl) ?_
      refine lv_iload_n hx hb dX7_plateOf_64 rfl (lv_at hl 3 rfl) ?_
      refine lv_if_eq (tgt := 72) hx hb dX7_plateOf_65 (by decide) (fun c30 => ?_) (fun c30 => ?_)
      · have hw := hw.1 c30
        refine lv_iconst (v := (nI 3)) hx hb dX7_plateOf_72 (by decide) ?_
        obtain ⟨k32, hw⟩ := hw
        refine rc_V (As := [.int p1, .int p2, .int (nI 3)]) (rest := [.ref a0, .int ((nI 2000) + ((nI 1200) * x29))]) X h k32 (by decide) rfl (meX7_contentOn l G _ _ _ _ _ _ hw) gV_X7_85 rfl rfl hdV_X7_contentOn rfl ⟨Nat.le_of_ble_eq_true rfl, Nat.le_of_ble_eq_true rfl⟩ hl.1 rfl (Nat.le_of_ble_eq_true rfl) ⟨Nat.le_of_ble_eq_true rfl, Nat.le_of_ble_eq_true rfl⟩ dX7_plateOf_73 (fun x33 S31 H locs hw h => ?_)
        obtain ⟨k35, hw⟩ := hw
        refine rc_V (As := [.int x33]) (rest := [.int ((nI 2000) + ((nI 1200) * x29))]) X h k35 (by decide) rfl (meX7_code l G _ _ _ _ hw) gV_X7_88 rfl rfl hdV_X7_code rfl ⟨Nat.le_of_ble_eq_true rfl, Nat.le_of_ble_eq_true rfl⟩ hl.1 rfl (Nat.le_of_ble_eq_true rfl) ⟨Nat.le_of_ble_eq_true rfl, Nat.le_of_ble_eq_true rfl⟩ dX7_plateOf_76 (fun x36 S34 H locs hw h => ?_)
        refine lv_iadd hx hb dX7_plateOf_79 ?_
        exact (en_i X h hr hw (Nat.le_of_ble_eq_true rfl) (Nat.le_of_ble_eq_true rfl) dX7_plateOf_80)
      · have hw := hw.2 c30
        refine lv_iconst (v := (nI 1)) hx hb dX7_plateOf_68 (by decide) ?_
        refine lv_goto (tgt := 73) hx hb dX7_plateOf_69 (by decide) ?_
        obtain ⟨k38, hw⟩ := hw
        refine rc_V (As := [.int p1, .int p2, .int (nI 1)]) (rest := [.ref a0, .int ((nI 2000) + ((nI 1200) * x29))]) X h k38 (by decide) rfl (meX7_contentOn l G _ _ _ _ _ _ hw) gV_X7_85 rfl rfl hdV_X7_contentOn rfl ⟨Nat.le_of_ble_eq_true rfl, Nat.le_of_ble_eq_true rfl⟩ hl.1 rfl (Nat.le_of_ble_eq_true rfl) ⟨Nat.le_of_ble_eq_true rfl, Nat.le_of_ble_eq_true rfl⟩ dX7_plateOf_73 (fun x39 S37 H locs hw h => ?_)
        obtain ⟨k41, hw⟩ := hw
        refine rc_V (As := [.int x39]) (rest := [.int ((nI 2000) + ((nI 1200) * x29))]) X h k41 (by decide) rfl (meX7_code l G _ _ _ _ hw) gV_X7_88 rfl rfl hdV_X7_code rfl ⟨Nat.le_of_ble_eq_true rfl, Nat.le_of_ble_eq_true rfl⟩ hl.1 rfl (Nat.le_of_ble_eq_true rfl) ⟨Nat.le_of_ble_eq_true rfl, Nat.le_of_ble_eq_true rfl⟩ dX7_plateOf_76 (fun x42 S40 H locs hw h => ?_)
        refine lv_iadd hx hb dX7_plateOf_79 ?_
        exact (en_i X h hr hw (Nat.le_of_ble_eq_true rfl) (Nat.le_of_ble_eq_true rfl) dX7_plateOf_80)
  · have hw := hw.2 c5
    refine lv_iconst (v := (nI 1)) hx hb dX7_plateOf_11 (by decide) ?_
    refine lv_aload_n hx hb dX7_plateOf_12 rfl (lv_at hl 0 rfl) ?_
    refine lv_aload_n hx hb dX7_plateOf_13 rfl (lv_at hl 0 rfl) ?_
    refine lv_iload_n hx hb dX7_plateOf_14 rfl (lv_at hl 1 rfl) ?_
    refine lv_iload_n hx hb dX7_plateOf_15 rfl (lv_at hl 2 rfl) ?_
    refine lv_iload_n hx hb dX7_plateOf_16 rfl (lv_at hl 3 rfl) ?_
    refine lv_if_eq (tgt := 24) hx hb dX7_plateOf_17 (by decide) (fun c43 => ?_) (fun c43 => ?_)
    · have hw := hw.1 c43
      refine lv_iconst (v := (nI 1)) hx hb dX7_plateOf_24 (by decide) ?_
      refine rc_V (As := [.int p1, .int p2, .int (nI 1)]) (rest := [.ref a0, .int (nI 1)]) X h k1 (by decide) rfl (meX7_contentOn l G _ _ _ _ _ _ hw) gV_X7_85 rfl rfl hdV_X7_contentOn rfl ⟨Nat.le_of_ble_eq_true rfl, Nat.le_of_ble_eq_true rfl⟩ hl.1 rfl (Nat.le_of_ble_eq_true rfl) ⟨Nat.le_of_ble_eq_true rfl, Nat.le_of_ble_eq_true rfl⟩ dX7_plateOf_25 (fun x45 S44 H locs hw h => ?_)
      obtain ⟨k47, hw⟩ := hw
      refine rc_V (As := [.int x45]) (rest := [.int (nI 1)]) X h k47 (by decide) rfl (meX7_code l G _ _ _ _ hw) gV_X7_88 rfl rfl hdV_X7_code rfl ⟨Nat.le_of_ble_eq_true rfl, Nat.le_of_ble_eq_true rfl⟩ hl.1 rfl (Nat.le_of_ble_eq_true rfl) ⟨Nat.le_of_ble_eq_true rfl, Nat.le_of_ble_eq_true rfl⟩ dX7_plateOf_28 (fun x48 S46 H locs hw h => ?_)
      refine lv_iadd hx hb dX7_plateOf_31 ?_
      exact (en_i X h hr hw (Nat.le_of_ble_eq_true rfl) (Nat.le_of_ble_eq_true rfl) dX7_plateOf_32)
    · have hw := hw.2 c43
      refine lv_iconst (v := (nI 0)) hx hb dX7_plateOf_20 (by decide) ?_
      refine lv_goto (tgt := 25) hx hb dX7_plateOf_21 (by decide) ?_
      refine rc_V (As := [.int p1, .int p2, .int (nI 0)]) (rest := [.ref a0, .int (nI 1)]) X h k1 (by decide) rfl (meX7_contentOn l G _ _ _ _ _ _ hw) gV_X7_85 rfl rfl hdV_X7_contentOn rfl ⟨Nat.le_of_ble_eq_true rfl, Nat.le_of_ble_eq_true rfl⟩ hl.1 rfl (Nat.le_of_ble_eq_true rfl) ⟨Nat.le_of_ble_eq_true rfl, Nat.le_of_ble_eq_true rfl⟩ dX7_plateOf_25 (fun x50 S49 H locs hw h => ?_)
      obtain ⟨k52, hw⟩ := hw
      refine rc_V (As := [.int x50]) (rest := [.int (nI 1)]) X h k52 (by decide) rfl (meX7_code l G _ _ _ _ hw) gV_X7_88 rfl rfl hdV_X7_code rfl ⟨Nat.le_of_ble_eq_true rfl, Nat.le_of_ble_eq_true rfl⟩ hl.1 rfl (Nat.le_of_ble_eq_true rfl) ⟨Nat.le_of_ble_eq_true rfl, Nat.le_of_ble_eq_true rfl⟩ dX7_plateOf_28 (fun x53 S51 H locs hw h => ?_)
      refine lv_iadd hx hb dX7_plateOf_31 ?_
      exact (en_i X h hr hw (Nat.le_of_ble_eq_true rfl) (Nat.le_of_ble_eq_true rfl) dX7_plateOf_32)
abbrev rmX7_ready : Room := { frames := 3, cells := 0, slots := 0, locals := 70 }
def wpX7_ready (S : Mem) (a0 : Nat) (p1 : Int32) (p2 : Int32) (post : Int32 → Mem → Prop) : Prop := isK S a0 7 ∧ (wpX7_plateOf S a0 p1 p2 (nI 1) (fun x3 S1 => isK S1 a0 7 ∧ ((¬ x3 = (mI S1 a0 7) → (wpX7_plateOf S1 a0 p1 p2 (nI 0) (fun x7 S6 => isK S6 a0 7 ∧ ((¬ x7 = (mI S6 a0 8) → (∃ o10, mR S6 a0 13 = some o10 ∧ (isK S6 o10 8 ∧ (vp_in p1 (mN S6 o10) ∧ ((¬ (mI S6 o10 p1.toNatClampNeg) = (mI S6 a0 9) → (post (((nI 20) + (nI 20)) + (nI 15)) S6)) ∧ ((mI S6 o10 p1.toNatClampNeg) = (mI S6 a0 9) → (post (((nI 20) + (nI 20)) + (nI 0)) S6))))))) ∧ (x7 = (mI S6 a0 8) → (∃ o14, mR S6 a0 13 = some o14 ∧ (isK S6 o14 8 ∧ (vp_in p1 (mN S6 o14) ∧ ((¬ (mI S6 o14 p1.toNatClampNeg) = (mI S6 a0 9) → (post (((nI 20) + (nI 0)) + (nI 15)) S6)) ∧ ((mI S6 o14 p1.toNatClampNeg) = (mI S6 a0 9) → (post (((nI 20) + (nI 0)) + (nI 0)) S6))))))))))) ∧ (x3 = (mI S1 a0 7) → (wpX7_plateOf S1 a0 p1 p2 (nI 0) (fun x19 S18 => isK S18 a0 7 ∧ ((¬ x19 = (mI S18 a0 8) → (∃ o22, mR S18 a0 13 = some o22 ∧ (isK S18 o22 8 ∧ (vp_in p1 (mN S18 o22) ∧ ((¬ (mI S18 o22 p1.toNatClampNeg) = (mI S18 a0 9) → (post (((nI 0) + (nI 20)) + (nI 15)) S18)) ∧ ((mI S18 o22 p1.toNatClampNeg) = (mI S18 a0 9) → (post (((nI 0) + (nI 20)) + (nI 0)) S18))))))) ∧ (x19 = (mI S18 a0 8) → (∃ o26, mR S18 a0 13 = some o26 ∧ (isK S18 o26 8 ∧ (vp_in p1 (mN S18 o26) ∧ ((¬ (mI S18 o26 p1.toNatClampNeg) = (mI S18 a0 9) → (post (((nI 0) + (nI 0)) + (nI 15)) S18)) ∧ ((mI S18 o26 p1.toNatClampNeg) = (mI S18 a0 9) → (post (((nI 0) + (nI 0)) + (nI 0)) S18))))))))))))))
set_option maxHeartbeats 4000000 in
set_option maxRecDepth 100000 in
theorem meX7_ready (l : Launch) (G : GT) (S : Mem) (a0 : Nat) (p1 : Int32) (p2 : Int32) (post : Int32 → Mem → Prop) (hw : wpX7_ready S a0 p1 p2 post) : CN emI l yX7_ready (wsU yX7_ready cX7_ready 3 (some .int)) rmX7_ready 0 0 G [.ref a0, .int p1, .int p2] S post := by
  refine cn_open RX7 rfl (by decide +kernel) (Nat.le_of_ble_eq_true rfl) ?_
  intro p e s m args below meth c A X h hr hin ls hl
  have hl : lv_has ls 3 [(0, .ref a0), (1, .int p1), (2, .int p2)] := hl
  have hx := X.1
  have hb := X.2.1
  have hown := X.2.2.2.1
  unfold wpX7_ready at hw
  refine lv_aload_n hx hb dX7_ready_0 rfl (lv_at hl 0 rfl) ?_
  refine lv_iload_n hx hb dX7_ready_1 rfl (lv_at hl 1 rfl) ?_
  refine lv_iload_n hx hb dX7_ready_2 rfl (lv_at hl 2 rfl) ?_
  refine lv_iconst (v := (nI 1)) hx hb dX7_ready_3 (by decide) ?_
  obtain ⟨k2, hw⟩ := hw
  refine rc_V (As := [.int p1, .int p2, .int (nI 1)]) (rest := []) X h k2 (by decide) rfl (meX7_plateOf l G _ _ _ _ _ _ hw) gV_X7_118 rfl rfl hdV_X7_plateOf rfl ⟨Nat.le_of_ble_eq_true rfl, Nat.le_of_ble_eq_true rfl⟩ hl.1 rfl (Nat.le_of_ble_eq_true rfl) ⟨Nat.le_of_ble_eq_true rfl, Nat.le_of_ble_eq_true rfl⟩ dX7_ready_4 (fun x3 S1 H locs hw h => ?_)
  refine lv_aload_n hx hb dX7_ready_7 rfl (lv_at hl 0 rfl) ?_
  obtain ⟨k4, hw⟩ := hw
  refine r_getI X h k4 7  (by decide) rfl inX7 (by decide) rfl q855 rfl dX7_ready_8 ?_
  refine lv_icmp_ne (tgt := 18) hx hb dX7_ready_11 (by decide) (fun c5 => ?_) (fun c5 => ?_)
  · have hw := hw.1 c5
    refine lv_bipush (v := (nI 20)) hx hb dX7_ready_18 (by decide) ?_
    refine lv_aload_n hx hb dX7_ready_20 rfl (lv_at hl 0 rfl) ?_
    refine lv_iload_n hx hb dX7_ready_21 rfl (lv_at hl 1 rfl) ?_
    refine lv_iload_n hx hb dX7_ready_22 rfl (lv_at hl 2 rfl) ?_
    refine lv_iconst (v := (nI 0)) hx hb dX7_ready_23 (by decide) ?_
    refine rc_V (As := [.int p1, .int p2, .int (nI 0)]) (rest := [.int (nI 20)]) X h k4 (by decide) rfl (meX7_plateOf l G _ _ _ _ _ _ hw) gV_X7_118 rfl rfl hdV_X7_plateOf rfl ⟨Nat.le_of_ble_eq_true rfl, Nat.le_of_ble_eq_true rfl⟩ hl.1 rfl (Nat.le_of_ble_eq_true rfl) ⟨Nat.le_of_ble_eq_true rfl, Nat.le_of_ble_eq_true rfl⟩ dX7_ready_24 (fun x7 S6 H locs hw h => ?_)
    refine lv_aload_n hx hb dX7_ready_27 rfl (lv_at hl 0 rfl) ?_
    obtain ⟨k8, hw⟩ := hw
    refine r_getI X h k8 8  (by decide) rfl inX7 (by decide) rfl q856 rfl dX7_ready_28 ?_
    refine lv_icmp_ne (tgt := 38) hx hb dX7_ready_31 (by decide) (fun c9 => ?_) (fun c9 => ?_)
    · have hw := hw.1 c9
      refine lv_bipush (v := (nI 20)) hx hb dX7_ready_38 (by decide) ?_
      refine lv_iadd hx hb dX7_ready_40 ?_
      refine lv_aload_n hx hb dX7_ready_41 rfl (lv_at hl 0 rfl) ?_
      obtain ⟨o10, eo10, hw⟩ := hw
      refine r_getR X h k8 13 eo10  (by decide) rfl inX7 (by decide) rfl q861 rfl dX7_ready_42 ?_
      refine lv_iload_n hx hb dX7_ready_45 rfl (lv_at hl 1 rfl) ?_
      obtain ⟨k11, hw⟩ := hw
      obtain ⟨v12, hw⟩ := hw
      refine r_iald X h k11 v12 dX7_ready_46 ?_
      refine lv_aload_n hx hb dX7_ready_47 rfl (lv_at hl 0 rfl) ?_
      refine r_getI X h k8 9  (by decide) rfl inX7 (by decide) rfl q857 rfl dX7_ready_48 ?_
      refine lv_icmp_ne (tgt := 58) hx hb dX7_ready_51 (by decide) (fun c13 => ?_) (fun c13 => ?_)
      · have hw := hw.1 c13
        refine lv_bipush (v := (nI 15)) hx hb dX7_ready_58 (by decide) ?_
        refine lv_iadd hx hb dX7_ready_60 ?_
        exact (en_i X h hr hw (Nat.le_of_ble_eq_true rfl) (Nat.le_of_ble_eq_true rfl) dX7_ready_61)
      · have hw := hw.2 c13
        refine lv_iconst (v := (nI 0)) hx hb dX7_ready_54 (by decide) ?_
        refine lv_goto (tgt := 60) hx hb dX7_ready_55 (by decide) ?_
        refine lv_iadd hx hb dX7_ready_60 ?_
        exact (en_i X h hr hw (Nat.le_of_ble_eq_true rfl) (Nat.le_of_ble_eq_true rfl) dX7_ready_61)
    · have hw := hw.2 c9
      refine lv_iconst (v := (nI 0)) hx hb dX7_ready_34 (by decide) ?_
      refine lv_goto (tgt := 40) hx hb dX7_ready_35 (by decide) ?_
      refine lv_iadd hx hb dX7_ready_40 ?_
      refine lv_aload_n hx hb dX7_ready_41 rfl (lv_at hl 0 rfl) ?_
      obtain ⟨o14, eo14, hw⟩ := hw
      refine r_getR X h k8 13 eo14  (by decide) rfl inX7 (by decide) rfl q861 rfl dX7_ready_42 ?_
      refine lv_iload_n hx hb dX7_ready_45 rfl (lv_at hl 1 rfl) ?_
      obtain ⟨k15, hw⟩ := hw
      obtain ⟨v16, hw⟩ := hw
      refine r_iald X h k15 v16 dX7_ready_46 ?_
      refine lv_aload_n hx hb dX7_ready_47 rfl (lv_at hl 0 rfl) ?_
      refine r_getI X h k8 9  (by decide) rfl inX7 (by decide) rfl q857 rfl dX7_ready_48 ?_
      refine lv_icmp_ne (tgt := 58) hx hb dX7_ready_51 (by decide) (fun c17 => ?_) (fun c17 => ?_)
      · have hw := hw.1 c17
        refine lv_bipush (v := (nI 15)) hx hb dX7_ready_58 (by decide) ?_
        refine lv_iadd hx hb dX7_ready_60 ?_
        exact (en_i X h hr hw (Nat.le_of_ble_eq_true rfl) (Nat.le_of_ble_eq_true rfl) dX7_ready_61)
      · have hw := hw.2 c17
        refine lv_iconst (v := (nI 0)) hx hb dX7_ready_54 (by decide) ?_
        refine lv_goto (tgt := 60) hx hb dX7_ready_55 (by decide) ?_
        refine lv_iadd hx hb dX7_ready_60 ?_
        exact (en_i X h hr hw (Nat.le_of_ble_eq_true rfl) (Nat.le_of_ble_eq_true rfl) dX7_ready_61)
  · have hw := hw.2 c5
    refine lv_iconst (v := (nI 0)) hx hb dX7_ready_14 (by decide) ?_
    refine lv_goto (tgt := 20) hx hb dX7_ready_15 (by decide) ?_
    refine lv_aload_n hx hb dX7_ready_20 rfl (lv_at hl 0 rfl) ?_
    refine lv_iload_n hx hb dX7_ready_21 rfl (lv_at hl 1 rfl) ?_
    refine lv_iload_n hx hb dX7_ready_22 rfl (lv_at hl 2 rfl) ?_
    refine lv_iconst (v := (nI 0)) hx hb dX7_ready_23 (by decide) ?_
    refine rc_V (As := [.int p1, .int p2, .int (nI 0)]) (rest := [.int (nI 0)]) X h k4 (by decide) rfl (meX7_plateOf l G _ _ _ _ _ _ hw) gV_X7_118 rfl rfl hdV_X7_plateOf rfl ⟨Nat.le_of_ble_eq_true rfl, Nat.le_of_ble_eq_true rfl⟩ hl.1 rfl (Nat.le_of_ble_eq_true rfl) ⟨Nat.le_of_ble_eq_true rfl, Nat.le_of_ble_eq_true rfl⟩ dX7_ready_24 (fun x19 S18 H locs hw h => ?_)
    refine lv_aload_n hx hb dX7_ready_27 rfl (lv_at hl 0 rfl) ?_
    obtain ⟨k20, hw⟩ := hw
    refine r_getI X h k20 8  (by decide) rfl inX7 (by decide) rfl q856 rfl dX7_ready_28 ?_
    refine lv_icmp_ne (tgt := 38) hx hb dX7_ready_31 (by decide) (fun c21 => ?_) (fun c21 => ?_)
    · have hw := hw.1 c21
      refine lv_bipush (v := (nI 20)) hx hb dX7_ready_38 (by decide) ?_
      refine lv_iadd hx hb dX7_ready_40 ?_
      refine lv_aload_n hx hb dX7_ready_41 rfl (lv_at hl 0 rfl) ?_
      obtain ⟨o22, eo22, hw⟩ := hw
      refine r_getR X h k20 13 eo22  (by decide) rfl inX7 (by decide) rfl q861 rfl dX7_ready_42 ?_
      refine lv_iload_n hx hb dX7_ready_45 rfl (lv_at hl 1 rfl) ?_
      obtain ⟨k23, hw⟩ := hw
      obtain ⟨v24, hw⟩ := hw
      refine r_iald X h k23 v24 dX7_ready_46 ?_
      refine lv_aload_n hx hb dX7_ready_47 rfl (lv_at hl 0 rfl) ?_
      refine r_getI X h k20 9  (by decide) rfl inX7 (by decide) rfl q857 rfl dX7_ready_48 ?_
      refine lv_icmp_ne (tgt := 58) hx hb dX7_ready_51 (by decide) (fun c25 => ?_) (fun c25 => ?_)
      · have hw := hw.1 c25
        refine lv_bipush (v := (nI 15)) hx hb dX7_ready_58 (by decide) ?_
        refine lv_iadd hx hb dX7_ready_60 ?_
        exact (en_i X h hr hw (Nat.le_of_ble_eq_true rfl) (Nat.le_of_ble_eq_true rfl) dX7_ready_61)
      · have hw := hw.2 c25
        refine lv_iconst (v := (nI 0)) hx hb dX7_ready_54 (by decide) ?_
        refine lv_goto (tgt := 60) hx hb dX7_ready_55 (by decide) ?_
        refine lv_iadd hx hb dX7_ready_60 ?_
        exact (en_i X h hr hw (Nat.le_of_ble_eq_true rfl) (Nat.le_of_ble_eq_true rfl) dX7_ready_61)
    · have hw := hw.2 c21
      refine lv_iconst (v := (nI 0)) hx hb dX7_ready_34 (by decide) ?_
      refine lv_goto (tgt := 40) hx hb dX7_ready_35 (by decide) ?_
      refine lv_iadd hx hb dX7_ready_40 ?_
      refine lv_aload_n hx hb dX7_ready_41 rfl (lv_at hl 0 rfl) ?_
      obtain ⟨o26, eo26, hw⟩ := hw
      refine r_getR X h k20 13 eo26  (by decide) rfl inX7 (by decide) rfl q861 rfl dX7_ready_42 ?_
      refine lv_iload_n hx hb dX7_ready_45 rfl (lv_at hl 1 rfl) ?_
      obtain ⟨k27, hw⟩ := hw
      obtain ⟨v28, hw⟩ := hw
      refine r_iald X h k27 v28 dX7_ready_46 ?_
      refine lv_aload_n hx hb dX7_ready_47 rfl (lv_at hl 0 rfl) ?_
      refine r_getI X h k20 9  (by decide) rfl inX7 (by decide) rfl q857 rfl dX7_ready_48 ?_
      refine lv_icmp_ne (tgt := 58) hx hb dX7_ready_51 (by decide) (fun c29 => ?_) (fun c29 => ?_)
      · have hw := hw.1 c29
        refine lv_bipush (v := (nI 15)) hx hb dX7_ready_58 (by decide) ?_
        refine lv_iadd hx hb dX7_ready_60 ?_
        exact (en_i X h hr hw (Nat.le_of_ble_eq_true rfl) (Nat.le_of_ble_eq_true rfl) dX7_ready_61)
      · have hw := hw.2 c29
        refine lv_iconst (v := (nI 0)) hx hb dX7_ready_54 (by decide) ?_
        refine lv_goto (tgt := 60) hx hb dX7_ready_55 (by decide) ?_
        refine lv_iadd hx hb dX7_ready_60 ?_
        exact (en_i X h hr hw (Nat.le_of_ble_eq_true rfl) (Nat.le_of_ble_eq_true rfl) dX7_ready_61)
abbrev rmX7_isMade : Room := { frames := 0, cells := 0, slots := 0, locals := 0 }
def wlX7_isMade_2 (a0 : Nat) (p1 : Int32)  (post : Int32 → Mem → Prop)  : Nat → Int32 → Mem → Prop
  | 0 => fun _ _ => False
  | n + 1 => fun w2 S => isK S a0 7 ∧ (((mI S a0 4) ≤ w2 → (vz_nar (nI 0) ∧ (post (nI 0) S))) ∧ (¬ (mI S a0 4) ≤ w2 → (∃ o4, mR S a0 18 = some o4 ∧ (isK S o4 8 ∧ (vp_in w2 (mN S o4) ∧ ((¬ (mI S o4 w2.toNatClampNeg) = p1 → (∀ x8 : Int32, x8 = (w2 + (nI 1)) → (wlX7_isMade_2 a0 p1 post n x8 S))) ∧ ((mI S o4 w2.toNatClampNeg) = p1 → (vz_nar (nI 1) ∧ (post (nI 1) S)))))))))
set_option maxHeartbeats 4000000 in
set_option maxRecDepth 100000 in
theorem llX7_isMade_2 {p : Program} {l : Launch} {e : Env} {s : State} {m : MethodId} {args : Array Value} {below : List Frame} {meth : Method} {c : Code} {G : GT} {A : Nat → Prop} (X : Cx p s m args meth c cX7_isMade 3 RX7 G A) (hr : meth.sig.returnType = (some .boolean)) (a0 : Nat) (p1 : Int32)  (post : Int32 → Mem → Prop)   : ∀ (n : Nat) (w2 : Int32) (S : Mem), wlX7_isMade_2 a0 p1 post n w2 S → ∀ (H : Heap) (locs : List Loc) (ls : Array Slot), Hx G A s.heap H locs S → lv_has ls 3 [(0, .ref a0), (1, .int p1), (2, .int w2)] → W p l e rmX7_isMade s m args below meth c H locs 0 0 (MQ below (QN emI post G A) args s 0 0 A) (F0 m 2 ls []) := by
  have hx := X.1
  have hb := X.2.1
  have hown := X.2.2.2.1
  intro n
  induction n with
  | zero =>
    intro _ _ hw
    exact hw.elim
  | succ n ih =>
    intro w2 S hw H locs ls h hl
    refine lv_iload_n hx hb dX7_isMade_2 rfl (lv_at hl 2 rfl) ?_
    refine lv_aload_n hx hb dX7_isMade_3 rfl (lv_at hl 0 rfl) ?_
    obtain ⟨k1, hw⟩ := hw
    refine r_getI X h k1 4  (by decide) rfl inX7 (by decide) rfl q852 rfl dX7_isMade_4 ?_
    refine lv_icmp_ge (tgt := 28) hx hb dX7_isMade_7 (by decide) (fun c2 => ?_) (fun c2 => ?_)
    · have hw := hw.1 c2
      refine lv_iconst (v := (nI 0)) hx hb dX7_isMade_28 (by decide) ?_
      obtain ⟨b3, hw⟩ := hw
      exact (en_z X h hr b3 hw (Nat.le_of_ble_eq_true rfl) (Nat.le_of_ble_eq_true rfl) dX7_isMade_29)
    · have hw := hw.2 c2
      refine lv_aload_n hx hb dX7_isMade_10 rfl (lv_at hl 0 rfl) ?_
      obtain ⟨o4, eo4, hw⟩ := hw
      refine r_getR X h k1 18 eo4  (by decide) rfl inX7 (by decide) rfl q866 rfl dX7_isMade_11 ?_
      refine lv_iload_n hx hb dX7_isMade_14 rfl (lv_at hl 2 rfl) ?_
      obtain ⟨k5, hw⟩ := hw
      obtain ⟨v6, hw⟩ := hw
      refine r_iald X h k5 v6 dX7_isMade_15 ?_
      refine lv_iload_n hx hb dX7_isMade_16 rfl (lv_at hl 1 rfl) ?_
      refine lv_icmp_ne (tgt := 22) hx hb dX7_isMade_17 (by decide) (fun c7 => ?_) (fun c7 => ?_)
      · have hw := hw.1 c7
        obtain ⟨x8, ex8⟩ : ∃ y : Int32, y = (w2 + (nI 1)) := ⟨_, rfl⟩
        have hw := hw x8 ex8
        refine lv_iinc (v := x8) (lv' := [(2, .int x8), (0, .ref a0), (1, .int p1)]) hx hb dX7_isMade_22 hl (k := 2) rfl (by rw [ex8]; rfl) (by decide) rfl (fun ls hl => ?_)
        refine lv_goto (tgt := 2) hx hb dX7_isMade_25 (by decide) ?_
        exact ih _ _ hw _ _ _ h (lv_sub hl [1, 2, 0] rfl)
      · have hw := hw.2 c7
        refine lv_iconst (v := (nI 1)) hx hb dX7_isMade_20 (by decide) ?_
        obtain ⟨b9, hw⟩ := hw
        exact (en_z X h hr b9 hw (Nat.le_of_ble_eq_true rfl) (Nat.le_of_ble_eq_true rfl) dX7_isMade_21)
def wpX7_isMade (S : Mem) (a0 : Nat) (p1 : Int32) (post : Int32 → Mem → Prop) : Prop := ∃ m, wlX7_isMade_2 a0 p1 post m (nI 0) S
set_option maxHeartbeats 4000000 in
set_option maxRecDepth 100000 in
theorem meX7_isMade (l : Launch) (G : GT) (S : Mem) (a0 : Nat) (p1 : Int32) (post : Int32 → Mem → Prop) (hw : wpX7_isMade S a0 p1 post) : CN emI l yX7_isMade (wsU yX7_isMade cX7_isMade 3 (some .boolean)) rmX7_isMade 0 0 G [.ref a0, .int p1] S post := by
  refine cn_open RX7 rfl (by decide +kernel) (Nat.le_of_ble_eq_true rfl) ?_
  intro p e s m args below meth c A X h hr hin ls hl
  have hl : lv_has ls 3 [(0, .ref a0), (1, .int p1)] := hl
  have hx := X.1
  have hb := X.2.1
  have hown := X.2.2.2.1
  unfold wpX7_isMade at hw
  refine lv_iconst (v := (nI 0)) hx hb dX7_isMade_0 (by decide) ?_
  refine lv_istore_n (lv' := [(2, .int (nI 0)), (0, .ref a0), (1, .int p1)]) hx hb dX7_isMade_1 rfl hl (by decide) rfl (fun ls hl => ?_)
  obtain ⟨n10, hw⟩ := hw
  exact llX7_isMade_2  X hr _ _ _ n10 _ _ hw _ _ _ h (lv_sub hl [1, 2, 0] rfl)
abbrev rmX7_makes : Room := { frames := 1, cells := 0, slots := 0, locals := 22 }
def wpX7_makes (S : Mem) (a0 : Nat) (p1 : Int32) (post : Unit → Mem → Prop) : Prop := isK S a0 7 ∧ (wpX7_isMade S a0 p1 (fun x3 S1 => (x3 = 0 → (isK S1 a0 7 ∧ (∃ o6, mR S1 a0 18 = some o6 ∧ (isK S1 o6 8 ∧ (vp_in (mI S1 a0 4) (mN S1 o6) ∧ (∀ S9 : Mem, S9 = (sI S1 o6 (mI S1 a0 4).toNatClampNeg p1) → (∀ x10 : Int32, x10 = ((mI S9 a0 4) + (nI 1)) → (∀ S11 : Mem, S11 = (sI S9 a0 4 x10) → (post () S11))))))))) ∧ (¬ x3 = 0 → (post () S1))))
set_option maxHeartbeats 4000000 in
set_option maxRecDepth 100000 in
theorem meX7_makes (l : Launch) (G : GT) (S : Mem) (a0 : Nat) (p1 : Int32) (post : Unit → Mem → Prop) (hw : wpX7_makes S a0 p1 post) : CN emV l yX7_makes (wsU yX7_makes cX7_makes 2 none) rmX7_makes 0 0 G [.ref a0, .int p1] S post := by
  refine cn_open RX7 rfl (by decide +kernel) (Nat.le_of_ble_eq_true rfl) ?_
  intro p e s m args below meth c A X h hr hin ls hl
  have hl : lv_has ls 2 [(0, .ref a0), (1, .int p1)] := hl
  have hx := X.1
  have hb := X.2.1
  have hown := X.2.2.2.1
  unfold wpX7_makes at hw
  refine lv_aload_n hx hb dX7_makes_0 rfl (lv_at hl 0 rfl) ?_
  refine lv_iload_n hx hb dX7_makes_1 rfl (lv_at hl 1 rfl) ?_
  obtain ⟨k2, hw⟩ := hw
  refine rc_V (As := [.int p1]) (rest := []) X h k2 (by decide) rfl (meX7_isMade l G _ _ _ _ hw) gV_X7_94 rfl rfl hdV_X7_isMade rfl ⟨Nat.le_of_ble_eq_true rfl, Nat.le_of_ble_eq_true rfl⟩ hl.1 rfl (Nat.le_of_ble_eq_true rfl) ⟨Nat.le_of_ble_eq_true rfl, Nat.le_of_ble_eq_true rfl⟩ dX7_makes_2 (fun x3 S1 H locs hw h => ?_)
  refine lv_if_eq (tgt := 9) hx hb dX7_makes_5 (by decide) (fun c4 => ?_) (fun c4 => ?_)
  · have hw := hw.1 c4
    refine lv_aload_n hx hb dX7_makes_9 rfl (lv_at hl 0 rfl) ?_
    obtain ⟨k5, hw⟩ := hw
    obtain ⟨o6, eo6, hw⟩ := hw
    refine r_getR X h k5 18 eo6  (by decide) rfl inX7 (by decide) rfl q866 rfl dX7_makes_10 ?_
    refine lv_aload_n hx hb dX7_makes_13 rfl (lv_at hl 0 rfl) ?_
    refine r_getI X h k5 4  (by decide) rfl inX7 (by decide) rfl q852 rfl dX7_makes_14 ?_
    refine lv_iload_n hx hb dX7_makes_17 rfl (lv_at hl 1 rfl) ?_
    obtain ⟨k7, hw⟩ := hw
    obtain ⟨v8, hw⟩ := hw
    refine r_iast X h k7 v8 dX7_makes_18 (fun H locs h => ?_)
    obtain ⟨S9, eS9⟩ : ∃ z : Mem, z = (sI S1 o6 (mI S1 a0 4).toNatClampNeg p1) := ⟨_, rfl⟩
    rw [← eS9] at h
    have hw := hw S9 eS9
    refine lv_aload_n hx hb dX7_makes_19 rfl (lv_at hl 0 rfl) ?_
    refine lv_dup hx hb dX7_makes_20 rfl ?_
    refine r_getI X h (kI eS9 k5) 4  (by decide) rfl inX7 (by decide) rfl q852 rfl dX7_makes_21 ?_
    refine lv_iconst (v := (nI 1)) hx hb dX7_makes_24 (by decide) ?_
    refine lv_iadd hx hb dX7_makes_25 ?_
    refine lv_topi (fun x10 ex10 => ?_)
    have hw := hw x10 ex10
    refine r_putI X h (kI eS9 k5) 4 (by decide) rfl inX7 tyX7 tyX7_ok nmX7 (by decide) rfl (Nat.le_of_ble_eq_true rfl) q852 rfl rfl (tyX7_ok 4 (by decide)) rfl rfl dX7_makes_26 (fun H locs h => ?_)
    obtain ⟨S11, eS11⟩ : ∃ z : Mem, z = (sI S9 a0 4 x10) := ⟨_, rfl⟩
    rw [← eS11] at h
    have hw := hw S11 eS11
    exact (en_v X h hr hw (Nat.le_of_ble_eq_true rfl) (Nat.le_of_ble_eq_true rfl) dX7_makes_29)
  · have hw := hw.2 c4
    exact (en_v X h hr hw (Nat.le_of_ble_eq_true rfl) (Nat.le_of_ble_eq_true rfl) dX7_makes_8)
abbrev rmX7_print : Room := { frames := 4, cells := 0, slots := 0, locals := 92 }
def wlX7_print_57 (a0 : Nat) (p1 : Int32) (p2 : Int32) (p3 : Int32)  (post : Int32 → Mem → Prop)  : Nat → Int32 → Int32 → Mem → Prop
  | 0 => fun _ _ _ => False
  | n + 1 => fun w4 w5 S => isK S a0 7 ∧ (wpX7_places S a0 p1 (fun x15 S13 => (x15 ≤ w5 → ((¬ w4 = 0 → (isK S13 a0 7 ∧ (wpX7_ready S13 a0 p1 p2 (fun x20 S18 => isK S18 a0 7 ∧ (wpX7_plateOf S18 a0 p1 p2 (nI 1) (fun x23 S21 => isK S21 a0 7 ∧ (∀ S25 : Mem, S25 = (sI S21 a0 7 x23) → (wpX7_plateOf S25 a0 p1 p2 (nI 0) (fun x27 S26 => isK S26 a0 7 ∧ (∀ S29 : Mem, S29 = (sI S26 a0 8 x27) → (∃ o30, mR S29 a0 13 = some o30 ∧ (isK S29 o30 8 ∧ (vp_in p1 (mN S29 o30) ∧ (∀ x33 : Int32, x33 = (mI S29 o30 p1.toNatClampNeg) → (∀ S34 : Mem, S34 = (sI S29 a0 9 x33) → (wpX7_makes S34 a0 (mI S34 a0 7) (fun u36 S35 => isK S35 a0 7 ∧ (wpX7_makes S35 a0 (mI S35 a0 8) (fun u39 S38 => isK S38 a0 7 ∧ (∃ o41, mR S38 a0 16 = some o41 ∧ (isK S38 o41 8 ∧ (vp_in (((nI 8) * p1) + p2) (mN S38 o41) ∧ (∀ x44 : Int32, x44 = ((mI S38 o41 (((nI 8) * p1) + p2).toNatClampNeg) + p3) → (vp_in (((nI 8) * p1) + p2) (mN S38 o41) ∧ (∀ S46 : Mem, S46 = (sI S38 o41 (((nI 8) * p1) + p2).toNatClampNeg x44) → (∀ S47 : Mem, S47 = (sJ S46 a0 11 ((mJ S46 a0 11) + p3.toInt64)) → (∀ x48 : Int32, x48 = ((mI S47 a0 5) + (nI 1)) → (∀ S49 : Mem, S49 = (sI S47 a0 5 x48) → (∀ x50 : Int32, x50 = ((mI S49 a0 6) + x20) → (∀ S51 : Mem, S51 = (sI S49 a0 6 x50) → (post x20 S51))))))))))))))))))))))))))))))) ∧ (w4 = 0 → (isK S13 a0 7 ∧ (wpX7_fails S13 a0 (nI 5) (fun x54 S52 => post x54 S52)))))) ∧ (¬ x15 ≤ w5 → ((w4 = 0 → (∀ x56 : Int32, x56 = (w5 + (nI 1)) → (wlX7_print_57 a0 p1 p2 p3 post n (nI 0) x56 S13))) ∧ (¬ w4 = 0 → (isK S13 a0 7 ∧ (∃ o58, mR S13 a0 17 = some o58 ∧ (wpX7_contentOn S13 a0 p1 p2 w5 (fun x60 S59 => isK S59 o58 9 ∧ (vp_in x60 (mN S59 o58) ∧ (((mI S59 o58 x60.toNatClampNeg) = 0 → (∀ x64 : Int32, x64 = (w5 + (nI 1)) → (wlX7_print_57 a0 p1 p2 p3 post n (nI 0) x64 S59))) ∧ (¬ (mI S59 o58 x60.toNatClampNeg) = 0 → (∀ x65 : Int32, x65 = (w5 + (nI 1)) → (wlX7_print_57 a0 p1 p2 p3 post n (nI 1) x65 S59))))))))))))))
set_option maxHeartbeats 4000000 in
set_option maxRecDepth 100000 in
theorem llX7_print_57 {p : Program} {l : Launch} {e : Env} {s : State} {m : MethodId} {args : Array Value} {below : List Frame} {meth : Method} {c : Code} {G : GT} {A : Nat → Prop} (X : Cx p s m args meth c cX7_print 6 RX7 G A) (hr : meth.sig.returnType = (some .int)) (a0 : Nat) (p1 : Int32) (p2 : Int32) (p3 : Int32)  (post : Int32 → Mem → Prop)   : ∀ (n : Nat) (w4 : Int32) (w5 : Int32) (S : Mem), wlX7_print_57 a0 p1 p2 p3 post n w4 w5 S → ∀ (H : Heap) (locs : List Loc) (ls : Array Slot), Hx G A s.heap H locs S → lv_has ls 6 [(0, .ref a0), (1, .int p1), (2, .int p2), (3, .int p3), (4, .int w4), (5, .int w5)] → W p l e rmX7_print s m args below meth c H locs 0 0 (MQ below (QN emI post G A) args s 0 0 A) (F0 m 57 ls []) := by
  have hx := X.1
  have hb := X.2.1
  have hown := X.2.2.2.1
  intro n
  induction n with
  | zero =>
    intro _ _ _ hw
    exact hw.elim
  | succ n ih =>
    intro w4 w5 S hw H locs ls h hl
    refine lv_iload hx hb dX7_print_57 (lv_at hl 5 rfl) ?_
    refine lv_aload_n hx hb dX7_print_59 rfl (lv_at hl 0 rfl) ?_
    refine lv_iload_n hx hb dX7_print_60 rfl (lv_at hl 1 rfl) ?_
    obtain ⟨k14, hw⟩ := hw
    refine rc_V (As := [.int p1]) (rest := [.int w5]) X h k14 (by decide) rfl (meX7_places l G _ _ _ _ hw) gV_X7_64 rfl rfl hdV_X7_places rfl ⟨Nat.le_of_ble_eq_true rfl, Nat.le_of_ble_eq_true rfl⟩ hl.1 rfl (Nat.le_of_ble_eq_true rfl) ⟨Nat.le_of_ble_eq_true rfl, Nat.le_of_ble_eq_true rfl⟩ dX7_print_61 (fun x15 S13 H locs hw h => ?_)
    refine lv_icmp_ge (tgt := 101) hx hb dX7_print_64 (by decide) (fun c16 => ?_) (fun c16 => ?_)
    · have hw := hw.1 c16
      refine lv_iload hx hb dX7_print_101 (lv_at hl 4 rfl) ?_
      refine lv_if_ne (tgt := 112) hx hb dX7_print_103 (by decide) (fun c17 => ?_) (fun c17 => ?_)
      · have hw := hw.1 c17
        refine lv_aload_n hx hb dX7_print_112 rfl (lv_at hl 0 rfl) ?_
        refine lv_iload_n hx hb dX7_print_113 rfl (lv_at hl 1 rfl) ?_
        refine lv_iload_n hx hb dX7_print_114 rfl (lv_at hl 2 rfl) ?_
        obtain ⟨k19, hw⟩ := hw
        refine rc_V (As := [.int p1, .int p2]) (rest := []) X h k19 (by decide) rfl (meX7_ready l G _ _ _ _ _ hw) gV_X7_131 rfl rfl hdV_X7_ready rfl ⟨Nat.le_of_ble_eq_true rfl, Nat.le_of_ble_eq_true rfl⟩ hl.1 rfl (Nat.le_of_ble_eq_true rfl) ⟨Nat.le_of_ble_eq_true rfl, Nat.le_of_ble_eq_true rfl⟩ dX7_print_115 (fun x20 S18 H locs hw h => ?_)
        refine lv_istore (lv' := [(5, .int x20), (0, .ref a0), (1, .int p1), (2, .int p2), (3, .int p3), (4, .int w4)]) hx hb dX7_print_118 hl (by decide) rfl (fun ls hl => ?_)
        refine lv_aload_n hx hb dX7_print_120 rfl (lv_at hl 1 rfl) ?_
        refine lv_aload_n hx hb dX7_print_121 rfl (lv_at hl 1 rfl) ?_
        refine lv_iload_n hx hb dX7_print_122 rfl (lv_at hl 2 rfl) ?_
        refine lv_iload_n hx hb dX7_print_123 rfl (lv_at hl 3 rfl) ?_
        refine lv_iconst (v := (nI 1)) hx hb dX7_print_124 (by decide) ?_
        obtain ⟨k22, hw⟩ := hw
        refine rc_V (As := [.int p1, .int p2, .int (nI 1)]) (rest := [.ref a0]) X h k22 (by decide) rfl (meX7_plateOf l G _ _ _ _ _ _ hw) gV_X7_118 rfl rfl hdV_X7_plateOf rfl ⟨Nat.le_of_ble_eq_true rfl, Nat.le_of_ble_eq_true rfl⟩ hl.1 rfl (Nat.le_of_ble_eq_true rfl) ⟨Nat.le_of_ble_eq_true rfl, Nat.le_of_ble_eq_true rfl⟩ dX7_print_125 (fun x23 S21 H locs hw h => ?_)
        obtain ⟨k24, hw⟩ := hw
        refine r_putI X h k24 7 (by decide) rfl inX7 tyX7 tyX7_ok nmX7 (by decide) rfl (Nat.le_of_ble_eq_true rfl) q855 rfl rfl (tyX7_ok 7 (by decide)) rfl rfl dX7_print_128 (fun H locs h => ?_)
        obtain ⟨S25, eS25⟩ : ∃ z : Mem, z = (sI S21 a0 7 x23) := ⟨_, rfl⟩
        rw [← eS25] at h
        have hw := hw S25 eS25
        refine lv_aload_n hx hb dX7_print_131 rfl (lv_at hl 1 rfl) ?_
        refine lv_aload_n hx hb dX7_print_132 rfl (lv_at hl 1 rfl) ?_
        refine lv_iload_n hx hb dX7_print_133 rfl (lv_at hl 2 rfl) ?_
        refine lv_iload_n hx hb dX7_print_134 rfl (lv_at hl 3 rfl) ?_
        refine lv_iconst (v := (nI 0)) hx hb dX7_print_135 (by decide) ?_
        refine rc_V (As := [.int p1, .int p2, .int (nI 0)]) (rest := [.ref a0]) X h (kI eS25 k24) (by decide) rfl (meX7_plateOf l G _ _ _ _ _ _ hw) gV_X7_118 rfl rfl hdV_X7_plateOf rfl ⟨Nat.le_of_ble_eq_true rfl, Nat.le_of_ble_eq_true rfl⟩ hl.1 rfl (Nat.le_of_ble_eq_true rfl) ⟨Nat.le_of_ble_eq_true rfl, Nat.le_of_ble_eq_true rfl⟩ dX7_print_136 (fun x27 S26 H locs hw h => ?_)
        obtain ⟨k28, hw⟩ := hw
        refine r_putI X h k28 8 (by decide) rfl inX7 tyX7 tyX7_ok nmX7 (by decide) rfl (Nat.le_of_ble_eq_true rfl) q856 rfl rfl (tyX7_ok 8 (by decide)) rfl rfl dX7_print_139 (fun H locs h => ?_)
        obtain ⟨S29, eS29⟩ : ∃ z : Mem, z = (sI S26 a0 8 x27) := ⟨_, rfl⟩
        rw [← eS29] at h
        have hw := hw S29 eS29
        refine lv_aload_n hx hb dX7_print_142 rfl (lv_at hl 1 rfl) ?_
        refine lv_aload_n hx hb dX7_print_143 rfl (lv_at hl 1 rfl) ?_
        obtain ⟨o30, eo30, hw⟩ := hw
        refine r_getR X h (kI eS29 k28) 13 eo30  (by decide) rfl inX7 (by decide) rfl q861 rfl dX7_print_144 ?_
        refine lv_iload_n hx hb dX7_print_147 rfl (lv_at hl 2 rfl) ?_
        obtain ⟨k31, hw⟩ := hw
        obtain ⟨v32, hw⟩ := hw
        refine r_iald X h k31 v32 dX7_print_148 ?_
        refine lv_topi (fun x33 ex33 => ?_)
        have hw := hw x33 ex33
        refine r_putI X h (kI eS29 k28) 9 (by decide) rfl inX7 tyX7 tyX7_ok nmX7 (by decide) rfl (Nat.le_of_ble_eq_true rfl) q857 rfl rfl (tyX7_ok 9 (by decide)) rfl rfl dX7_print_149 (fun H locs h => ?_)
        obtain ⟨S34, eS34⟩ : ∃ z : Mem, z = (sI S29 a0 9 x33) := ⟨_, rfl⟩
        rw [← eS34] at h
        have hw := hw S34 eS34
        refine lv_aload_n hx hb dX7_print_152 rfl (lv_at hl 1 rfl) ?_
        refine lv_aload_n hx hb dX7_print_153 rfl (lv_at hl 1 rfl) ?_
        refine r_getI X h (kI eS34 (kI eS29 k28)) 7  (by decide) rfl inX7 (by decide) rfl q855 rfl dX7_print_154 ?_
        refine rc_V (As := [.int (mI S34 a0 7)]) (rest := []) X h (kI eS34 (kI eS29 k28)) (by decide) rfl (meX7_makes l G _ _ _ _ hw) gV_X7_134 rfl rfl hdV_X7_makes rfl ⟨Nat.le_of_ble_eq_true rfl, Nat.le_of_ble_eq_true rfl⟩ hl.1 rfl (Nat.le_of_ble_eq_true rfl) ⟨Nat.le_of_ble_eq_true rfl, Nat.le_of_ble_eq_true rfl⟩ dX7_print_157 (fun u36 S35 H locs hw h => ?_)
        refine lv_aload_n hx hb dX7_print_160 rfl (lv_at hl 1 rfl) ?_
        refine lv_aload_n hx hb dX7_print_161 rfl (lv_at hl 1 rfl) ?_
        obtain ⟨k37, hw⟩ := hw
        refine r_getI X h k37 8  (by decide) rfl inX7 (by decide) rfl q856 rfl dX7_print_162 ?_
        refine rc_V (As := [.int (mI S35 a0 8)]) (rest := []) X h k37 (by decide) rfl (meX7_makes l G _ _ _ _ hw) gV_X7_134 rfl rfl hdV_X7_makes rfl ⟨Nat.le_of_ble_eq_true rfl, Nat.le_of_ble_eq_true rfl⟩ hl.1 rfl (Nat.le_of_ble_eq_true rfl) ⟨Nat.le_of_ble_eq_true rfl, Nat.le_of_ble_eq_true rfl⟩ dX7_print_165 (fun u39 S38 H locs hw h => ?_)
        refine lv_aload_n hx hb dX7_print_168 rfl (lv_at hl 1 rfl) ?_
        obtain ⟨k40, hw⟩ := hw
        obtain ⟨o41, eo41, hw⟩ := hw
        refine r_getR X h k40 16 eo41  (by decide) rfl inX7 (by decide) rfl q864 rfl dX7_print_169 ?_
        refine lv_bipush (v := (nI 8)) hx hb dX7_print_172 (by decide) ?_
        refine lv_iload_n hx hb dX7_print_174 rfl (lv_at hl 2 rfl) ?_
        refine lv_imul hx hb dX7_print_175 ?_
        refine lv_iload_n hx hb dX7_print_176 rfl (lv_at hl 3 rfl) ?_
        refine lv_iadd hx hb dX7_print_177 ?_
        refine lv_dup2_11 hx hb dX7_print_178 rfl rfl ?_
        obtain ⟨k42, hw⟩ := hw
        obtain ⟨v43, hw⟩ := hw
        refine r_iald X h k42 v43 dX7_print_179 ?_
        refine lv_iload_n hx hb dX7_print_180 rfl (lv_at hl 4 rfl) ?_
        refine lv_iadd hx hb dX7_print_181 ?_
        refine lv_topi (fun x44 ex44 => ?_)
        have hw := hw x44 ex44
        obtain ⟨v45, hw⟩ := hw
        refine r_iast X h k42 v45 dX7_print_182 (fun H locs h => ?_)
        obtain ⟨S46, eS46⟩ : ∃ z : Mem, z = (sI S38 o41 (((nI 8) * p1) + p2).toNatClampNeg x44) := ⟨_, rfl⟩
        rw [← eS46] at h
        have hw := hw S46 eS46
        refine lv_aload_n hx hb dX7_print_183 rfl (lv_at hl 1 rfl) ?_
        refine lv_dup hx hb dX7_print_184 rfl ?_
        refine r_getJ X h (kI eS46 k40) 11  (by decide) rfl inX7 (by decide) rfl q859 rfl dX7_print_185 ?_
        refine lv_iload_n hx hb dX7_print_188 rfl (lv_at hl 4 rfl) ?_
        refine lv_i2l (v := p3.toInt64) hx hb dX7_print_189 rfl ?_
        refine lv_ladd hx hb dX7_print_190 ?_
        refine r_putJ X h (kI eS46 k40) 11 (by decide) rfl inX7 tyX7 tyX7_ok nmX7 (by decide) rfl (Nat.le_of_ble_eq_true rfl) q859 rfl rfl (tyX7_ok 11 (by decide)) rfl rfl dX7_print_191 (fun H locs h => ?_)
        obtain ⟨S47, eS47⟩ : ∃ z : Mem, z = (sJ S46 a0 11 ((mJ S46 a0 11) + p3.toInt64)) := ⟨_, rfl⟩
        rw [← eS47] at h
        have hw := hw S47 eS47
        refine lv_aload_n hx hb dX7_print_194 rfl (lv_at hl 1 rfl) ?_
        refine lv_dup hx hb dX7_print_195 rfl ?_
        refine r_getI X h (kJ eS47 (kI eS46 k40)) 5  (by decide) rfl inX7 (by decide) rfl q853 rfl dX7_print_196 ?_
        refine lv_iconst (v := (nI 1)) hx hb dX7_print_199 (by decide) ?_
        refine lv_iadd hx hb dX7_print_200 ?_
        refine lv_topi (fun x48 ex48 => ?_)
        have hw := hw x48 ex48
        refine r_putI X h (kJ eS47 (kI eS46 k40)) 5 (by decide) rfl inX7 tyX7 tyX7_ok nmX7 (by decide) rfl (Nat.le_of_ble_eq_true rfl) q853 rfl rfl (tyX7_ok 5 (by decide)) rfl rfl dX7_print_201 (fun H locs h => ?_)
        obtain ⟨S49, eS49⟩ : ∃ z : Mem, z = (sI S47 a0 5 x48) := ⟨_, rfl⟩
        rw [← eS49] at h
        have hw := hw S49 eS49
        refine lv_aload_n hx hb dX7_print_204 rfl (lv_at hl 1 rfl) ?_
        refine lv_dup hx hb dX7_print_205 rfl ?_
        refine r_getI X h (kI eS49 (kJ eS47 (kI eS46 k40))) 6  (by decide) rfl inX7 (by decide) rfl q854 rfl dX7_print_206 ?_
        refine lv_iload hx hb dX7_print_209 (lv_at hl 0 rfl) ?_
        refine lv_iadd hx hb dX7_print_211 ?_
        refine lv_topi (fun x50 ex50 => ?_)
        have hw := hw x50 ex50
        refine r_putI X h (kI eS49 (kJ eS47 (kI eS46 k40))) 6 (by decide) rfl inX7 tyX7 tyX7_ok nmX7 (by decide) rfl (Nat.le_of_ble_eq_true rfl) q854 rfl rfl (tyX7_ok 6 (by decide)) rfl rfl dX7_print_212 (fun H locs h => ?_)
        obtain ⟨S51, eS51⟩ : ∃ z : Mem, z = (sI S49 a0 6 x50) := ⟨_, rfl⟩
        rw [← eS51] at h
        have hw := hw S51 eS51
        refine lv_iload hx hb dX7_print_215 (lv_at hl 0 rfl) ?_
        exact (en_i X h hr hw (Nat.le_of_ble_eq_true rfl) (Nat.le_of_ble_eq_true rfl) dX7_print_217)
      · have hw := hw.2 c17
        refine lv_aload_n hx hb dX7_print_106 rfl (lv_at hl 0 rfl) ?_
        refine lv_iconst (v := (nI 5)) hx hb dX7_print_107 (by decide) ?_
        obtain ⟨k53, hw⟩ := hw
        refine rc_V (As := [.int (nI 5)]) (rest := []) X h k53 (by decide) rfl (meX7_fails l G _ _ _ _ hw) gV_X7_101 rfl rfl hdV_X7_fails rfl ⟨Nat.le_of_ble_eq_true rfl, Nat.le_of_ble_eq_true rfl⟩ hl.1 rfl (Nat.le_of_ble_eq_true rfl) ⟨Nat.le_of_ble_eq_true rfl, Nat.le_of_ble_eq_true rfl⟩ dX7_print_108 (fun x54 S52 H locs hw h => ?_)
        exact (en_i X h hr hw (Nat.le_of_ble_eq_true rfl) (Nat.le_of_ble_eq_true rfl) dX7_print_111)
    · have hw := hw.2 c16
      refine lv_iload hx hb dX7_print_67 (lv_at hl 4 rfl) ?_
      refine lv_if_eq (tgt := 92) hx hb dX7_print_69 (by decide) (fun c55 => ?_) (fun c55 => ?_)
      · have hw := hw.1 c55
        refine lv_iconst (v := (nI 0)) hx hb dX7_print_92 (by decide) ?_
        refine lv_istore (lv' := [(4, .int (nI 0)), (0, .ref a0), (1, .int p1), (2, .int p2), (3, .int p3), (5, .int w5)]) hx hb dX7_print_93 hl (by decide) rfl (fun ls hl => ?_)
        obtain ⟨x56, ex56⟩ : ∃ y : Int32, y = (w5 + (nI 1)) := ⟨_, rfl⟩
        have hw := hw x56 ex56
        refine lv_iinc (v := x56) (lv' := [(5, .int x56), (4, .int (nI 0)), (0, .ref a0), (1, .int p1), (2, .int p2), (3, .int p3)]) hx hb dX7_print_95 hl (k := 5) rfl (by rw [ex56]; rfl) (by decide) rfl (fun ls hl => ?_)
        refine lv_goto (tgt := 57) hx hb dX7_print_98 (by decide) ?_
        exact ih _ _ _ hw _ _ _ h (lv_sub hl [2, 3, 4, 5, 1, 0] rfl)
      · have hw := hw.2 c55
        refine lv_aload_n hx hb dX7_print_72 rfl (lv_at hl 0 rfl) ?_
        obtain ⟨k57, hw⟩ := hw
        obtain ⟨o58, eo58, hw⟩ := hw
        refine r_getR X h k57 17 eo58  (by decide) rfl inX7 (by decide) rfl q865 rfl dX7_print_73 ?_
        refine lv_aload_n hx hb dX7_print_76 rfl (lv_at hl 0 rfl) ?_
        refine lv_iload_n hx hb dX7_print_77 rfl (lv_at hl 1 rfl) ?_
        refine lv_iload_n hx hb dX7_print_78 rfl (lv_at hl 2 rfl) ?_
        refine lv_iload hx hb dX7_print_79 (lv_at hl 5 rfl) ?_
        refine rc_V (As := [.int p1, .int p2, .int w5]) (rest := [.ref o58]) X h k57 (by decide) rfl (meX7_contentOn l G _ _ _ _ _ _ hw) gV_X7_85 rfl rfl hdV_X7_contentOn rfl ⟨Nat.le_of_ble_eq_true rfl, Nat.le_of_ble_eq_true rfl⟩ hl.1 rfl (Nat.le_of_ble_eq_true rfl) ⟨Nat.le_of_ble_eq_true rfl, Nat.le_of_ble_eq_true rfl⟩ dX7_print_81 (fun x60 S59 H locs hw h => ?_)
        obtain ⟨k61, hw⟩ := hw
        obtain ⟨v62, hw⟩ := hw
        refine r_zald X h k61 v62 dX7_print_84 ?_
        refine lv_if_eq (tgt := 92) hx hb dX7_print_85 (by decide) (fun c63 => ?_) (fun c63 => ?_)
        · have hw := hw.1 c63
          refine lv_iconst (v := (nI 0)) hx hb dX7_print_92 (by decide) ?_
          refine lv_istore (lv' := [(4, .int (nI 0)), (0, .ref a0), (1, .int p1), (2, .int p2), (3, .int p3), (5, .int w5)]) hx hb dX7_print_93 hl (by decide) rfl (fun ls hl => ?_)
          obtain ⟨x64, ex64⟩ : ∃ y : Int32, y = (w5 + (nI 1)) := ⟨_, rfl⟩
          have hw := hw x64 ex64
          refine lv_iinc (v := x64) (lv' := [(5, .int x64), (4, .int (nI 0)), (0, .ref a0), (1, .int p1), (2, .int p2), (3, .int p3)]) hx hb dX7_print_95 hl (k := 5) rfl (by rw [ex64]; rfl) (by decide) rfl (fun ls hl => ?_)
          refine lv_goto (tgt := 57) hx hb dX7_print_98 (by decide) ?_
          exact ih _ _ _ hw _ _ _ h (lv_sub hl [2, 3, 4, 5, 1, 0] rfl)
        · have hw := hw.2 c63
          refine lv_iconst (v := (nI 1)) hx hb dX7_print_88 (by decide) ?_
          refine lv_goto (tgt := 93) hx hb dX7_print_89 (by decide) ?_
          refine lv_istore (lv' := [(4, .int (nI 1)), (0, .ref a0), (1, .int p1), (2, .int p2), (3, .int p3), (5, .int w5)]) hx hb dX7_print_93 hl (by decide) rfl (fun ls hl => ?_)
          obtain ⟨x65, ex65⟩ : ∃ y : Int32, y = (w5 + (nI 1)) := ⟨_, rfl⟩
          have hw := hw x65 ex65
          refine lv_iinc (v := x65) (lv' := [(5, .int x65), (4, .int (nI 1)), (0, .ref a0), (1, .int p1), (2, .int p2), (3, .int p3)]) hx hb dX7_print_95 hl (k := 5) rfl (by rw [ex65]; rfl) (by decide) rfl (fun ls hl => ?_)
          refine lv_goto (tgt := 57) hx hb dX7_print_98 (by decide) ?_
          exact ih _ _ _ hw _ _ _ h (lv_sub hl [2, 3, 4, 5, 1, 0] rfl)
def wpX7_print (S : Mem) (a0 : Nat) (p1 : Int32) (p2 : Int32) (p3 : Int32) (post : Int32 → Mem → Prop) : Prop := isK S a0 7 ∧ (wpX7_isSheet S a0 p1 p2 (fun x3 S1 => (¬ x3 = 0 → (wpX7_in S1 p3 (nI 1) (nI 500) (fun x6 S5 => (¬ x6 = 0 → (isK S5 a0 7 ∧ (∃ o9, mR S5 a0 16 = some o9 ∧ (isK S5 o9 8 ∧ (vp_in (((nI 8) * p1) + p2) (mN S5 o9) ∧ (((nI 9999) < ((mI S5 o9 (((nI 8) * p1) + p2).toNatClampNeg) + p3) → (∃ m, wlX7_print_57 a0 p1 p2 p3 post m (nI 0) (nI 0) S5)) ∧ (¬ (nI 9999) < ((mI S5 o9 (((nI 8) * p1) + p2).toNatClampNeg) + p3) → (∃ m, wlX7_print_57 a0 p1 p2 p3 post m (nI 1) (nI 0) S5)))))))) ∧ (x6 = 0 → (isK S5 a0 7 ∧ (wpX7_fails S5 a0 (nI 4) (fun x70 S68 => post x70 S68))))))) ∧ (x3 = 0 → (post (nI 0) S1))))
set_option maxHeartbeats 4000000 in
set_option maxRecDepth 100000 in
theorem meX7_print (l : Launch) (G : GT) (S : Mem) (a0 : Nat) (p1 : Int32) (p2 : Int32) (p3 : Int32) (post : Int32 → Mem → Prop) (hw : wpX7_print S a0 p1 p2 p3 post) : CN emI l yX7_print (wsU yX7_print cX7_print 6 (some .int)) rmX7_print 0 0 G [.ref a0, .int p1, .int p2, .int p3] S post := by
  refine cn_open RX7 rfl (by decide +kernel) (Nat.le_of_ble_eq_true rfl) ?_
  intro p e s m args below meth c A X h hr hin ls hl
  have hl : lv_has ls 6 [(0, .ref a0), (1, .int p1), (2, .int p2), (3, .int p3)] := hl
  have hx := X.1
  have hb := X.2.1
  have hown := X.2.2.2.1
  unfold wpX7_print at hw
  refine lv_aload_n hx hb dX7_print_0 rfl (lv_at hl 0 rfl) ?_
  refine lv_iload_n hx hb dX7_print_1 rfl (lv_at hl 1 rfl) ?_
  refine lv_iload_n hx hb dX7_print_2 rfl (lv_at hl 2 rfl) ?_
  obtain ⟨k2, hw⟩ := hw
  refine rc_V (As := [.int p1, .int p2]) (rest := []) X h k2 (by decide) rfl (meX7_isSheet l G _ _ _ _ _ hw) gV_X7_114 rfl rfl hdV_X7_isSheet rfl ⟨Nat.le_of_ble_eq_true rfl, Nat.le_of_ble_eq_true rfl⟩ hl.1 rfl (Nat.le_of_ble_eq_true rfl) ⟨Nat.le_of_ble_eq_true rfl, Nat.le_of_ble_eq_true rfl⟩ dX7_print_3 (fun x3 S1 H locs hw h => ?_)
  refine lv_if_ne (tgt := 11) hx hb dX7_print_6 (by decide) (fun c4 => ?_) (fun c4 => ?_)
  · have hw := hw.1 c4
    refine lv_iload_n hx hb dX7_print_11 rfl (lv_at hl 3 rfl) ?_
    refine lv_iconst (v := (nI 1)) hx hb dX7_print_12 (by decide) ?_
    refine lv_sipush (v := (nI 500)) hx hb dX7_print_13 (by decide) ?_
    refine rc_S (As := [.int p3, .int (nI 1), .int (nI 500)]) (rest := []) X h (meX7_in l G _ _ _ _ _ hw) gS_X7_60 rfl rfl hdS_X7_in rfl ⟨Nat.le_of_ble_eq_true rfl, Nat.le_of_ble_eq_true rfl⟩ hl.1 rfl (Nat.le_of_ble_eq_true rfl) ⟨Nat.le_of_ble_eq_true rfl, Nat.le_of_ble_eq_true rfl⟩ dX7_print_16 (fun x6 S5 H locs hw h => ?_)
    refine lv_if_ne (tgt := 28) hx hb dX7_print_19 (by decide) (fun c7 => ?_) (fun c7 => ?_)
    · have hw := hw.1 c7
      refine lv_aload_n hx hb dX7_print_28 rfl (lv_at hl 0 rfl) ?_
      obtain ⟨k8, hw⟩ := hw
      obtain ⟨o9, eo9, hw⟩ := hw
      refine r_getR X h k8 16 eo9  (by decide) rfl inX7 (by decide) rfl q864 rfl dX7_print_29 ?_
      refine lv_bipush (v := (nI 8)) hx hb dX7_print_32 (by decide) ?_
      refine lv_iload_n hx hb dX7_print_34 rfl (lv_at hl 1 rfl) ?_
      refine lv_imul hx hb dX7_print_35 ?_
      refine lv_iload_n hx hb dX7_print_36 rfl (lv_at hl 2 rfl) ?_
      refine lv_iadd hx hb dX7_print_37 ?_
      obtain ⟨k10, hw⟩ := hw
      obtain ⟨v11, hw⟩ := hw
      refine r_iald X h k10 v11 dX7_print_38 ?_
      refine lv_iload_n hx hb dX7_print_39 rfl (lv_at hl 3 rfl) ?_
      refine lv_iadd hx hb dX7_print_40 ?_
      refine lv_sipush (v := (nI 9999)) hx hb dX7_print_41 (by decide) ?_
      refine lv_icmp_gt (tgt := 51) hx hb dX7_print_44 (by decide) (fun c12 => ?_) (fun c12 => ?_)
      · have hw := hw.1 c12
        refine lv_iconst (v := (nI 0)) hx hb dX7_print_51 (by decide) ?_
        refine lv_istore (lv' := [(4, .int (nI 0)), (0, .ref a0), (1, .int p1), (2, .int p2), (3, .int p3)]) hx hb dX7_print_52 hl (by decide) rfl (fun ls hl => ?_)
        refine lv_iconst (v := (nI 0)) hx hb dX7_print_54 (by decide) ?_
        refine lv_istore (lv' := [(5, .int (nI 0)), (4, .int (nI 0)), (0, .ref a0), (1, .int p1), (2, .int p2), (3, .int p3)]) hx hb dX7_print_55 hl (by decide) rfl (fun ls hl => ?_)
        obtain ⟨n66, hw⟩ := hw
        exact llX7_print_57  X hr _ _ _ _ _ n66 _ _ _ hw _ _ _ h (lv_sub hl [2, 3, 4, 5, 1, 0] rfl)
      · have hw := hw.2 c12
        refine lv_iconst (v := (nI 1)) hx hb dX7_print_47 (by decide) ?_
        refine lv_goto (tgt := 52) hx hb dX7_print_48 (by decide) ?_
        refine lv_istore (lv' := [(4, .int (nI 1)), (0, .ref a0), (1, .int p1), (2, .int p2), (3, .int p3)]) hx hb dX7_print_52 hl (by decide) rfl (fun ls hl => ?_)
        refine lv_iconst (v := (nI 0)) hx hb dX7_print_54 (by decide) ?_
        refine lv_istore (lv' := [(5, .int (nI 0)), (4, .int (nI 1)), (0, .ref a0), (1, .int p1), (2, .int p2), (3, .int p3)]) hx hb dX7_print_55 hl (by decide) rfl (fun ls hl => ?_)
        obtain ⟨n67, hw⟩ := hw
        exact llX7_print_57  X hr _ _ _ _ _ n67 _ _ _ hw _ _ _ h (lv_sub hl [2, 3, 4, 5, 1, 0] rfl)
    · have hw := hw.2 c7
      refine lv_aload_n hx hb dX7_print_22 rfl (lv_at hl 0 rfl) ?_
      refine lv_iconst (v := (nI 4)) hx hb dX7_print_23 (by decide) ?_
      obtain ⟨k69, hw⟩ := hw
      refine rc_V (As := [.int (nI 4)]) (rest := []) X h k69 (by decide) rfl (meX7_fails l G _ _ _ _ hw) gV_X7_101 rfl rfl hdV_X7_fails rfl ⟨Nat.le_of_ble_eq_true rfl, Nat.le_of_ble_eq_true rfl⟩ hl.1 rfl (Nat.le_of_ble_eq_true rfl) ⟨Nat.le_of_ble_eq_true rfl, Nat.le_of_ble_eq_true rfl⟩ dX7_print_24 (fun x70 S68 H locs hw h => ?_)
      exact (en_i X h hr hw (Nat.le_of_ble_eq_true rfl) (Nat.le_of_ble_eq_true rfl) dX7_print_27)
  · have hw := hw.2 c4
    refine lv_iconst (v := (nI 0)) hx hb dX7_print_9 (by decide) ?_
    exact (en_i X h hr hw (Nat.le_of_ble_eq_true rfl) (Nat.le_of_ble_eq_true rfl) dX7_print_10)
