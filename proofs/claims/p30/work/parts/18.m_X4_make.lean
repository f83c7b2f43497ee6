abbrev rmX4_make : Room := { frames := 2, cells := 0, slots := 0, locals := 42 }
def wpX4_make (S : Mem) (a0 : Nat) (p1 : Int32) (post : Unit → Mem → Prop) : Prop := isK S a0 4 ∧ (wpX4_has S a0 p1 (fun x3 S1 => (¬ x3 = 0 → (post () S1)) ∧ (x3 = 0 → (isK S1 a0 4 ∧ (∃ o6, mR S1 a0 0 = some o6 ∧ (wpX6_put S1 o6 (p1 / (nI 10000)) p1 (fun u8 S7 => isK S7 a0 4 ∧ (∀ x10 : Int32, x10 = ((mI S7 a0 1) + (nI 1)) → (∀ S11 : Mem, S11 = (sI S7 a0 1 x10) → (post () S11))))))))))
set_option maxHeartbeats 4000000 in
set_option maxRecDepth 100000 in
theorem meX4_make (l : Launch) (G : GT) (S : Mem) (a0 : Nat) (p1 : Int32) (post : Unit → Mem → Prop) (hw : wpX4_make S a0 p1 post) : CN emV l yX4_make (wsU yX4_make cX4_make 2 none) rmX4_make 0 0 G [.ref a0, .int p1] S post := by
  refine cn_open RX4 rfl (by decide +kernel) (Nat.le_of_ble_eq_true rfl) ?_
  intro p e s m args below meth c A X h hr hin ls hl
  have hl : lv_has ls 2 [(0, .ref a0), (1, .int p1)] := hl
  have hx := X.1
  have hb := X.2.1
  have hown := X.2.2.2.1
  unfold wpX4_make at hw
  refine lv_aload_n hx hb dX4_make_0 rfl (lv_at hl 0 rfl) ?_
  refine lv_iload_n hx hb dX4_make_1 rfl (lv_at hl 1 rfl) ?_
  obtain ⟨k2, hw⟩ := hw
  refine rc_V (As := [.int p1]) (rest := []) X h k2 (by decide) rfl (meX4_has l G _ _ _ _ hw) gV_X4_19 rfl rfl hdV_X4_has rfl ⟨Nat.le_of_ble_eq_true rfl, Nat.le_of_ble_eq_true rfl⟩ hl.1 rfl (Nat.le_of_ble_eq_true rfl) ⟨Nat.le_of_ble_eq_true rfl, Nat.le_of_ble_eq_true rfl⟩ dX4_make_2 (fun x3 S1 H locs hw h => ?_)
  refine lv_if_ne (tgt := 31) hx hb dX4_make_5 (by decide) (fun c4 => ?_) (fun c4 => ?_)
  · have hw := hw.1 c4
    exact (en_v X h hr hw (Nat.le_of_ble_eq_true rfl) (Nat.le_of_ble_eq_true rfl) dX4_make_31)
  · have hw := hw.2 c4
    refine lv_aload_n hx hb dX4_make_8 rfl (lv_at hl 0 rfl) ?_
    obtain ⟨k5, hw⟩ := hw
    obtain ⟨o6, eo6, hw⟩ := hw
    refine r_getR X h k5 0 eo6  (by decide) rfl inX4 (by decide) rfl q91 rfl dX4_make_9 ?_
    refine lv_iload_n hx hb dX4_make_12 rfl (lv_at hl 1 rfl) ?_
    refine lv_sipush (v := (nI 10000)) hx hb dX4_make_13 (by decide) ?_
    refine lv_idiv hx hb dX4_make_16 (by decide) ?_
    refine lv_iload_n hx hb dX4_make_17 rfl (lv_at hl 1 rfl) ?_
    refine rc_SN (As := [.ref o6, .int (p1 / (nI 10000)), .int p1]) (rest := []) X h (meX6_put l G _ _ _ _ _ hw) gU_X4_23 q565 q14 q319 rfl rfl hdS_X6_put rfl ⟨Nat.le_of_ble_eq_true rfl, Nat.le_of_ble_eq_true rfl⟩ hl.1 rfl (Nat.le_of_ble_eq_true rfl) ⟨Nat.le_of_ble_eq_true rfl, Nat.le_of_ble_eq_true rfl⟩ dX4_make_18 (fun u8 S7 H locs hw h => ?_)
    refine lv_aload_n hx hb dX4_make_21 rfl (lv_at hl 0 rfl) ?_
    refine lv_dup hx hb dX4_make_22 rfl ?_
    obtain ⟨k9, hw⟩ := hw
    refine r_getI X h k9 1  (by decide) rfl inX4 (by decide) rfl q92 rfl dX4_make_23 ?_
    refine lv_iconst (v := (nI 1)) hx hb dX4_make_26 (by decide) ?_
    refine lv_iadd hx hb dX4_make_27 ?_
    refine lv_topi (fun x10 ex10 => ?_)
    have hw := hw x10 ex10
    refine r_putI X h k9 1 (by decide) rfl inX4 tyX4 tyX4_ok nmX4 (by decide) rfl (Nat.le_of_ble_eq_true rfl) q92 rfl rfl (tyX4_ok 1 (by decide)) rfl rfl dX4_make_28 (fun H locs h => ?_)
    obtain ⟨S11, eS11⟩ : ∃ z : Mem, z = (sI S7 a0 1 x10) := ⟨_, rfl⟩
    rw [← eS11] at h
    have hw := hw S11 eS11
    exact (en_v X h hr hw (Nat.le_of_ble_eq_true rfl) (Nat.le_of_ble_eq_true rfl) dX4_make_31)
abbrev rmX6_print : Room := { frames := 8, cells := 5, slots := 30, locals := 134 }
def wpX6_print (S : Mem) (a0 : Nat) (p1 : Int32) (p2 : Int32) (p3 : Int32) (post : Int32 → Mem → Prop) (px : Nat → Mem → Prop) : Prop := isK S a0 6 ∧ (wpX6_completeJob S a0 p1 (fun r3 S1 => ∃ o4, r3 = some o4 ∧ (wpX6_requireSheet S1 o4 p2 (fun u6 S5 => wpX6_requireCount S5 p3 (fun u8 S7 => isK S7 a0 6 ∧ (wpX6_isWhollyApproved S7 a0 o4 p2 (fun x11 S9 => (¬ x11 = 0 → (isK S9 o4 1 ∧ (wpX1_stockOf S9 o4 p2 (fun x15 S13 => ((x15 + p3) ≤ (nI 9999) → (isK S13 a0 6 ∧ (wpX6_plateFor S13 a0 o4 p2 (nI 0) (fun x19 S17 => isK S17 a0 6 ∧ (wpX6_plateFor S17 a0 o4 p2 (nI 1) (fun x22 S20 => isK S20 a0 6 ∧ (∃ o24, mR S20 a0 2 = some o24 ∧ (isK S20 o4 1 ∧ (isK S20 o24 5 ∧ (wpX5_minutesFor S20 o24 x19 x22 (mI S20 o4 0) (fun x28 S26 => isK S26 a0 6 ∧ (∃ o30, mR S26 a0 2 = some o30 ∧ (isK S26 o4 1 ∧ (isK S26 o30 5 ∧ (wpX5_mount S26 o30 x19 x22 (mI S26 o4 0) (fun u34 S32 => isK S32 a0 6 ∧ (∃ o36, mR S32 a0 3 = some o36 ∧ (isK S32 o36 4 ∧ (wpX4_make S32 o36 x19 (fun u39 S37 => isK S37 a0 6 ∧ (∃ o41, mR S37 a0 3 = some o41 ∧ (isK S37 o41 4 ∧ (wpX4_make S37 o41 x22 (fun u44 S42 => isK S42 o4 1 ∧ (wpX1_addToStock S42 o4 p2 p3 (fun u47 S45 => isK S45 a0 6 ∧ (∀ S49 : Mem, S49 = (sJ S45 a0 9 ((mJ S45 a0 9) + p3.toInt64)) → (∀ S50 : Mem, S50 = (sJ S49 a0 10 ((mJ S49 a0 10) + (1 : Int64))) → (∀ S51 : Mem, S51 = (sJ S50 a0 11 ((mJ S50 a0 11) + x28.toInt64)) → (post x28 S51)))))))))))))))))))))))))))))) ∧ (¬ (x15 + p3) ≤ (nI 9999) → (px 5 S13)))))) ∧ (x11 = 0 → (px 5 S9))))) px) px)) px)
set_option maxHeartbeats 4000000 in
set_option maxRecDepth 100000 in
theorem meX6_print (l : Launch) (hl9 : l.stackTraces = false) (G : GT) (S : Mem) (a0 : Nat) (p1 : Int32) (p2 : Int32) (p3 : Int32) (post : Int32 → Mem → Prop) (px : Nat → Mem → Prop) (hw : wpX6_print S a0 p1 p2 p3 post px) : CX emI l yX6_print (wsU yX6_print cX6_print 8 (some .int)) rmX6_print 5 30 G [.ref a0, .int p1, .int p2, .int p3] S post px := by
  refine cx_open RX6 rfl (by decide +kernel) (Nat.le_of_ble_eq_true rfl) ?_
  intro p e s m args below meth c A X h hr hno ls hl
  have hl : lv_has ls 8 [(0, .ref a0), (1, .int p1), (2, .int p2), (3, .int p3)] := hl
  have hx := X.1
  have hb := X.2.1
  have hown := X.2.2.2.1
  unfold wpX6_print at hw
  refine lv_aload_n hx hb dX6_print_0 rfl (lv_at hl 0 rfl) ?_
  refine lv_iload_n hx hb dX6_print_1 rfl (lv_at hl 1 rfl) ?_
  obtain ⟨k2, hw⟩ := hw
  refine rx_V (As := [.int p1]) (rest := []) X h hno k2 (by decide) rfl (meX6_completeJob l hl9 G _ _ _ _ _ hw) gV_X6_121 rfl rfl hdV_X6_completeJob rfl ⟨Nat.le_of_ble_eq_true rfl, Nat.le_of_ble_eq_true rfl⟩ hl.1 rfl (Nat.le_of_ble_eq_true rfl) ⟨Nat.le_of_ble_eq_true rfl, Nat.le_of_ble_eq_true rfl⟩ ⟨Nat.le_of_ble_eq_true rfl, Nat.le_of_ble_eq_true rfl⟩ dX6_print_2 (fun r3 S1 H locs hw h => ?_)
  obtain ⟨o4, rfl, hw⟩ := hw
  refine lv_astore (lv' := [(4, .ref o4), (0, .ref a0), (1, .int p1), (2, .int p2), (3, .int p3)]) hx hb dX6_print_5 hl (by decide) rfl (fun ls hl => ?_)
  refine lv_aload hx hb dX6_print_7 (lv_at hl 0 rfl) ?_
  refine lv_iload_n hx hb dX6_print_9 rfl (lv_at hl 3 rfl) ?_
  refine rx_S (As := [.ref o4, .int p2]) (rest := []) X h hno (meX6_requireSheet l hl9 G _ _ _ _ _ hw) gS_X6_127 rfl rfl hdS_X6_requireSheet rfl ⟨Nat.le_of_ble_eq_true rfl, Nat.le_of_ble_eq_true rfl⟩ hl.1 rfl (Nat.le_of_ble_eq_true rfl) ⟨Nat.le_of_ble_eq_true rfl, Nat.le_of_ble_eq_true rfl⟩ ⟨Nat.le_of_ble_eq_true rfl, Nat.le_of_ble_eq_true rfl⟩ dX6_print_10 (fun u6 S5 H locs hw h => ?_)
  refine lv_iload_n hx hb dX6_print_13 rfl (lv_at hl 4 rfl) ?_
  refine rx_S (As := [.int p3]) (rest := []) X h hno (meX6_requireCount l hl9 G _ _ _ _ hw) gS_X6_148 rfl rfl hdS_X6_requireCount rfl ⟨Nat.le_of_ble_eq_true rfl, Nat.le_of_ble_eq_true rfl⟩ hl.1 rfl (Nat.le_of_ble_eq_true rfl) ⟨Nat.le_of_ble_eq_true rfl, Nat.le_of_ble_eq_true rfl⟩ ⟨Nat.le_of_ble_eq_true rfl, Nat.le_of_ble_eq_true rfl⟩ dX6_print_14 (fun u8 S7 H locs hw h => ?_)
  refine lv_aload_n hx hb dX6_print_17 rfl (lv_at hl 1 rfl) ?_
  refine lv_aload hx hb dX6_print_18 (lv_at hl 0 rfl) ?_
  refine lv_iload_n hx hb dX6_print_20 rfl (lv_at hl 3 rfl) ?_
  obtain ⟨k10, hw⟩ := hw
  refine rc_V (As := [.ref o4, .int p2]) (rest := []) X h k10 (by decide) rfl (meX6_isWhollyApproved l G _ _ _ _ _ hw) gV_X6_151 rfl rfl hdV_X6_isWhollyApproved rfl ⟨Nat.le_of_ble_eq_true rfl, Nat.le_of_ble_eq_true rfl⟩ hl.1 rfl (Nat.le_of_ble_eq_true rfl) ⟨Nat.le_of_ble_eq_true rfl, Nat.le_of_ble_eq_true rfl⟩ dX6_print_21 (fun x11 S9 H locs hw h => ?_)
  refine lv_if_ne (tgt := 37) hx hb dX6_print_24 (by decide) (fun c12 => ?_) (fun c12 => ?_)
  · have hw := hw.1 c12
    refine lv_aload hx hb dX6_print_37 (lv_at hl 0 rfl) ?_
    refine lv_iload_n hx hb dX6_print_39 rfl (lv_at hl 3 rfl) ?_
    obtain ⟨k14, hw⟩ := hw
    refine rc_V (As := [.int p2]) (rest := []) X h k14 (by decide) rfl (meX1_stockOf l G _ _ _ _ hw) gV_X6_160 rfl rfl hdV_X1_stockOf rfl ⟨Nat.le_of_ble_eq_true rfl, Nat.le_of_ble_eq_true rfl⟩ hl.1 rfl (Nat.le_of_ble_eq_true rfl) ⟨Nat.le_of_ble_eq_true rfl, Nat.le_of_ble_eq_true rfl⟩ dX6_print_40 (fun x15 S13 H locs hw h => ?_)
    refine lv_iload_n hx hb dX6_print_43 rfl (lv_at hl 4 rfl) ?_
    refine lv_iadd hx hb dX6_print_44 ?_
    refine lv_sipush (v := (nI 9999)) hx hb dX6_print_45 (by decide) ?_
    refine lv_icmp_le (tgt := 61) hx hb dX6_print_48 (by decide) (fun c16 => ?_) (fun c16 => ?_)
    · have hw := hw.1 c16
      refine lv_aload_n hx hb dX6_print_61 rfl (lv_at hl 1 rfl) ?_
      refine lv_aload hx hb dX6_print_62 (lv_at hl 0 rfl) ?_
      refine lv_iload_n hx hb dX6_print_64 rfl (lv_at hl 3 rfl) ?_
      refine lv_iconst (v := (nI 0)) hx hb dX6_print_65 (by decide) ?_
      obtain ⟨k18, hw⟩ := hw
      refine rc_V (As := [.ref o4, .int p2, .int (nI 0)]) (rest := []) X h k18 (by decide) rfl (meX6_plateFor l G _ _ _ _ _ _ hw) gV_X6_165 rfl rfl hdV_X6_plateFor rfl ⟨Nat.le_of_ble_eq_true rfl, Nat.le_of_ble_eq_true rfl⟩ hl.1 rfl (Nat.le_of_ble_eq_true rfl) ⟨Nat.le_of_ble_eq_true rfl, Nat.le_of_ble_eq_true rfl⟩ dX6_print_66 (fun x19 S17 H locs hw h => ?_)
      refine lv_istore (lv' := [(5, .int x19), (4, .ref o4), (0, .ref a0), (1, .int p1), (2, .int p2), (3, .int p3)]) hx hb dX6_print_69 hl (by decide) rfl (fun ls hl => ?_)
      refine lv_aload_n hx hb dX6_print_71 rfl (lv_at hl 2 rfl) ?_
      refine lv_aload hx hb dX6_print_72 (lv_at hl 1 rfl) ?_
      refine lv_iload_n hx hb dX6_print_74 rfl (lv_at hl 4 rfl) ?_
      refine lv_iconst (v := (nI 1)) hx hb dX6_print_75 (by decide) ?_
      obtain ⟨k21, hw⟩ := hw
      refine rc_V (As := [.ref o4, .int p2, .int (nI 1)]) (rest := []) X h k21 (by decide) rfl (meX6_plateFor l G _ _ _ _ _ _ hw) gV_X6_165 rfl rfl hdV_X6_plateFor rfl ⟨Nat.le_of_ble_eq_true rfl, Nat.le_of_ble_eq_true rfl⟩ hl.1 rfl (Nat.le_of_ble_eq_true rfl) ⟨Nat.le_of_ble_eq_true rfl, Nat.le_of_ble_eq_true rfl⟩ dX6_print_76 (fun x22 S20 H locs hw h => ?_)
      refine lv_istore (lv' := [(6, .int x22), (5, .int x19), (4, .ref o4), (0, .ref a0), (1, .int p1), (2, .int p2), (3, .int p3)]) hx hb dX6_print_79 hl (by decide) rfl (fun ls hl => ?_)
      refine lv_aload_n hx hb dX6_print_81 rfl (lv_at hl 3 rfl) ?_
      obtain ⟨k23, hw⟩ := hw
      obtain ⟨o24, eo24, hw⟩ := hw
      refine r_getR X h k23 2 eo24  (by decide) rfl inX6 (by decide) rfl q122 rfl dX6_print_82 ?_
      refine lv_iload hx hb dX6_print_85 (lv_at hl 1 rfl) ?_
      refine lv_iload hx hb dX6_print_87 (lv_at hl 0 rfl) ?_
      refine lv_aload hx hb dX6_print_89 (lv_at hl 2 rfl) ?_
      obtain ⟨k25, hw⟩ := hw
      refine r_getIN X h k25 0  (by decide) rfl inX1 (by decide) rfl q415 rfl dX6_print_91 ?_
      obtain ⟨k27, hw⟩ := hw
      refine rc_V (As := [.int x19, .int x22, .int (mI S20 o4 0)]) (rest := []) X h k27 (by decide) rfl (meX5_minutesFor l G _ _ _ _ _ _ hw) gV_X6_173 rfl rfl hdV_X5_minutesFor rfl ⟨Nat.le_of_ble_eq_true rfl, Nat.le_of_ble_eq_true rfl⟩ hl.1 rfl (Nat.le_of_ble_eq_true rfl) ⟨Nat.le_of_ble_eq_true rfl, Nat.le_of_ble_eq_true rfl⟩ dX6_print_94 (fun x28 S26 H locs hw h => ?_)
      refine lv_istore (lv' := [(7, .int x28), (6, .int x22), (5, .int x19), (4, .ref o4), (0, .ref a0), (1, .int p1), (2, .int p2), (3, .int p3)]) hx hb dX6_print_97 hl (by decide) rfl (fun ls hl => ?_)
      refine lv_aload_n hx hb dX6_print_99 rfl (lv_at hl 4 rfl) ?_
      obtain ⟨k29, hw⟩ := hw
      obtain ⟨o30, eo30, hw⟩ := hw
      refine r_getR X h k29 2 eo30  (by decide) rfl inX6 (by decide) rfl q122 rfl dX6_print_100 ?_
      refine lv_iload hx hb dX6_print_103 (lv_at hl 2 rfl) ?_
      refine lv_iload hx hb dX6_print_105 (lv_at hl 1 rfl) ?_
      refine lv_aload hx hb dX6_print_107 (lv_at hl 3 rfl) ?_
      obtain ⟨k31, hw⟩ := hw
      refine r_getIN X h k31 0  (by decide) rfl inX1 (by decide) rfl q415 rfl dX6_print_109 ?_
      obtain ⟨k33, hw⟩ := hw
      refine rc_V (As := [.int x19, .int x22, .int (mI S26 o4 0)]) (rest := []) X h k33 (by decide) rfl (meX5_mount l G _ _ _ _ _ _ hw) gV_X6_177 rfl rfl hdV_X5_mount rfl ⟨Nat.le_of_ble_eq_true rfl, Nat.le_of_ble_eq_true rfl⟩ hl.1 rfl (Nat.le_of_ble_eq_true rfl) ⟨Nat.le_of_ble_eq_true rfl, Nat.le_of_ble_eq_true rfl⟩ dX6_print_112 (fun u34 S32 H locs hw h => ?_)
      refine lv_aload_n hx hb dX6_print_115 rfl (lv_at hl 4 rfl) ?_
      obtain ⟨k35, hw⟩ := hw
      obtain ⟨o36, eo36, hw⟩ := hw
      refine r_getR X h k35 3 eo36  (by decide) rfl inX6 (by decide) rfl q123 rfl dX6_print_116 ?_
      refine lv_iload hx hb dX6_print_119 (lv_at hl 2 rfl) ?_
      obtain ⟨k38, hw⟩ := hw
      refine rc_V (As := [.int x19]) (rest := []) X h k38 (by decide) rfl (meX4_make l G _ _ _ _ hw) gV_X6_181 rfl rfl hdV_X4_make rfl ⟨Nat.le_of_ble_eq_true rfl, Nat.le_of_ble_eq_true rfl⟩ hl.1 rfl (Nat.le_of_ble_eq_true rfl) ⟨Nat.le_of_ble_eq_true rfl, Nat.le_of_ble_eq_true rfl⟩ dX6_print_121 (fun u39 S37 H locs hw h => ?_)
      refine lv_aload_n hx hb dX6_print_124 rfl (lv_at hl 4 rfl) ?_
      obtain ⟨k40, hw⟩ := hw
      obtain ⟨o41, eo41, hw⟩ := hw
      refine r_getR X h k40 3 eo41  (by decide) rfl inX6 (by decide) rfl q123 rfl dX6_print_125 ?_
      refine lv_iload hx hb dX6_print_128 (lv_at hl 1 rfl) ?_
      obtain ⟨k43, hw⟩ := hw
      refine rc_V (As := [.int x22]) (rest := []) X h k43 (by decide) rfl (meX4_make l G _ _ _ _ hw) gV_X6_181 rfl rfl hdV_X4_make rfl ⟨Nat.le_of_ble_eq_true rfl, Nat.le_of_ble_eq_true rfl⟩ hl.1 rfl (Nat.le_of_ble_eq_true rfl) ⟨Nat.le_of_ble_eq_true rfl, Nat.le_of_ble_eq_true rfl⟩ dX6_print_130 (fun u44 S42 H locs hw h => ?_)
      refine lv_aload hx hb dX6_print_133 (lv_at hl 3 rfl) ?_
      refine lv_iload_n hx hb dX6_print_135 rfl (lv_at hl 6 rfl) ?_
      refine lv_iload_n hx hb dX6_print_136 rfl (lv_at hl 7 rfl) ?_
      obtain ⟨k46, hw⟩ := hw
      refine rc_V (As := [.int p2, .int p3]) (rest := []) X h k46 (by decide) rfl (meX1_addToStock l G _ _ _ _ _ hw) gV_X6_184 rfl rfl hdV_X1_addToStock rfl ⟨Nat.le_of_ble_eq_true rfl, Nat.le_of_ble_eq_true rfl⟩ hl.1 rfl (Nat.le_of_ble_eq_true rfl) ⟨Nat.le_of_ble_eq_true rfl, Nat.le_of_ble_eq_true rfl⟩ dX6_print_137 (fun u47 S45 H locs hw h => ?_)
      refine lv_aload_n hx hb dX6_print_140 rfl (lv_at hl 4 rfl) ?_
      refine lv_dup hx hb dX6_print_141 rfl ?_
      obtain ⟨k48, hw⟩ := hw
      refine r_getJ X h k48 9  (by decide) rfl inX6 (by decide) rfl q129 rfl dX6_print_142 ?_
      refine lv_iload_n hx hb dX6_print_145 rfl (lv_at hl 7 rfl) ?_
      refine lv_i2l (v := p3.toInt64) hx hb dX6_print_146 rfl ?_
      refine lv_ladd hx hb dX6_print_147 ?_
      refine r_putJ X h k48 9 (by decide) rfl inX6 tyX6 tyX6_ok nmX6 (by decide) rfl (Nat.le_of_ble_eq_true rfl) q129 rfl rfl (tyX6_ok 9 (by decide)) rfl rfl dX6_print_148 (fun H locs h => ?_)
      obtain ⟨S49, eS49⟩ : ∃ z : Mem, z = (sJ S45 a0 9 ((mJ S45 a0 9) + p3.toInt64)) := ⟨_, rfl⟩
      rw [← eS49] at h
      have hw := hw S49 eS49
      refine lv_aload_n hx hb dX6_print_151 rfl (lv_at hl 4 rfl) ?_
      refine lv_dup hx hb dX6_print_152 rfl ?_
      refine r_getJ X h (kJ eS49 k48) 10  (by decide) rfl inX6 (by decide) rfl q130 rfl dX6_print_153 ?_
      refine lv_lconst (v := 1) hx hb dX6_print_156 (by decide) ?_
      refine lv_ladd hx hb dX6_print_157 ?_
      refine r_putJ X h (kJ eS49 k48) 10 (by decide) rfl inX6 tyX6 tyX6_ok nmX6 (by decide) rfl (Nat.le_of_ble_eq_true rfl) q130 rfl rfl (tyX6_ok 10 (by decide)) rfl rfl dX6_print_158 (fun H locs h => ?_)
      obtain ⟨S50, eS50⟩ : ∃ z : Mem, z = (sJ S49 a0 10 ((mJ S49 a0 10) + (1 : Int64))) := ⟨_, rfl⟩
      rw [← eS50] at h
      have hw := hw S50 eS50
      refine lv_aload_n hx hb dX6_print_161 rfl (lv_at hl 4 rfl) ?_
      refine lv_dup hx hb dX6_print_162 rfl ?_
      refine r_getJ X h (kJ eS50 (kJ eS49 k48)) 11  (by decide) rfl inX6 (by decide) rfl q131 rfl dX6_print_163 ?_
      refine lv_iload hx hb dX6_print_166 (lv_at hl 0 rfl) ?_
      refine lv_i2l (v := x28.toInt64) hx hb dX6_print_168 rfl ?_
      refine lv_ladd hx hb dX6_print_169 ?_
      refine r_putJ X h (kJ eS50 (kJ eS49 k48)) 11 (by decide) rfl inX6 tyX6 tyX6_ok nmX6 (by decide) rfl (Nat.le_of_ble_eq_true rfl) q131 rfl rfl (tyX6_ok 11 (by decide)) rfl rfl dX6_print_170 (fun H locs h => ?_)
      obtain ⟨S51, eS51⟩ : ∃ z : Mem, z = (sJ S50 a0 11 ((mJ S50 a0 11) + x28.toInt64)) := ⟨_, rfl⟩
      rw [← eS51] at h
      have hw := hw S51 eS51
      refine lv_iload hx hb dX6_print_173 (lv_at hl 0 rfl) ?_
      exact vx_ret (en_i X h hr hw (Nat.le_of_ble_eq_true rfl) (Nat.le_of_ble_eq_true rfl) dX6_print_175)
    · have hw := hw.2 c16
      exact en_x 5 X h hl9 th_X6_163 hl.1 hno dX6_print_51 dX6_print_54 dX6_print_55 dX6_print_57 dX6_print_60 ⟨Nat.le_of_ble_eq_true rfl, Nat.le_of_ble_eq_true rfl⟩ ⟨Nat.le_of_ble_eq_true rfl, Nat.le_of_ble_eq_true rfl⟩ ⟨Nat.le_of_ble_eq_true rfl, Nat.le_of_ble_eq_true rfl⟩ hw
  · have hw := hw.2 c12
    exact en_x 5 X h hl9 th_X6_157 hl.1 hno dX6_print_27 dX6_print_30 dX6_print_31 dX6_print_33 dX6_print_36 ⟨Nat.le_of_ble_eq_true rfl, Nat.le_of_ble_eq_true rfl⟩ ⟨Nat.le_of_ble_eq_true rfl, Nat.le_of_ble_eq_true rfl⟩ ⟨Nat.le_of_ble_eq_true rfl, Nat.le_of_ble_eq_true rfl⟩ hw
abbrev rmL_print : Room := { frames := 9, cells := 5, slots := 30, locals := 161 }
def wpL_print (S : Mem) (a0 : Nat) (p1 : Int32) (p2 : Int32) (p3 : Int32) (post : Int32 → Mem → Prop) : Prop := isK S a0 6 ∧ (wpX6_print S a0 p1 p2 p3 (fun x3 S1 => post x3 S1) (fun k4 S5 => (k4 = 1 → (post (-77 : Int32) S5)) ∧ (k4 = 2 → (post (-79 : Int32) S5)) ∧ (k4 = 3 → (post (-75 : Int32) S5)) ∧ (k4 = 4 → (post (-78 : Int32) S5)) ∧ (k4 = 5 → (post (-76 : Int32) S5)) ∧ (k4 = 1 ∨ k4 = 2 ∨ k4 = 3 ∨ k4 = 4 ∨ k4 = 5)))
set_option maxHeartbeats 4000000 in
set_option maxRecDepth 100000 in
theorem meL_print (l : Launch) (hl9 : l.stackTraces = false) (G : GT) (S : Mem) (a0 : Nat) (p1 : Int32) (p2 : Int32) (p3 : Int32) (post : Int32 → Mem → Prop) (hw : wpL_print S a0 p1 p2 p3 post) : CN emI l yL_print (wsH yL_print cL_print 5 (some .int) [(0, 7, 8, 26), (0, 7, 13, 20), (0, 7, 18, 55), (0, 7, 23, 39), (0, 7, 28, 63)]) rmL_print 5 30 G [.ref a0, .int p1, .int p2, .int p3] S post := by
  refine ch_open RL rfl (by decide +kernel) (Nat.le_of_ble_eq_true rfl) ?_
  intro p e s m args below meth c A X h hr hTab ls hl
  have hl : lv_has ls 5 [(0, .ref a0), (1, .int p1), (2, .int p2), (3, .int p3)] := hl
  have hx := X.1
  have hb := X.2.1
  have hown := X.2.2.2.1
  unfold wpL_print at hw
  refine lv_aload_n hx hb dL_print_0 rfl (lv_at hl 0 rfl) ?_
  refine lv_iload_n hx hb dL_print_1 rfl (lv_at hl 1 rfl) ?_
  refine lv_iload_n hx hb dL_print_2 rfl (lv_at hl 2 rfl) ?_
  refine lv_iload_n hx hb dL_print_3 rfl (lv_at hl 3 rfl) ?_
  obtain ⟨k2, hw⟩ := hw
  refine rx_VH (As := [.int p1, .int p2, .int p3]) (rest := []) X h k2 (by decide) rfl (meX6_print l hl9 G _ _ _ _ _ _ _ hw) gV_L_60 rfl rfl hdV_X6_print rfl ⟨Nat.le_of_ble_eq_true rfl, Nat.le_of_ble_eq_true rfl⟩ hl.1 rfl (Nat.le_of_ble_eq_true rfl) ⟨Nat.le_of_ble_eq_true rfl, Nat.le_of_ble_eq_true rfl⟩ dL_print_4 (fun k4 S5 H locs q9 ce hw h hce hcv hcl => ?_) (fun x3 S1 H locs hw h => ?_)
  · rcases hw.2.2.2.2.2 with hk9 | hk9 | hk9 | hk9 | hk9
    · subst hk9
      have hw := hw.1 rfl
      refine vx_catch (own := RL) (name := "java/lang/IndexOutOfBoundsException") (E := xn 1) hown [] ⟨0, 7, 8, 26⟩ [⟨0, 7, 13, 20⟩, ⟨0, 7, 18, 55⟩, ⟨0, 7, 23, 39⟩, ⟨0, 7, 28, 63⟩] (by rw [hTab]; rfl) (fun z hz => nomatch hz) (by decide) (by decide) (X.hts q262) (va_Nw.use (by rfl) (X.nw q296)) hce hcv hcl ?_
      refine lv_astore (lv' := [(4, .ref q9), (0, .ref a0), (1, .int p1), (2, .int p2), (3, .int p3)]) hx hb dL_print_8 hl (by decide) rfl (fun ls hl => ?_)
      refine lv_bipush (v := (-77 : Int32)) hx hb dL_print_10 (by decide) ?_
      exact (en_i X h hr hw (Nat.le_of_ble_eq_true rfl) (Nat.le_of_ble_eq_true rfl) dL_print_12)
    · subst hk9
      have hw := hw.2.1 rfl
      have hpass2 : ∀ z ∈ ([⟨0, 7, 8, 26⟩] : List ExceptionTableEntry), covers z 4 = false ∨ (z.catchType ≠ 0 ∧ ∃ nm : String, (Cond.classLink RL z.catchType nm).before args s = true ∧ va_Nc (xn 2) nm s) := by
        intro z hz
        rcases List.mem_cons.mp hz with rfl | hz
        · exact Or.inr ⟨by decide, "java/lang/IndexOutOfBoundsException", X.hts q262, X.2.2.2.2.2.2.1.2.2.2.2.1 ("java/lang/IllegalStateException", "java/lang/IndexOutOfBoundsException") (by decide +kernel)⟩
        cases hz
      refine vx_catch (own := RL) (name := "java/lang/IllegalStateException") (E := xn 2) hown [⟨0, 7, 8, 26⟩] ⟨0, 7, 13, 20⟩ [⟨0, 7, 18, 55⟩, ⟨0, 7, 23, 39⟩, ⟨0, 7, 28, 63⟩] (by rw [hTab]; rfl) (hpass2) (by decide) (by decide) (X.hts q179) (va_Nw.use (by rfl) (X.nw q186)) hce hcv hcl ?_
      refine lv_astore (lv' := [(4, .ref q9), (0, .ref a0), (1, .int p1), (2, .int p2), (3, .int p3)]) hx hb dL_print_13 hl (by decide) rfl (fun ls hl => ?_)
      refine lv_bipush (v := (-79 : Int32)) hx hb dL_print_15 (by decide) ?_
      exact (en_i X h hr hw (Nat.le_of_ble_eq_true rfl) (Nat.le_of_ble_eq_true rfl) dL_print_17)
    · subst hk9
      have hw := hw.2.2.1 rfl
      have hpass3 : ∀ z ∈ ([⟨0, 7, 8, 26⟩, ⟨0, 7, 13, 20⟩] : List ExceptionTableEntry), covers z 4 = false ∨ (z.catchType ≠ 0 ∧ ∃ nm : String, (Cond.classLink RL z.catchType nm).before args s = true ∧ va_Nc (xn 3) nm s) := by
        intro z hz
        rcases List.mem_cons.mp hz with rfl | hz
        · exact Or.inr ⟨by decide, "java/lang/IndexOutOfBoundsException", X.hts q262, X.2.2.2.2.2.2.1.2.2.2.2.1 ("java/util/NoSuchElementException", "java/lang/IndexOutOfBoundsException") (by decide +kernel)⟩
        rcases List.mem_cons.mp hz with rfl | hz
        · exact Or.inr ⟨by decide, "java/lang/IllegalStateException", X.hts q179, X.2.2.2.2.2.2.1.2.2.2.2.1 ("java/util/NoSuchElementException", "java/lang/IllegalStateException") (by decide +kernel)⟩
        cases hz
      refine vx_catch (own := RL) (name := "java/util/NoSuchElementException") (E := xn 3) hown [⟨0, 7, 8, 26⟩, ⟨0, 7, 13, 20⟩] ⟨0, 7, 18, 55⟩ [⟨0, 7, 23, 39⟩, ⟨0, 7, 28, 63⟩] (by rw [hTab]; rfl) (hpass3) (by decide) (by decide) (X.hts q480) (va_Nw.use (by rfl) (X.nw q491)) hce hcv hcl ?_
      refine lv_astore (lv' := [(4, .ref q9), (0, .ref a0), (1, .int p1), (2, .int p2), (3, .int p3)]) hx hb dL_print_18 hl (by decide) rfl (fun ls hl => ?_)
      refine lv_bipush (v := (-75 : Int32)) hx hb dL_print_20 (by decide) ?_
      exact (en_i X h hr hw (Nat.le_of_ble_eq_true rfl) (Nat.le_of_ble_eq_true rfl) dL_print_22)
    · subst hk9
      have hw := hw.2.2.2.1 rfl
      have hpass4 : ∀ z ∈ ([⟨0, 7, 8, 26⟩, ⟨0, 7, 13, 20⟩, ⟨0, 7, 18, 55⟩] : List ExceptionTableEntry), covers z 4 = false ∨ (z.catchType ≠ 0 ∧ ∃ nm : String, (Cond.classLink RL z.catchType nm).before args s = true ∧ va_Nc (xn 4) nm s) := by
        intro z hz
        rcases List.mem_cons.mp hz with rfl | hz
        · exact Or.inr ⟨by decide, "java/lang/IndexOutOfBoundsException", X.hts q262, X.2.2.2.2.2.2.1.2.2.2.2.1 ("java/lang/IllegalArgumentException", "java/lang/IndexOutOfBoundsException") (by decide +kernel)⟩
        rcases List.mem_cons.mp hz with rfl | hz
        · exact Or.inr ⟨by decide, "java/lang/IllegalStateException", X.hts q179, X.2.2.2.2.2.2.1.2.2.2.2.1 ("java/lang/IllegalArgumentException", "java/lang/IllegalStateException") (by decide +kernel)⟩
        rcases List.mem_cons.mp hz with rfl | hz
        · exact Or.inr ⟨by decide, "java/util/NoSuchElementException", X.hts q480, X.2.2.2.2.2.2.1.2.2.2.2.1 ("java/lang/IllegalArgumentException", "java/util/NoSuchElementException") (by decide +kernel)⟩
        cases hz
      refine vx_catch (own := RL) (name := "java/lang/IllegalArgumentException") (E := xn 4) hown [⟨0, 7, 8, 26⟩, ⟨0, 7, 13, 20⟩, ⟨0, 7, 18, 55⟩] ⟨0, 7, 23, 39⟩ [⟨0, 7, 28, 63⟩] (by rw [hTab]; rfl) (hpass4) (by decide) (by decide) (X.hts q387) (va_Nw.use (by rfl) (X.nw q394)) hce hcv hcl ?_
      refine lv_astore (lv' := [(4, .ref q9), (0, .ref a0), (1, .int p1), (2, .int p2), (3, .int p3)]) hx hb dL_print_23 hl (by decide) rfl (fun ls hl => ?_)
      refine lv_bipush (v := (-78 : Int32)) hx hb dL_print_25 (by decide) ?_
      exact (en_i X h hr hw (Nat.le_of_ble_eq_true rfl) (Nat.le_of_ble_eq_true rfl) dL_print_27)
    · subst hk9
      have hw := hw.2.2.2.2.1 rfl
      have hpass5 : ∀ z ∈ ([⟨0, 7, 8, 26⟩, ⟨0, 7, 13, 20⟩, ⟨0, 7, 18, 55⟩, ⟨0, 7, 23, 39⟩] : List ExceptionTableEntry), covers z 4 = false ∨ (z.catchType ≠ 0 ∧ ∃ nm : String, (Cond.classLink RL z.catchType nm).before args s = true ∧ va_Nc (xn 5) nm s) := by
        intro z hz
        rcases List.mem_cons.mp hz with rfl | hz
        · exact Or.inr ⟨by decide, "java/lang/IndexOutOfBoundsException", X.hts q262, X.2.2.2.2.2.2.1.2.2.2.2.1 ("java/lang/UnsupportedOperationException", "java/lang/IndexOutOfBoundsException") (by decide +kernel)⟩
        rcases List.mem_cons.mp hz with rfl | hz
        · exact Or.inr ⟨by decide, "java/lang/IllegalStateException", X.hts q179, X.2.2.2.2.2.2.1.2.2.2.2.1 ("java/lang/UnsupportedOperationException", "java/lang/IllegalStateException") (by decide +kernel)⟩
        rcases List.mem_cons.mp hz with rfl | hz
        · exact Or.inr ⟨by decide, "java/util/NoSuchElementException", X.hts q480, X.2.2.2.2.2.2.1.2.2.2.2.1 ("java/lang/UnsupportedOperationException", "java/util/NoSuchElementException") (by decide +kernel)⟩
        rcases List.mem_cons.mp hz with rfl | hz
        · exact Or.inr ⟨by decide, "java/lang/IllegalArgumentException", X.hts q387, X.2.2.2.2.2.2.1.2.2.2.2.1 ("java/lang/UnsupportedOperationException", "java/lang/IllegalArgumentException") (by decide +kernel)⟩
        cases hz
      refine vx_catch (own := RL) (name := "java/lang/UnsupportedOperationException") (E := xn 5) hown [⟨0, 7, 8, 26⟩, ⟨0, 7, 13, 20⟩, ⟨0, 7, 18, 55⟩, ⟨0, 7, 23, 39⟩] ⟨0, 7, 28, 63⟩ [] (by rw [hTab]; rfl) (hpass5) (by decide) (by decide) (X.hts q481) (va_Nw.use (by rfl) (X.nw q517)) hce hcv hcl ?_
      refine lv_astore (lv' := [(4, .ref q9), (0, .ref a0), (1, .int p1), (2, .int p2), (3, .int p3)]) hx hb dL_print_28 hl (by decide) rfl (fun ls hl => ?_)
      refine lv_bipush (v := (-76 : Int32)) hx hb dL_print_30 (by decide) ?_
      exact (en_i X h hr hw (Nat.le_of_ble_eq_true rfl) (Nat.le_of_ble_eq_true rfl) dL_print_32)
  · exact (en_i X h hr hw (Nat.le_of_ble_eq_true rfl) (Nat.le_of_ble_eq_true rfl) dL_print_7)
