abbrev rmX7_isJob : Room := { frames := 2, cells := 0, slots := 0, locals := 42 }
def wpX7_isJob (S : Mem) (a0 : Nat) (p1 : Int32) (post : Int32 → Mem → Prop) : Prop := isK S a0 7 ∧ (wpX7_in S p1 (nI 0) ((mI S a0 2) - (nI 1)) (fun x3 S2 => (¬ x3 = 0 → (isK S2 a0 7 ∧ (wpX7_isWhole S2 a0 p1 (fun x7 S5 => (x7 = 0 → (isK S5 a0 7 ∧ (∀ S10 : Mem, S10 = (sI S5 a0 0 (nI 2)) → ((¬ (mI S10 a0 0) = 0 → (vz_nar (nI 0) ∧ (post (nI 0) S10))) ∧ ((mI S10 a0 0) = 0 → (vz_nar (nI 1) ∧ (post (nI 1) S10))))))) ∧ (¬ x7 = 0 → (isK S5 a0 7 ∧ (∀ S15 : Mem, S15 = (sI S5 a0 0 (nI 0)) → ((¬ (mI S15 a0 0) = 0 → (vz_nar (nI 0) ∧ (post (nI 0) S15))) ∧ ((mI S15 a0 0) = 0 → (vz_nar (nI 1) ∧ (post (nI 1) S15))))))))))) ∧ (x3 = 0 → (isK S2 a0 7 ∧ (∀ S20 : Mem, S20 = (sI S2 a0 0 (nI 1)) → ((¬ (mI S20 a0 0) = 0 → (vz_nar (nI 0) ∧ (post (nI 0) S20))) ∧ ((mI S20 a0 0) = 0 → (vz_nar (nI 1) ∧ (post (nI 1) S20)))))))))
set_option maxHeartbeats 4000000 in
set_option maxRecDepth 100000 in
theorem meX7_isJob (l : Launch) (G : GT) (S : Mem) (a0 : Nat) (p1 : Int32) (post : Int32 → Mem → Prop) (hw : wpX7_isJob S a0 p1 post) : CN emI l yX7_isJob (wsU yX7_isJob cX7_isJob 2 (some .boolean)) rmX7_isJob 0 0 G [.ref a0, .int p1] S post := by
  refine cn_open RX7 rfl (by decide +kernel) (Nat.le_of_ble_eq_true rfl) ?_
  intro p e s m args below meth c A X h hr hin ls hl
  have hl : lv_has ls 2 [(0, .ref a0), (1, .int p1)] := hl
  have hx := X.1
  have hb := X.2.1
  have hown := X.2.2.2.1
  unfold wpX7_isJob at hw
  refine lv_aload_n hx hb dX7_isJob_0 rfl (lv_at hl 0 rfl) ?_
  refine lv_iload_n hx hb dX7_isJob_1 rfl (lv_at hl 1 rfl) ?_
  refine lv_iconst (v := (nI 0)) hx hb dX7_isJob_2 (by decide) ?_
  refine lv_aload_n hx hb dX7_isJob_3 rfl (lv_at hl 0 rfl) ?_
  obtain ⟨k1, hw⟩ := hw
  refine r_getI X h k1 2  (by decide) rfl inX7 (by decide) rfl q850 rfl dX7_isJob_4 ?_
  refine lv_iconst (v := (nI 1)) hx hb dX7_isJob_7 (by decide) ?_
  refine lv_isub hx hb dX7_isJob_8 ?_
  refine rc_S (As := [.int p1, .int (nI 0), .int ((mI S a0 2) - (nI 1))]) (rest := [.ref a0]) X h (meX7_in l G _ _ _ _ _ hw) gS_X7_60 rfl rfl hdS_X7_in rfl ⟨Nat.le_of_ble_eq_true rfl, Nat.le_of_ble_eq_true rfl⟩ hl.1 rfl (Nat.le_of_ble_eq_true rfl) ⟨Nat.le_of_ble_eq_true rfl, Nat.le_of_ble_eq_true rfl⟩ dX7_isJob_9 (fun x3 S2 H locs hw h => ?_)
  refine lv_if_ne (tgt := 19) hx hb dX7_isJob_12 (by decide) (fun c4 => ?_) (fun c4 => ?_)
  · have hw := hw.1 c4
    refine lv_aload_n hx hb dX7_isJob_19 rfl (lv_at hl 0 rfl) ?_
    refine lv_iload_n hx hb dX7_isJob_20 rfl (lv_at hl 1 rfl) ?_
    obtain ⟨k6, hw⟩ := hw
    refine rc_V (As := [.int p1]) (rest := [.ref a0]) X h k6 (by decide) rfl (meX7_isWhole l G _ _ _ _ hw) gV_X7_71 rfl rfl hdV_X7_isWhole rfl ⟨Nat.le_of_ble_eq_true rfl, Nat.le_of_ble_eq_true rfl⟩ hl.1 rfl (Nat.le_of_ble_eq_true rfl) ⟨Nat.le_of_ble_eq_true rfl, Nat.le_of_ble_eq_true rfl⟩ dX7_isJob_21 (fun x7 S5 H locs hw h => ?_)
    refine lv_if_eq (tgt := 31) hx hb dX7_isJob_24 (by decide) (fun c8 => ?_) (fun c8 => ?_)
    · have hw := hw.1 c8
      refine lv_iconst (v := (nI 2)) hx hb dX7_isJob_31 (by decide) ?_
      obtain ⟨k9, hw⟩ := hw
      refine r_putI X h k9 0 (by decide) rfl inX7 tyX7 tyX7_ok nmX7 (by decide) rfl (Nat.le_of_ble_eq_true rfl) q848 rfl rfl (tyX7_ok 0 (by decide)) rfl rfl dX7_isJob_32 (fun H locs h => ?_)
      obtain ⟨S10, eS10⟩ : ∃ z : Mem, z = (sI S5 a0 0 (nI 2)) := ⟨_, rfl⟩
      rw [← eS10] at h
      have hw := hw S10 eS10
      refine lv_aload_n hx hb dX7_isJob_35 rfl (lv_at hl 0 rfl) ?_
      refine r_getI X h (kI eS10 k9) 0  (by decide) rfl inX7 (by decide) rfl q848 rfl dX7_isJob_36 ?_
      refine lv_if_ne (tgt := 46) hx hb dX7_isJob_39 (by decide) (fun c11 => ?_) (fun c11 => ?_)
      · have hw := hw.1 c11
        refine lv_iconst (v := (nI 0)) hx hb dX7_isJob_46 (by decide) ?_
        obtain ⟨b12, hw⟩ := hw
        exact (en_z X h hr b12 hw (Nat.le_of_ble_eq_true rfl) (Nat.le_of_ble_eq_true rfl) dX7_isJob_47)
      · have hw := hw.2 c11
        refine lv_iconst (v := (nI 1)) hx hb dX7_isJob_42 (by decide) ?_
        refine lv_goto (tgt := 47) hx hb dX7_isJob_43 (by decide) ?_
        obtain ⟨b13, hw⟩ := hw
        exact (en_z X h hr b13 hw (Nat.le_of_ble_eq_true rfl) (Nat.le_of_ble_eq_true rfl) dX7_isJob_47)
    · have hw := hw.2 c8
      refine lv_iconst (v := (nI 0)) hx hb dX7_isJob_27 (by decide) ?_
      refine lv_goto (tgt := 32) hx hb dX7_isJob_28 (by decide) ?_
      obtain ⟨k14, hw⟩ := hw
      refine r_putI X h k14 0 (by decide) rfl inX7 tyX7 tyX7_ok nmX7 (by decide) rfl (Nat.le_of_ble_eq_true rfl) q848 rfl rfl (tyX7_ok 0 (by decide)) rfl rfl dX7_isJob_32 (fun H locs h => ?_)
      obtain ⟨S15, eS15⟩ : ∃ z : Mem, z = (sI S5 a0 0 (nI 0)) := ⟨_, rfl⟩
      rw [← eS15] at h
      have hw := hw S15 eS15
      refine lv_aload_n hx hb dX7_isJob_35 rfl (lv_at hl 0 rfl) ?_
      refine r_getI X h (kI eS15 k14) 0  (by decide) rfl inX7 (by decide) rfl q848 rfl dX7_isJob_36 ?_
      refine lv_if_ne (tgt := 46) hx hb dX7_isJob_39 (by decide) (fun c16 => ?_) (fun c16 => ?_)
      · have hw := hw.1 c16
        refine lv_iconst (v := (nI 0)) hx hb dX7_isJob_46 (by decide) ?_
        obtain ⟨b17, hw⟩ := hw
        exact (en_z X h hr b17 hw (Nat.le_of_ble_eq_true rfl) (Nat.le_of_ble_eq_true rfl) dX7_isJob_47)
      · have hw := hw.2 c16
        refine lv_iconst (v := (nI 1)) hx hb dX7_isJob_42 (by decide) ?_
        refine lv_goto (tgt := 47) hx hb dX7_isJob_43 (by decide) ?_
        obtain ⟨b18, hw⟩ := hw
        exact (en_z X h hr b18 hw (Nat.le_of_ble_eq_true rfl) (Nat.le_of_ble_eq_true rfl) dX7_isJob_47)
  · have hw := hw.2 c4
    refine lv_iconst (v := (nI 1)) hx hb dX7_isJob_15 (by decide) ?_
    refine lv_goto (tgt := 32) hx hb dX7_isJob_16 (by decide) ?_
    obtain ⟨k19, hw⟩ := hw
    refine r_putI X h k19 0 (by decide) rfl inX7 tyX7 tyX7_ok nmX7 (by decide) rfl (Nat.le_of_ble_eq_true rfl) q848 rfl rfl (tyX7_ok 0 (by decide)) rfl rfl dX7_isJob_32 (fun H locs h => ?_)
    obtain ⟨S20, eS20⟩ : ∃ z : Mem, z = (sI S2 a0 0 (nI 1)) := ⟨_, rfl⟩
    rw [← eS20] at h
    have hw := hw S20 eS20
    refine lv_aload_n hx hb dX7_isJob_35 rfl (lv_at hl 0 rfl) ?_
    refine r_getI X h (kI eS20 k19) 0  (by decide) rfl inX7 (by decide) rfl q848 rfl dX7_isJob_36 ?_
    refine lv_if_ne (tgt := 46) hx hb dX7_isJob_39 (by decide) (fun c21 => ?_) (fun c21 => ?_)
    · have hw := hw.1 c21
      refine lv_iconst (v := (nI 0)) hx hb dX7_isJob_46 (by decide) ?_
      obtain ⟨b22, hw⟩ := hw
      exact (en_z X h hr b22 hw (Nat.le_of_ble_eq_true rfl) (Nat.le_of_ble_eq_true rfl) dX7_isJob_47)
    · have hw := hw.2 c21
      refine lv_iconst (v := (nI 1)) hx hb dX7_isJob_42 (by decide) ?_
      refine lv_goto (tgt := 47) hx hb dX7_isJob_43 (by decide) ?_
      obtain ⟨b23, hw⟩ := hw
      exact (en_z X h hr b23 hw (Nat.le_of_ble_eq_true rfl) (Nat.le_of_ble_eq_true rfl) dX7_isJob_47)
abbrev rmX7_sheets : Room := { frames := 3, cells := 0, slots := 0, locals := 63 }
def wpX7_sheets (S : Mem) (a0 : Nat) (p1 : Int32) (post : Int32 → Mem → Prop) : Prop := isK S a0 7 ∧ (wpX7_isJob S a0 p1 (fun x3 S1 => (x3 = 0 → (post (nI 0) S1)) ∧ (¬ x3 = 0 → (isK S1 a0 7 ∧ (wpX7_count S1 a0 p1 (fun x7 S5 => post x7 S5))))))
set_option maxHeartbeats 4000000 in
set_option maxRecDepth 100000 in
theorem meX7_sheets (l : Launch) (G : GT) (S : Mem) (a0 : Nat) (p1 : Int32) (post : Int32 → Mem → Prop) (hw : wpX7_sheets S a0 p1 post) : CN emI l yX7_sheets (wsU yX7_sheets cX7_sheets 2 (some .int)) rmX7_sheets 0 0 G [.ref a0, .int p1] S post := by
  refine cn_open RX7 rfl (by decide +kernel) (Nat.le_of_ble_eq_true rfl) ?_
  intro p e s m args below meth c A X h hr hin ls hl
  have hl : lv_has ls 2 [(0, .ref a0), (1, .int p1)] := hl
  have hx := X.1
  have hb := X.2.1
  have hown := X.2.2.2.1
  unfold wpX7_sheets at hw
  refine lv_aload_n hx hb dX7_sheets_0 rfl (lv_at hl 0 rfl) ?_
  refine lv_iload_n hx hb dX7_sheets_1 rfl (lv_at hl 1 rfl) ?_
  obtain ⟨k2, hw⟩ := hw
  refine rc_V (As := [.int p1]) (rest := []) X h k2 (by decide) rfl (meX7_isJob l G _ _ _ _ hw) gV_X7_75 rfl rfl hdV_X7_isJob rfl ⟨Nat.le_of_ble_eq_true rfl, Nat.le_of_ble_eq_true rfl⟩ hl.1 rfl (Nat.le_of_ble_eq_true rfl) ⟨Nat.le_of_ble_eq_true rfl, Nat.le_of_ble_eq_true rfl⟩ dX7_sheets_2 (fun x3 S1 H locs hw h => ?_)
  refine lv_if_eq (tgt := 16) hx hb dX7_sheets_5 (by decide) (fun c4 => ?_) (fun c4 => ?_)
  · have hw := hw.1 c4
    refine lv_iconst (v := (nI 0)) hx hb dX7_sheets_16 (by decide) ?_
    exact (en_i X h hr hw (Nat.le_of_ble_eq_true rfl) (Nat.le_of_ble_eq_true rfl) dX7_sheets_17)
  · have hw := hw.2 c4
    refine lv_aload_n hx hb dX7_sheets_8 rfl (lv_at hl 0 rfl) ?_
    refine lv_iload_n hx hb dX7_sheets_9 rfl (lv_at hl 1 rfl) ?_
    obtain ⟨k6, hw⟩ := hw
    refine rc_V (As := [.int p1]) (rest := []) X h k6 (by decide) rfl (meX7_count l G _ _ _ _ hw) gV_X7_78 rfl rfl hdV_X7_count rfl ⟨Nat.le_of_ble_eq_true rfl, Nat.le_of_ble_eq_true rfl⟩ hl.1 rfl (Nat.le_of_ble_eq_true rfl) ⟨Nat.le_of_ble_eq_true rfl, Nat.le_of_ble_eq_true rfl⟩ dX7_sheets_10 (fun x7 S5 H locs hw h => ?_)
    refine lv_goto (tgt := 17) hx hb dX7_sheets_13 (by decide) ?_
    exact (en_i X h hr hw (Nat.le_of_ble_eq_true rfl) (Nat.le_of_ble_eq_true rfl) dX7_sheets_17)
abbrev rmX6_requireSheet : Room := { frames := 6, cells := 1, slots := 6, locals := 90 }
def wpX6_requireSheet (S : Mem) (a0 : Nat) (p1 : Int32) (post : Unit → Mem → Prop) (px : Nat → Mem → Prop) : Prop := (p1 < 0 → (px 3 S)) ∧ (¬ p1 < 0 → (isK S a0 1 ∧ (wpX1_sheetCount S a0 (fun x4 S2 => (p1 < x4 → (post () S2)) ∧ (¬ p1 < x4 → (px 3 S2))))))
set_option maxHeartbeats 4000000 in
set_option maxRecDepth 100000 in
theorem meX6_requireSheet (l : Launch) (hl9 : l.stackTraces = false) (G : GT) (S : Mem) (a0 : Nat) (p1 : Int32) (post : Unit → Mem → Prop) (px : Nat → Mem → Prop) (hw : wpX6_requireSheet S a0 p1 post px) : CX emV l yX6_requireSheet (wsU yX6_requireSheet cX6_requireSheet 2 none) rmX6_requireSheet 1 6 G [.ref a0, .int p1] S post px := by
  refine cx_open RX6 rfl (by decide +kernel) (Nat.le_of_ble_eq_true rfl) ?_
  intro p e s m args below meth c A X h hr hno ls hl
  have hl : lv_has ls 2 [(0, .ref a0), (1, .int p1)] := hl
  have hx := X.1
  have hb := X.2.1
  have hown := X.2.2.2.1
  unfold wpX6_requireSheet at hw
  refine lv_iload_n hx hb dX6_requireSheet_0 rfl (lv_at hl 1 rfl) ?_
  refine lv_if_lt (tgt := 12) hx hb dX6_requireSheet_1 (by decide) (fun c1 => ?_) (fun c1 => ?_)
  · have hw := hw.1 c1
    exact en_yW ta_X6_138d0 ta_X6_138d1 ta_X6_138d2 ta_X6_138d5 3 X h hl9 th_X6_291 hl.1 hno dX6_requireSheet_12 dX6_requireSheet_15 dX6_requireSheet_16 dX6_requireSheet_19 dX6_requireSheet_22 ⟨Nat.le_of_ble_eq_true rfl, Nat.le_of_ble_eq_true rfl⟩ ⟨Nat.le_of_ble_eq_true rfl, Nat.le_of_ble_eq_true rfl⟩ ⟨Nat.le_of_ble_eq_true rfl, Nat.le_of_ble_eq_true rfl⟩ hw
  · have hw := hw.2 c1
    refine lv_iload_n hx hb dX6_requireSheet_4 rfl (lv_at hl 1 rfl) ?_
    refine lv_aload_n hx hb dX6_requireSheet_5 rfl (lv_at hl 0 rfl) ?_
    obtain ⟨k3, hw⟩ := hw
    refine rc_V (As := []) (rest := [.int p1]) X h k3 (by decide) rfl (meX1_sheetCount l G _ _ _ hw) gV_X6_124 rfl rfl hdV_X1_sheetCount rfl ⟨Nat.le_of_ble_eq_true rfl, Nat.le_of_ble_eq_true rfl⟩ hl.1 rfl (Nat.le_of_ble_eq_true rfl) ⟨Nat.le_of_ble_eq_true rfl, Nat.le_of_ble_eq_true rfl⟩ dX6_requireSheet_6 (fun x4 S2 H locs hw h => ?_)
    refine lv_icmp_lt (tgt := 23) hx hb dX6_requireSheet_9 (by decide) (fun c5 => ?_) (fun c5 => ?_)
    · have hw := hw.1 c5
      exact vx_ret (en_v X h hr hw (Nat.le_of_ble_eq_true rfl) (Nat.le_of_ble_eq_true rfl) dX6_requireSheet_23)
    · have hw := hw.2 c5
      exact en_yW ta_X6_138d0 ta_X6_138d1 ta_X6_138d2 ta_X6_138d5 3 X h hl9 th_X6_291 hl.1 hno dX6_requireSheet_12 dX6_requireSheet_15 dX6_requireSheet_16 dX6_requireSheet_19 dX6_requireSheet_22 ⟨Nat.le_of_ble_eq_true rfl, Nat.le_of_ble_eq_true rfl⟩ ⟨Nat.le_of_ble_eq_true rfl, Nat.le_of_ble_eq_true rfl⟩ ⟨Nat.le_of_ble_eq_true rfl, Nat.le_of_ble_eq_true rfl⟩ hw
abbrev rmX6_pageAt : Room := { frames := 8, cells := 4, slots := 24, locals := 134 }
def wpX6_pageAt (S : Mem) (a0 : Nat) (p1 : Int32) (p2 : Int32) (p3 : Int32) (post : Int32 → Mem → Prop) (px : Nat → Mem → Prop) : Prop := isK S a0 6 ∧ (wpX6_completeJob S a0 p1 (fun r3 S1 => ∃ o4, r3 = some o4 ∧ (wpX6_requireSheet S1 o4 p2 (fun u6 S5 => (p3 < 0 → (px 3 S5)) ∧ (¬ p3 < 0 → (isK S5 o4 1 ∧ (wpX1_placeCount S5 o4 (fun x10 S8 => (p3 < x10 → (isK S8 o4 1 ∧ (wpX1_pageOn S8 o4 p2 p3 (fun x14 S12 => post x14 S12)))) ∧ (¬ p3 < x10 → (px 3 S8))))))) px)) px)
set_option maxHeartbeats 4000000 in
set_option maxRecDepth 100000 in
theorem meX6_pageAt (l : Launch) (hl9 : l.stackTraces = false) (G : GT) (S : Mem) (a0 : Nat) (p1 : Int32) (p2 : Int32) (p3 : Int32) (post : Int32 → Mem → Prop) (px : Nat → Mem → Prop) (hw : wpX6_pageAt S a0 p1 p2 p3 post px) : CX emI l yX6_pageAt (wsU yX6_pageAt cX6_pageAt 5 (some .int)) rmX6_pageAt 4 24 G [.ref a0, .int p1, .int p2, .int p3] S post px := by
  refine cx_open RX6 rfl (by decide +kernel) (Nat.le_of_ble_eq_true rfl) ?_
  intro p e s m args below meth c A X h hr hno ls hl
  have hl : lv_has ls 5 [(0, .ref a0), (1, .int p1), (2, .int p2), (3, .int p3)] := hl
  have hx := X.1
  have hb := X.2.1
  have hown := X.2.2.2.1
  unfold wpX6_pageAt at hw
  refine lv_aload_n hx hb dX6_pageAt_0 rfl (lv_at hl 0 rfl) ?_
  refine lv_iload_n hx hb dX6_pageAt_1 rfl (lv_at hl 1 rfl) ?_
  obtain ⟨k2, hw⟩ := hw
  refine rx_V (As := [.int p1]) (rest := []) X h hno k2 (by decide) rfl (meX6_completeJob l hl9 G _ _ _ _ _ hw) gV_X6_121 rfl rfl hdV_X6_completeJob rfl ⟨Nat.le_of_ble_eq_true rfl, Nat.le_of_ble_eq_true rfl⟩ hl.1 rfl (Nat.le_of_ble_eq_true rfl) ⟨Nat.le_of_ble_eq_true rfl, Nat.le_of_ble_eq_true rfl⟩ ⟨Nat.le_of_ble_eq_true rfl, Nat.le_of_ble_eq_true rfl⟩ dX6_pageAt_2 (fun r3 S1 H locs hw h => ?_)
  obtain ⟨o4, rfl, hw⟩ := hw
  refine lv_astore (lv' := [(4, .ref o4), (0, .ref a0), (1, .int p1), (2, .int p2), (3, .int p3)]) hx hb dX6_pageAt_5 hl (by decide) rfl (fun ls hl => ?_)
  refine lv_aload hx hb dX6_pageAt_7 (lv_at hl 0 rfl) ?_
  refine lv_iload_n hx hb dX6_pageAt_9 rfl (lv_at hl 3 rfl) ?_
  refine rx_S (As := [.ref o4, .int p2]) (rest := []) X h hno (meX6_requireSheet l hl9 G _ _ _ _ _ hw) gS_X6_127 rfl rfl hdS_X6_requireSheet rfl ⟨Nat.le_of_ble_eq_true rfl, Nat.le_of_ble_eq_true rfl⟩ hl.1 rfl (Nat.le_of_ble_eq_true rfl) ⟨Nat.le_of_ble_eq_true rfl, Nat.le_of_ble_eq_true rfl⟩ ⟨Nat.le_of_ble_eq_true rfl, Nat.le_of_ble_eq_true rfl⟩ dX6_pageAt_10 (fun u6 S5 H locs hw h => ?_)
  refine lv_iload_n hx hb dX6_pageAt_13 rfl (lv_at hl 4 rfl) ?_
  refine lv_if_lt (tgt := 26) hx hb dX6_pageAt_14 (by decide) (fun c7 => ?_) (fun c7 => ?_)
  · have hw := hw.1 c7
    exact en_y ta_X6_138d0 ta_X6_138d1 ta_X6_138d2 ta_X6_138d5 3 X h hl9 th_X6_136 hl.1 hno dX6_pageAt_26 dX6_pageAt_29 dX6_pageAt_30 dX6_pageAt_32 dX6_pageAt_35 ⟨Nat.le_of_ble_eq_true rfl, Nat.le_of_ble_eq_true rfl⟩ ⟨Nat.le_of_ble_eq_true rfl, Nat.le_of_ble_eq_true rfl⟩ ⟨Nat.le_of_ble_eq_true rfl, Nat.le_of_ble_eq_true rfl⟩ hw
  · have hw := hw.2 c7
    refine lv_iload_n hx hb dX6_pageAt_17 rfl (lv_at hl 4 rfl) ?_
    refine lv_aload hx hb dX6_pageAt_18 (lv_at hl 0 rfl) ?_
    obtain ⟨k9, hw⟩ := hw
    refine rc_V (As := []) (rest := [.int p3]) X h k9 (by decide) rfl (meX1_placeCount l G _ _ _ hw) gV_X6_131 rfl rfl hdV_X1_placeCount rfl ⟨Nat.le_of_ble_eq_true rfl, Nat.le_of_ble_eq_true rfl⟩ hl.1 rfl (Nat.le_of_ble_eq_true rfl) ⟨Nat.le_of_ble_eq_true rfl, Nat.le_of_ble_eq_true rfl⟩ dX6_pageAt_20 (fun x10 S8 H locs hw h => ?_)
    refine lv_icmp_lt (tgt := 36) hx hb dX6_pageAt_23 (by decide) (fun c11 => ?_) (fun c11 => ?_)
    · have hw := hw.1 c11
      refine lv_aload hx hb dX6_pageAt_36 (lv_at hl 0 rfl) ?_
      refine lv_iload_n hx hb dX6_pageAt_38 rfl (lv_at hl 3 rfl) ?_
      refine lv_iload_n hx hb dX6_pageAt_39 rfl (lv_at hl 4 rfl) ?_
      obtain ⟨k13, hw⟩ := hw
      refine rc_V (As := [.int p2, .int p3]) (rest := []) X h k13 (by decide) rfl (meX1_pageOn l G _ _ _ _ _ hw) gV_X6_139 rfl rfl hdV_X1_pageOn rfl ⟨Nat.le_of_ble_eq_true rfl, Nat.le_of_ble_eq_true rfl⟩ hl.1 rfl (Nat.le_of_ble_eq_true rfl) ⟨Nat.le_of_ble_eq_true rfl, Nat.le_of_ble_eq_true rfl⟩ dX6_pageAt_40 (fun x14 S12 H locs hw h => ?_)
      exact vx_ret (en_i X h hr hw (Nat.le_of_ble_eq_true rfl) (Nat.le_of_ble_eq_true rfl) dX6_pageAt_43)
    · have hw := hw.2 c11
      exact en_y ta_X6_138d0 ta_X6_138d1 ta_X6_138d2 ta_X6_138d5 3 X h hl9 th_X6_136 hl.1 hno dX6_pageAt_26 dX6_pageAt_29 dX6_pageAt_30 dX6_pageAt_32 dX6_pageAt_35 ⟨Nat.le_of_ble_eq_true rfl, Nat.le_of_ble_eq_true rfl⟩ ⟨Nat.le_of_ble_eq_true rfl, Nat.le_of_ble_eq_true rfl⟩ ⟨Nat.le_of_ble_eq_true rfl, Nat.le_of_ble_eq_true rfl⟩ hw
abbrev rmL_pageAt : Room := { frames := 9, cells := 4, slots := 24, locals := 158 }
def wpL_pageAt (S : Mem) (a0 : Nat) (p1 : Int32) (p2 : Int32) (p3 : Int32) (a4 : Nat) (post : Int32 → Mem → Prop) : Prop := isK S a0 6 ∧ (wpX6_pageAt S a0 p1 p2 p3 (fun x3 S1 => isK S1 a4 12 ∧ (vp_in (nI 0) (mN S1 a4) ∧ (∀ S8 : Mem, S8 = (sJ S1 a4 (nI 0).toNatClampNeg x3.toInt64) → (post (nI 0) S8)))) (fun k4 S5 => (k4 = 1 → (post (nI 1) S5)) ∧ (k4 = 2 → (post (nI 2) S5)) ∧ (k4 = 3 → (post (nI 3) S5)) ∧ (k4 = 1 ∨ k4 = 2 ∨ k4 = 3)))
set_option maxHeartbeats 4000000 in
set_option maxRecDepth 100000 in
theorem meL_pageAt (l : Launch) (hl9 : l.stackTraces = false) (G : GT) (S : Mem) (a0 : Nat) (p1 : Int32) (p2 : Int32) (p3 : Int32) (a4 : Nat) (post : Int32 → Mem → Prop) (hw : wpL_pageAt S a0 p1 p2 p3 a4 post) : CN emI l yL_pageAt (wsH yL_pageAt cL_pageAt 6 (some .int) [(0, 12, 15, 19), (0, 12, 19, 13), (0, 12, 23, 48)]) rmL_pageAt 4 24 G [.ref a0, .int p1, .int p2, .int p3, .ref a4] S post := by
  refine ch_open RL rfl (by decide +kernel) (Nat.le_of_ble_eq_true rfl) ?_
  intro p e s m args below meth c A X h hr hTab ls hl
  have hl : lv_has ls 6 [(0, .ref a0), (1, .int p1), (2, .int p2), (3, .int p3), (4, .ref a4)] := hl
  have hx := X.1
  have hb := X.2.1
  have hown := X.2.2.2.1
  unfold wpL_pageAt at hw
  refine lv_aload hx hb dL_pageAt_0 (lv_at hl 4 rfl) ?_
  refine lv_iconst (v := (nI 0)) hx hb dL_pageAt_2 (by decide) ?_
  refine lv_aload_n hx hb dL_pageAt_3 rfl (lv_at hl 0 rfl) ?_
  refine lv_iload_n hx hb dL_pageAt_4 rfl (lv_at hl 1 rfl) ?_
  refine lv_iload_n hx hb dL_pageAt_5 rfl (lv_at hl 2 rfl) ?_
  refine lv_iload_n hx hb dL_pageAt_6 rfl (lv_at hl 3 rfl) ?_
  obtain ⟨k2, hw⟩ := hw
  refine rx_VH (As := [.int p1, .int p2, .int p3]) (rest := [.int (nI 0), .ref a4]) X h k2 (by decide) rfl (meX6_pageAt l hl9 G _ _ _ _ _ _ _ hw) gV_L_44 rfl rfl hdV_X6_pageAt rfl ⟨Nat.le_of_ble_eq_true rfl, Nat.le_of_ble_eq_true rfl⟩ hl.1 rfl (Nat.le_of_ble_eq_true rfl) ⟨Nat.le_of_ble_eq_true rfl, Nat.le_of_ble_eq_true rfl⟩ dL_pageAt_7 (fun k4 S5 H locs q9 ce hw h hce hcv hcl => ?_) (fun x3 S1 H locs hw h => ?_)
  · rcases hw.2.2.2 with hk9 | hk9 | hk9
    · subst hk9
      have hw := hw.1 rfl
      refine vx_catch (own := RL) (name := "java/lang/IndexOutOfBoundsException") (E := xn 1) hown [] ⟨0, 12, 15, 19⟩ [⟨0, 12, 19, 13⟩, ⟨0, 12, 23, 48⟩] (by rw [hTab]; rfl) (fun z hz => nomatch hz) (by decide) (by decide) (X.hts q277) (va_Nw.use (by rfl) (X.nw q311)) hce hcv hcl ?_
      refine lv_astore (lv' := [(5, .ref q9), (0, .ref a0), (1, .int p1), (2, .int p2), (3, .int p3), (4, .ref a4)]) hx hb dL_pageAt_15 hl (by decide) rfl (fun ls hl => ?_)
      refine lv_iconst (v := (nI 1)) hx hb dL_pageAt_17 (by decide) ?_
      exact (en_i X h hr hw (Nat.le_of_ble_eq_true rfl) (Nat.le_of_ble_eq_true rfl) dL_pageAt_18)
    · subst hk9
      have hw := hw.2.1 rfl
      have hpass2 : ∀ z ∈ ([⟨0, 12, 15, 19⟩] : List ExceptionTableEntry), covers z 7 = false ∨ (z.catchType ≠ 0 ∧ ∃ nm : String, (Cond.classLink RL z.catchType nm).before args s = true ∧ va_Nc (xn 2) nm s) := by
        intro z hz
        rcases List.mem_cons.mp hz with rfl | hz
        · exact Or.inr ⟨by decide, "java/lang/IndexOutOfBoundsException", X.hts q277, X.2.2.2.2.2.2.1.2.2.2.2.1 ("java/lang/IllegalStateException", "java/lang/IndexOutOfBoundsException") (by decide +kernel)⟩
        cases hz
      refine vx_catch (own := RL) (name := "java/lang/IllegalStateException") (E := xn 2) hown [⟨0, 12, 15, 19⟩] ⟨0, 12, 19, 13⟩ [⟨0, 12, 23, 48⟩] (by rw [hTab]; rfl) (hpass2) (by decide) (by decide) (X.hts q193) (va_Nw.use (by rfl) (X.nw q200)) hce hcv hcl ?_
      refine lv_astore (lv' := [(5, .ref q9), (0, .ref a0), (1, .int p1), (2, .int p2), (3, .int p3), (4, .ref a4)]) hx hb dL_pageAt_19 hl (by decide) rfl (fun ls hl => ?_)
      refine lv_iconst (v := (nI 2)) hx hb dL_pageAt_21 (by decide) ?_
      exact (en_i X h hr hw (Nat.le_of_ble_eq_true rfl) (Nat.le_of_ble_eq_true rfl) dL_pageAt_22)
    · subst hk9
      have hw := hw.2.2.1 rfl
      have hpass3 : ∀ z ∈ ([⟨0, 12, 15, 19⟩, ⟨0, 12, 19, 13⟩] : List ExceptionTableEntry), covers z 7 = false ∨ (z.catchType ≠ 0 ∧ ∃ nm : String, (Cond.classLink RL z.catchType nm).before args s = true ∧ va_Nc (xn 3) nm s) := by
        intro z hz
        rcases List.mem_cons.mp hz with rfl | hz
        · exact Or.inr ⟨by decide, "java/lang/IndexOutOfBoundsException", X.hts q277, X.2.2.2.2.2.2.1.2.2.2.2.1 ("java/util/NoSuchElementException", "java/lang/IndexOutOfBoundsException") (by decide +kernel)⟩
        rcases List.mem_cons.mp hz with rfl | hz
        · exact Or.inr ⟨by decide, "java/lang/IllegalStateException", X.hts q193, X.2.2.2.2.2.2.1.2.2.2.2.1 ("java/util/NoSuchElementException", "java/lang/IllegalStateException") (by decide +kernel)⟩
        cases hz
      refine vx_catch (own := RL) (name := "java/util/NoSuchElementException") (E := xn 3) hown [⟨0, 12, 15, 19⟩, ⟨0, 12, 19, 13⟩] ⟨0, 12, 23, 48⟩ [] (by rw [hTab]; rfl) (hpass3) (by decide) (by decide) (X.hts q495) (va_Nw.use (by rfl) (X.nw q505)) hce hcv hcl ?_
      refine lv_astore (lv' := [(5, .ref q9), (0, .ref a0), (1, .int p1), (2, .int p2), (3, .int p3), (4, .ref a4)]) hx hb dL_pageAt_23 hl (by decide) rfl (fun ls hl => ?_)
      refine lv_iconst (v := (nI 3)) hx hb dL_pageAt_25 (by decide) ?_
      exact (en_i X h hr hw (Nat.le_of_ble_eq_true rfl) (Nat.le_of_ble_eq_true rfl) dL_pageAt_26)
  · refine lv_i2l (v := x3.toInt64) hx hb dL_pageAt_10 rfl ?_
    obtain ⟨k6, hw⟩ := hw
    obtain ⟨v7, hw⟩ := hw
    refine r_last X h k6 v7 dL_pageAt_11 (fun H locs h => ?_)
    obtain ⟨S8, eS8⟩ : ∃ z : Mem, z = (sJ S1 a4 (nI 0).toNatClampNeg x3.toInt64) := ⟨_, rfl⟩
    rw [← eS8] at h
    have hw := hw S8 eS8
    refine lv_goto (tgt := 27) hx hb dL_pageAt_12 (by decide) ?_
    refine lv_iconst (v := (nI 0)) hx hb dL_pageAt_27 (by decide) ?_
    exact (en_i X h hr hw (Nat.le_of_ble_eq_true rfl) (Nat.le_of_ble_eq_true rfl) dL_pageAt_28)
abbrev rmX7_isSheet : Room := { frames := 3, cells := 0, slots := 0, locals := 63 }
def wpX7_isSheet (S : Mem) (a0 : Nat) (p1 : Int32) (p2 : Int32) (post : Int32 → Mem → Prop) : Prop := isK S a0 7 ∧ (wpX7_isJob S a0 p1 (fun x3 S1 => (x3 = 0 → (isK S1 a0 7 ∧ ((¬ (mI S1 a0 0) = 0 → (vz_nar (nI 0) ∧ (post (nI 0) S1))) ∧ ((mI S1 a0 0) = 0 → (vz_nar (nI 1) ∧ (post (nI 1) S1)))))) ∧ (¬ x3 = 0 → (isK S1 a0 7 ∧ (wpX7_count S1 a0 p1 (fun x11 S9 => wpX7_in S9 p2 (nI 0) (x11 - (nI 1)) (fun x13 S12 => (¬ x13 = 0 → (isK S12 a0 7 ∧ ((¬ (mI S12 a0 0) = 0 → (vz_nar (nI 0) ∧ (post (nI 0) S12))) ∧ ((mI S12 a0 0) = 0 → (vz_nar (nI 1) ∧ (post (nI 1) S12)))))) ∧ (x13 = 0 → (isK S12 a0 7 ∧ (∀ S20 : Mem, S20 = (sI S12 a0 0 (nI 3)) → ((¬ (mI S20 a0 0) = 0 → (vz_nar (nI 0) ∧ (post (nI 0) S20))) ∧ ((mI S20 a0 0) = 0 → (vz_nar (nI 1) ∧ (post (nI 1) S20))))))))))))))
set_option maxHeartbeats 4000000 in
set_option maxRecDepth 100000 in
theorem meX7_isSheet (l : Launch) (G : GT) (S : Mem) (a0 : Nat) (p1 : Int32) (p2 : Int32) (post : Int32 → Mem → Prop) (hw : wpX7_isSheet S a0 p1 p2 post) : CN emI l yX7_isSheet (wsU yX7_isSheet cX7_isSheet 3 (some .boolean)) rmX7_isSheet 0 0 G [.ref a0, .int p1, .int p2] S post := by
  refine cn_open RX7 rfl (by decide +kernel) (Nat.le_of_ble_eq_true rfl) ?_
  intro p e s m args below meth c A X h hr hin ls hl
  have hl : lv_has ls 3 [(0, .ref a0), (1, .int p1), (2, .int p2)] := hl
  have hx := X.1
  have hb := X.2.1
  have hown := X.2.2.2.1
  unfold wpX7_isSheet at hw
  refine lv_aload_n hx hb dX7_isSheet_0 rfl (lv_at hl 0 rfl) ?_
  refine lv_iload_n hx hb dX7_isSheet_1 rfl (lv_at hl 1 rfl) ?_
  obtain ⟨k2, hw⟩ := hw
  refine rc_V (As := [.int p1]) (rest := []) X h k2 (by decide) rfl (meX7_isJob l G _ _ _ _ hw) gV_X7_75 rfl rfl hdV_X7_isJob rfl ⟨Nat.le_of_ble_eq_true rfl, Nat.le_of_ble_eq_true rfl⟩ hl.1 rfl (Nat.le_of_ble_eq_true rfl) ⟨Nat.le_of_ble_eq_true rfl, Nat.le_of_ble_eq_true rfl⟩ dX7_isSheet_2 (fun x3 S1 H locs hw h => ?_)
  refine lv_if_eq (tgt := 28) hx hb dX7_isSheet_5 (by decide) (fun c4 => ?_) (fun c4 => ?_)
  · have hw := hw.1 c4
    refine lv_aload_n hx hb dX7_isSheet_28 rfl (lv_at hl 0 rfl) ?_
    obtain ⟨k5, hw⟩ := hw
    refine r_getI X h k5 0  (by decide) rfl inX7 (by decide) rfl q848 rfl dX7_isSheet_29 ?_
    refine lv_if_ne (tgt := 39) hx hb dX7_isSheet_32 (by decide) (fun c6 => ?_) (fun c6 => ?_)
    · have hw := hw.1 c6
      refine lv_iconst (v := (nI 0)) hx hb dX7_isSheet_39 (by decide) ?_
      obtain ⟨b7, hw⟩ := hw
      exact (en_z X h hr b7 hw (Nat.le_of_ble_eq_true rfl) (Nat.le_of_ble_eq_true rfl) dX7_isSheet_40)
    · have hw := hw.2 c6
      refine lv_iconst (v := (nI 1)) hx hb dX7_isSheet_35 (by decide) ?_
      refine lv_goto (tgt := 40) hx hb dX7_isSheet_36 (by decide) ?_
      obtain ⟨b8, hw⟩ := hw
      exact (en_z X h hr b8 hw (Nat.le_of_ble_eq_true rfl) (Nat.le_of_ble_eq_true rfl) dX7_isSheet_40)
  · have hw := hw.2 c4
    refine lv_iload_n hx hb dX7_isSheet_8 rfl (lv_at hl 2 rfl) ?_
    refine lv_iconst (v := (nI 0)) hx hb dX7_isSheet_9 (by decide) ?_
    refine lv_aload_n hx hb dX7_isSheet_10 rfl (lv_at hl 0 rfl) ?_
    refine lv_iload_n hx hb dX7_isSheet_11 rfl (lv_at hl 1 rfl) ?_
    obtain ⟨k10, hw⟩ := hw
    refine rc_V (As := [.int p1]) (rest := [.int (nI 0), .int p2]) X h k10 (by decide) rfl (meX7_count l G _ _ _ _ hw) gV_X7_78 rfl rfl hdV_X7_count rfl ⟨Nat.le_of_ble_eq_true rfl, Nat.le_of_ble_eq_true rfl⟩ hl.1 rfl (Nat.le_of_ble_eq_true rfl) ⟨Nat.le_of_ble_eq_true rfl, Nat.le_of_ble_eq_true rfl⟩ dX7_isSheet_12 (fun x11 S9 H locs hw h => ?_)
    refine lv_iconst (v := (nI 1)) hx hb dX7_isSheet_15 (by decide) ?_
    refine lv_isub hx hb dX7_isSheet_16 ?_
    refine rc_S (As := [.int p2, .int (nI 0), .int (x11 - (nI 1))]) (rest := []) X h (meX7_in l G _ _ _ _ _ hw) gS_X7_60 rfl rfl hdS_X7_in rfl ⟨Nat.le_of_ble_eq_true rfl, Nat.le_of_ble_eq_true rfl⟩ hl.1 rfl (Nat.le_of_ble_eq_true rfl) ⟨Nat.le_of_ble_eq_true rfl, Nat.le_of_ble_eq_true rfl⟩ dX7_isSheet_17 (fun x13 S12 H locs hw h => ?_)
    refine lv_if_ne (tgt := 28) hx hb dX7_isSheet_20 (by decide) (fun c14 => ?_) (fun c14 => ?_)
    · have hw := hw.1 c14
      refine lv_aload_n hx hb dX7_isSheet_28 rfl (lv_at hl 0 rfl) ?_
      obtain ⟨k15, hw⟩ := hw
      refine r_getI X h k15 0  (by decide) rfl inX7 (by decide) rfl q848 rfl dX7_isSheet_29 ?_
      refine lv_if_ne (tgt := 39) hx hb dX7_isSheet_32 (by decide) (fun c16 => ?_) (fun c16 => ?_)
      · have hw := hw.1 c16
        refine lv_iconst (v := (nI 0)) hx hb dX7_isSheet_39 (by decide) ?_
        obtain ⟨b17, hw⟩ := hw
        exact (en_z X h hr b17 hw (Nat.le_of_ble_eq_true rfl) (Nat.le_of_ble_eq_true rfl) dX7_isSheet_40)
      · have hw := hw.2 c16
        refine lv_iconst (v := (nI 1)) hx hb dX7_isSheet_35 (by decide) ?_
        refine lv_goto (tgt := 40) hx hb dX7_isSheet_36 (by decide) ?_
        obtain ⟨b18, hw⟩ := hw
        exact (en_z X h hr b18 hw (Nat.le_of_ble_eq_true rfl) (Nat.le_of_ble_eq_true rfl) dX7_isSheet_40)
    · have hw := hw.2 c14
      refine lv_aload_n hx hb dX7_isSheet_23 rfl (lv_at hl 0 rfl) ?_
      refine lv_iconst (v := (nI 3)) hx hb dX7_isSheet_24 (by decide) ?_
      obtain ⟨k19, hw⟩ := hw
      refine r_putI X h k19 0 (by decide) rfl inX7 tyX7 tyX7_ok nmX7 (by decide) rfl (Nat.le_of_ble_eq_true rfl) q848 rfl rfl (tyX7_ok 0 (by decide)) rfl rfl dX7_isSheet_25 (fun H locs h => ?_)
      obtain ⟨S20, eS20⟩ : ∃ z : Mem, z = (sI S12 a0 0 (nI 3)) := ⟨_, rfl⟩
      rw [← eS20] at h
      have hw := hw S20 eS20
      refine lv_aload_n hx hb dX7_isSheet_28 rfl (lv_at hl 0 rfl) ?_
      refine r_getI X h (kI eS20 k19) 0  (by decide) rfl inX7 (by decide) rfl q848 rfl dX7_isSheet_29 ?_
      refine lv_if_ne (tgt := 39) hx hb dX7_isSheet_32 (by decide) (fun c21 => ?_) (fun c21 => ?_)
      · have hw := hw.1 c21
        refine lv_iconst (v := (nI 0)) hx hb dX7_isSheet_39 (by decide) ?_
        obtain ⟨b22, hw⟩ := hw
        exact (en_z X h hr b22 hw (Nat.le_of_ble_eq_true rfl) (Nat.le_of_ble_eq_true rfl) dX7_isSheet_40)
      · have hw := hw.2 c21
        refine lv_iconst (v := (nI 1)) hx hb dX7_isSheet_35 (by decide) ?_
        refine lv_goto (tgt := 40) hx hb dX7_isSheet_36 (by decide) ?_
        obtain ⟨b23, hw⟩ := hw
        exact (en_z X h hr b23 hw (Nat.le_of_ble_eq_true rfl) (Nat.le_of_ble_eq_true rfl) dX7_isSheet_40)
abbrev rmX7_pageAt : Room := { frames := 4, cells := 0, slots := 0, locals := 85 }
def wpX7_pageAt (S : Mem) (a0 : Nat) (p1 : Int32) (p2 : Int32) (p3 : Int32) (post : Int32 → Mem → Prop) : Prop := isK S a0 7 ∧ (wpX7_isSheet S a0 p1 p2 (fun x3 S1 => (¬ x3 = 0 → (isK S1 a0 7 ∧ (wpX7_places S1 a0 p1 (fun x7 S5 => wpX7_in S5 p3 (nI 0) (x7 - (nI 1)) (fun x9 S8 => (x9 = 0 → (isK S8 a0 7 ∧ (wpX7_fails S8 a0 (nI 3) (fun x13 S11 => post x13 S11)))) ∧ (¬ x9 = 0 → (isK S8 a0 7 ∧ (wpX7_pageOn S8 a0 p1 p2 p3 (fun x16 S14 => post x16 S14))))))))) ∧ (x3 = 0 → (post (nI 0) S1))))
set_option maxHeartbeats 4000000 in
set_option maxRecDepth 100000 in
theorem meX7_pageAt (l : Launch) (G : GT) (S : Mem) (a0 : Nat) (p1 : Int32) (p2 : Int32) (p3 : Int32) (post : Int32 → Mem → Prop) (hw : wpX7_pageAt S a0 p1 p2 p3 post) : CN emI l yX7_pageAt (wsU yX7_pageAt cX7_pageAt 4 (some .int)) rmX7_pageAt 0 0 G [.ref a0, .int p1, .int p2, .int p3] S post := by
  refine cn_open RX7 rfl (by decide +kernel) (Nat.le_of_ble_eq_true rfl) ?_
  intro p e s m args below meth c A X h hr hin ls hl
  have hl : lv_has ls 4 [(0, .ref a0), (1, .int p1), (2, .int p2), (3, .int p3)] := hl
  have hx := X.1
  have hb := X.2.1
  have hown := X.2.2.2.1
  unfold wpX7_pageAt at hw
  refine lv_aload_n hx hb dX7_pageAt_0 rfl (lv_at hl 0 rfl) ?_
  refine lv_iload_n hx hb dX7_pageAt_1 rfl (lv_at hl 1 rfl) ?_
  refine lv_iload_n hx hb dX7_pageAt_2 rfl (lv_at hl 2 rfl) ?_
  obtain ⟨k2, hw⟩ := hw
  refine rc_V (As := [.int p1, .int p2]) (rest := []) X h k2 (by decide) rfl (meX7_isSheet l G _ _ _ _ _ hw) gV_X7_114 rfl rfl hdV_X7_isSheet rfl ⟨Nat.le_of_ble_eq_true rfl, Nat.le_of_ble_eq_true rfl⟩ hl.1 rfl (Nat.le_of_ble_eq_true rfl) ⟨Nat.le_of_ble_eq_true rfl, Nat.le_of_ble_eq_true rfl⟩ dX7_pageAt_3 (fun x3 S1 H locs hw h => ?_)
  refine lv_if_ne (tgt := 11) hx hb dX7_pageAt_6 (by decide) (fun c4 => ?_) (fun c4 => ?_)
  · have hw := hw.1 c4
    refine lv_iload_n hx hb dX7_pageAt_11 rfl (lv_at hl 3 rfl) ?_
    refine lv_iconst (v := (nI 0)) hx hb dX7_pageAt_12 (by decide) ?_
    refine lv_aload_n hx hb dX7_pageAt_13 rfl (lv_at hl 0 rfl) ?_
    refine lv_iload_n hx hb dX7_pageAt_14 rfl (lv_at hl 1 rfl) ?_
    obtain ⟨k6, hw⟩ := hw
    refine rc_V (As := [.int p1]) (rest := [.int (nI 0), .int p3]) X h k6 (by decide) rfl (meX7_places l G _ _ _ _ hw) gV_X7_64 rfl rfl hdV_X7_places rfl ⟨Nat.le_of_ble_eq_true rfl, Nat.le_of_ble_eq_true rfl⟩ hl.1 rfl (Nat.le_of_ble_eq_true rfl) ⟨Nat.le_of_ble_eq_true rfl, Nat.le_of_ble_eq_true rfl⟩ dX7_pageAt_15 (fun x7 S5 H locs hw h => ?_)
    refine lv_iconst (v := (nI 1)) hx hb dX7_pageAt_18 (by decide) ?_
    refine lv_isub hx hb dX7_pageAt_19 ?_
    refine rc_S (As := [.int p3, .int (nI 0), .int (x7 - (nI 1))]) (rest := []) X h (meX7_in l G _ _ _ _ _ hw) gS_X7_60 rfl rfl hdS_X7_in rfl ⟨Nat.le_of_ble_eq_true rfl, Nat.le_of_ble_eq_true rfl⟩ hl.1 rfl (Nat.le_of_ble_eq_true rfl) ⟨Nat.le_of_ble_eq_true rfl, Nat.le_of_ble_eq_true rfl⟩ dX7_pageAt_20 (fun x9 S8 H locs hw h => ?_)
    refine lv_if_eq (tgt := 36) hx hb dX7_pageAt_23 (by decide) (fun c10 => ?_) (fun c10 => ?_)
    · have hw := hw.1 c10
      refine lv_aload_n hx hb dX7_pageAt_36 rfl (lv_at hl 0 rfl) ?_
      refine lv_iconst (v := (nI 3)) hx hb dX7_pageAt_37 (by decide) ?_
      obtain ⟨k12, hw⟩ := hw
      refine rc_V (As := [.int (nI 3)]) (rest := []) X h k12 (by decide) rfl (meX7_fails l G _ _ _ _ hw) gV_X7_101 rfl rfl hdV_X7_fails rfl ⟨Nat.le_of_ble_eq_true rfl, Nat.le_of_ble_eq_true rfl⟩ hl.1 rfl (Nat.le_of_ble_eq_true rfl) ⟨Nat.le_of_ble_eq_true rfl, Nat.le_of_ble_eq_true rfl⟩ dX7_pageAt_38 (fun x13 S11 H locs hw h => ?_)
      exact (en_i X h hr hw (Nat.le_of_ble_eq_true rfl) (Nat.le_of_ble_eq_true rfl) dX7_pageAt_41)
    · have hw := hw.2 c10
      refine lv_aload_n hx hb dX7_pageAt_26 rfl (lv_at hl 0 rfl) ?_
      refine lv_iload_n hx hb dX7_pageAt_27 rfl (lv_at hl 1 rfl) ?_
      refine lv_iload_n hx hb dX7_pageAt_28 rfl (lv_at hl 2 rfl) ?_
      refine lv_iload_n hx hb dX7_pageAt_29 rfl (lv_at hl 3 rfl) ?_
      obtain ⟨k15, hw⟩ := hw
      refine rc_V (As := [.int p1, .int p2, .int p3]) (rest := []) X h k15 (by decide) rfl (meX7_pageOn l G _ _ _ _ _ _ hw) gV_X7_81 rfl rfl hdV_X7_pageOn rfl ⟨Nat.le_of_ble_eq_true rfl, Nat.le_of_ble_eq_true rfl⟩ hl.1 rfl (Nat.le_of_ble_eq_true rfl) ⟨Nat.le_of_ble_eq_true rfl, Nat.le_of_ble_eq_true rfl⟩ dX7_pageAt_30 (fun x16 S14 H locs hw h => ?_)
      refine lv_goto (tgt := 41) hx hb dX7_pageAt_33 (by decide) ?_
      exact (en_i X h hr hw (Nat.le_of_ble_eq_true rfl) (Nat.le_of_ble_eq_true rfl) dX7_pageAt_41)
  · have hw := hw.2 c4
    refine lv_iconst (v := (nI 0)) hx hb dX7_pageAt_9 (by decide) ?_
    exact (en_i X h hr hw (Nat.le_of_ble_eq_true rfl) (Nat.le_of_ble_eq_true rfl) dX7_pageAt_10)
abbrev rmX1_hasPage : Room := { frames := 1, cells := 0, slots := 0, locals := 22 }
def wlX1_hasPage_8 (a0 : Nat) (p1 : Int32) (p2 : Int32) (x3 : Int32) (post : Int32 → Mem → Prop)  : Nat → Int32 → Mem → Prop
  | 0 => fun _ _ => False
  | n + 1 => fun w4 S => (x3 ≤ w4 → (vz_nar (nI 0) ∧ (post (nI 0) S))) ∧ (¬ x3 ≤ w4 → (isK S a0 1 ∧ (wpX1_pageOn S a0 p1 w4 (fun x8 S6 => (¬ x8 = p2 → (∀ x10 : Int32, x10 = (w4 + (nI 1)) → (wlX1_hasPage_8 a0 p1 p2 x3 post n x10 S6))) ∧ (x8 = p2 → (vz_nar (nI 1) ∧ (post (nI 1) S6)))))))
set_option maxHeartbeats 4000000 in
set_option maxRecDepth 100000 in
theorem llX1_hasPage_8 {p : Program} {l : Launch} {e : Env} {s : State} {m : MethodId} {args : Array Value} {below : List Frame} {meth : Method} {c : Code} {G : GT} {A : Nat → Prop} (X : Cx p s m args meth c cX1_hasPage 5 RX1 G A) (hr : meth.sig.returnType = (some .boolean)) (a0 : Nat) (p1 : Int32) (p2 : Int32) (x3 : Int32) (post : Int32 → Mem → Prop)   : ∀ (n : Nat) (w4 : Int32) (S : Mem), wlX1_hasPage_8 a0 p1 p2 x3 post n w4 S → ∀ (H : Heap) (locs : List Loc) (ls : Array Slot), Hx G A s.heap H locs S → lv_has ls 5 [(0, .ref a0), (1, .int p1), (2, .int p2), (3, .int x3), (4, .int w4)] → W p l e rmX1_hasPage s m args below meth c H locs 0 0 (MQ below (QN emI post G A) args s 0 0 A) (F0 m 8 ls []) := by
  have hx := X.1
  have hb := X.2.1
  have hown := X.2.2.2.1
  intro n
  induction n with
  | zero =>
    intro _ _ hw
    exact hw.elim
  | succ n ih =>
    intro w4 S hw H locs ls h hl
    refine lv_iload hx hb dX1_hasPage_8 (lv_at hl 4 rfl) ?_
    refine lv_iload_n hx hb dX1_hasPage_10 rfl (lv_at hl 3 rfl) ?_
    refine lv_icmp_ge (tgt := 33) hx hb dX1_hasPage_11 (by decide) (fun c4 => ?_) (fun c4 => ?_)
    · have hw := hw.1 c4
      refine lv_iconst (v := (nI 0)) hx hb dX1_hasPage_33 (by decide) ?_
      obtain ⟨b5, hw⟩ := hw
      exact (en_z X h hr b5 hw (Nat.le_of_ble_eq_true rfl) (Nat.le_of_ble_eq_true rfl) dX1_hasPage_34)
    · have hw := hw.2 c4
      refine lv_aload_n hx hb dX1_hasPage_14 rfl (lv_at hl 0 rfl) ?_
      refine lv_iload_n hx hb dX1_hasPage_15 rfl (lv_at hl 1 rfl) ?_
      refine lv_iload hx hb dX1_hasPage_16 (lv_at hl 4 rfl) ?_
      obtain ⟨k7, hw⟩ := hw
      refine rc_V (As := [.int p1, .int w4]) (rest := []) X h k7 (by decide) rfl (meX1_pageOn l G _ _ _ _ _ hw) gV_X1_34 rfl rfl hdV_X1_pageOn rfl ⟨Nat.le_of_ble_eq_true rfl, Nat.le_of_ble_eq_true rfl⟩ hl.1 rfl (Nat.le_of_ble_eq_true rfl) ⟨Nat.le_of_ble_eq_true rfl, Nat.le_of_ble_eq_true rfl⟩ dX1_hasPage_18 (fun x8 S6 H locs hw h => ?_)
      refine lv_iload_n hx hb dX1_hasPage_21 rfl (lv_at hl 2 rfl) ?_
      refine lv_icmp_ne (tgt := 27) hx hb dX1_hasPage_22 (by decide) (fun c9 => ?_) (fun c9 => ?_)
      · have hw := hw.1 c9
        obtain ⟨x10, ex10⟩ : ∃ y : Int32, y = (w4 + (nI 1)) := ⟨_, rfl⟩
        have hw := hw x10 ex10
        refine lv_iinc (v := x10) (lv' := [(4, .int x10), (0, .ref a0), (1, .int p1), (2, .int p2), (3, .int x3)]) hx hb dX1_hasPage_27 hl (k := 4) rfl (by rw [ex10]; rfl) (by decide) rfl (fun ls hl => ?_)
        refine lv_goto (tgt := 8) hx hb dX1_hasPage_30 (by decide) ?_
        exact ih _ _ hw _ _ _ h (lv_sub hl [1, 2, 3, 4, 0] rfl)
      · have hw := hw.2 c9
        refine lv_iconst (v := (nI 1)) hx hb dX1_hasPage_25 (by decide) ?_
        obtain ⟨b11, hw⟩ := hw
        exact (en_z X h hr b11 hw (Nat.le_of_ble_eq_true rfl) (Nat.le_of_ble_eq_true rfl) dX1_hasPage_26)
def wpX1_hasPage (S : Mem) (a0 : Nat) (p1 : Int32) (p2 : Int32) (post : Int32 → Mem → Prop) : Prop := isK S a0 1 ∧ (wpX1_placeCount S a0 (fun x3 S1 => ∃ m, wlX1_hasPage_8 a0 p1 p2 x3 post m (nI 0) S1))
set_option maxHeartbeats 4000000 in
set_option maxRecDepth 100000 in
theorem meX1_hasPage (l : Launch) (G : GT) (S : Mem) (a0 : Nat) (p1 : Int32) (p2 : Int32) (post : Int32 → Mem → Prop) (hw : wpX1_hasPage S a0 p1 p2 post) : CN emI l yX1_hasPage (wsU yX1_hasPage cX1_hasPage 5 (some .boolean)) rmX1_hasPage 0 0 G [.ref a0, .int p1, .int p2] S post := by
  refine cn_open RX1 rfl (by decide +kernel) (Nat.le_of_ble_eq_true rfl) ?_
  intro p e s m args below meth c A X h hr hin ls hl
  have hl : lv_has ls 5 [(0, .ref a0), (1, .int p1), (2, .int p2)] := hl
  have hx := X.1
  have hb := X.2.1
  have hown := X.2.2.2.1
  unfold wpX1_hasPage at hw
  refine lv_aload_n hx hb dX1_hasPage_0 rfl (lv_at hl 0 rfl) ?_
  obtain ⟨k2, hw⟩ := hw
  refine rc_V (As := []) (rest := []) X h k2 (by decide) rfl (meX1_placeCount l G _ _ _ hw) gV_X1_42 rfl rfl hdV_X1_placeCount rfl ⟨Nat.le_of_ble_eq_true rfl, Nat.le_of_ble_eq_true rfl⟩ hl.1 rfl (Nat.le_of_ble_eq_true rfl) ⟨Nat.le_of_ble_eq_true rfl, Nat.le_of_ble_eq_true rfl⟩ dX1_hasPage_1 (fun x3 S1 H locs hw h => ?_)
  refine lv_istore_n (lv' := [(3, .int x3), (0, .ref a0), (1, .int p1), (2, .int p2)]) hx hb dX1_hasPage_4 rfl hl (by decide) rfl (fun ls hl => ?_)
  refine lv_iconst (v := (nI 0)) hx hb dX1_hasPage_5 (by decide) ?_
  refine lv_istore (lv' := [(4, .int (nI 0)), (3, .int x3), (0, .ref a0), (1, .int p1), (2, .int p2)]) hx hb dX1_hasPage_6 hl (by decide) rfl (fun ls hl => ?_)
  obtain ⟨n12, hw⟩ := hw
  exact llX1_hasPage_8  X hr _ _ _ _ _ n12 _ _ hw _ _ _ h (lv_sub hl [2, 3, 4, 1, 0] rfl)
abbrev rmX1_sheetWith : Room := { frames := 2, cells := 0, slots := 0, locals := 46 }
def wlX1_sheetWith_7 (a0 : Nat) (p1 : Int32) (x3 : Int32) (post : Int32 → Mem → Prop)  : Nat → Int32 → Mem → Prop
  | 0 => fun _ _ => False
  | n + 1 => fun w3 S => (x3 ≤ w3 → (post (-1 : Int32) S)) ∧ (¬ x3 ≤ w3 → (isK S a0 1 ∧ (wpX1_hasPage S a0 w3 p1 (fun x7 S5 => (x7 = 0 → (∀ x9 : Int32, x9 = (w3 + (nI 1)) → (wlX1_sheetWith_7 a0 p1 x3 post n x9 S5))) ∧ (¬ x7 = 0 → (post w3 S5))))))
set_option maxHeartbeats 4000000 in
set_option maxRecDepth 100000 in
theorem llX1_sheetWith_7 {p : Program} {l : Launch} {e : Env} {s : State} {m : MethodId} {args : Array Value} {below : List Frame} {meth : Method} {c : Code} {G : GT} {A : Nat → Prop} (X : Cx p s m args meth c cX1_sheetWith 4 RX1 G A) (hr : meth.sig.returnType = (some .int)) (a0 : Nat) (p1 : Int32) (x3 : Int32) (post : Int32 → Mem → Prop)   : ∀ (n : Nat) (w3 : Int32) (S : Mem), wlX1_sheetWith_7 a0 p1 x3 post n w3 S → ∀ (H : Heap) (locs : List Loc) (ls : Array Slot), Hx G A s.heap H locs S → lv_has ls 4 [(0, .ref a0), (1, .int p1), (2, .int x3), (3, .int w3)] → W p l e rmX1_sheetWith s m args below meth c H locs 0 0 (MQ below (QN emI post G A) args s 0 0 A) (F0 m 7 ls []) := by
  have hx := X.1
  have hb := X.2.1
  have hown := X.2.2.2.1
  intro n
  induction n with
  | zero =>
    intro _ _ hw
    exact hw.elim
  | succ n ih =>
    intro w3 S hw H locs ls h hl
    refine lv_iload_n hx hb dX1_sheetWith_7 rfl (lv_at hl 3 rfl) ?_
    refine lv_iload_n hx hb dX1_sheetWith_8 rfl (lv_at hl 2 rfl) ?_
    refine lv_icmp_ge (tgt := 29) hx hb dX1_sheetWith_9 (by decide) (fun c4 => ?_) (fun c4 => ?_)
    · have hw := hw.1 c4
      refine lv_iconst (v := (-1 : Int32)) hx hb dX1_sheetWith_29 (by decide) ?_
      exact (en_i X h hr hw (Nat.le_of_ble_eq_true rfl) (Nat.le_of_ble_eq_true rfl) dX1_sheetWith_30)
    · have hw := hw.2 c4
      refine lv_aload_n hx hb dX1_sheetWith_12 rfl (lv_at hl 0 rfl) ?_
      refine lv_iload_n hx hb dX1_sheetWith_13 rfl (lv_at hl 3 rfl) ?_
      refine lv_iload_n hx hb dX1_sheetWith_14 rfl (lv_at hl 1 rfl) ?_
      obtain ⟨k6, hw⟩ := hw
      refine rc_V (As := [.int w3, .int p1]) (rest := []) X h k6 (by decide) rfl (meX1_hasPage l G _ _ _ _ _ hw) gV_X1_49 rfl rfl hdV_X1_hasPage rfl ⟨Nat.le_of_ble_eq_true rfl, Nat.le_of_ble_eq_true rfl⟩ hl.1 rfl (Nat.le_of_ble_eq_true rfl) ⟨Nat.le_of_ble_eq_true rfl, Nat.le_of_ble_eq_true rfl⟩ dX1_sheetWith_15 (fun x7 S5 H locs hw h => ?_)
      refine lv_if_eq (tgt := 23) hx hb dX1_sheetWith_18 (by decide) (fun c8 => ?_) (fun c8 => ?_)
      · have hw := hw.1 c8
        obtain ⟨x9, ex9⟩ : ∃ y : Int32, y = (w3 + (nI 1)) := ⟨_, rfl⟩
        have hw := hw x9 ex9
        refine lv_iinc (v := x9) (lv' := [(3, .int x9), (0, .ref a0), (1, .int p1), (2, .int x3)]) hx hb dX1_sheetWith_23 hl (k := 3) rfl (by rw [ex9]; rfl) (by decide) rfl (fun ls hl => ?_)
        refine lv_goto (tgt := 7) hx hb dX1_sheetWith_26 (by decide) ?_
        exact ih _ _ hw _ _ _ h (lv_sub hl [1, 2, 3, 0] rfl)
      · have hw := hw.2 c8
        refine lv_iload_n hx hb dX1_sheetWith_21 rfl (lv_at hl 3 rfl) ?_
        exact (en_i X h hr hw (Nat.le_of_ble_eq_true rfl) (Nat.le_of_ble_eq_true rfl) dX1_sheetWith_22)
def wpX1_sheetWith (S : Mem) (a0 : Nat) (p1 : Int32) (post : Int32 → Mem → Prop) : Prop := isK S a0 1 ∧ (wpX1_sheetCount S a0 (fun x3 S1 => ∃ m, wlX1_sheetWith_7 a0 p1 x3 post m (nI 0) S1))
set_option maxHeartbeats 4000000 in
set_option maxRecDepth 100000 in
theorem meX1_sheetWith (l : Launch) (G : GT) (S : Mem) (a0 : Nat) (p1 : Int32) (post : Int32 → Mem → Prop) (hw : wpX1_sheetWith S a0 p1 post) : CN emI l yX1_sheetWith (wsU yX1_sheetWith cX1_sheetWith 4 (some .int)) rmX1_sheetWith 0 0 G [.ref a0, .int p1] S post := by
  refine cn_open RX1 rfl (by decide +kernel) (Nat.le_of_ble_eq_true rfl) ?_
  intro p e s m args below meth c A X h hr hin ls hl
  have hl : lv_has ls 4 [(0, .ref a0), (1, .int p1)] := hl
  have hx := X.1
  have hb := X.2.1
  have hown := X.2.2.2.1
  unfold wpX1_sheetWith at hw
  refine lv_aload_n hx hb dX1_sheetWith_0 rfl (lv_at hl 0 rfl) ?_
  obtain ⟨k2, hw⟩ := hw
  refine rc_V (As := []) (rest := []) X h k2 (by decide) rfl (meX1_sheetCount l G _ _ _ hw) gV_X1_46 rfl rfl hdV_X1_sheetCount rfl ⟨Nat.le_of_ble_eq_true rfl, Nat.le_of_ble_eq_true rfl⟩ hl.1 rfl (Nat.le_of_ble_eq_true rfl) ⟨Nat.le_of_ble_eq_true rfl, Nat.le_of_ble_eq_true rfl⟩ dX1_sheetWith_1 (fun x3 S1 H locs hw h => ?_)
  refine lv_istore_n (lv' := [(2, .int x3), (0, .ref a0), (1, .int p1)]) hx hb dX1_sheetWith_4 rfl hl (by decide) rfl (fun ls hl => ?_)
  refine lv_iconst (v := (nI 0)) hx hb dX1_sheetWith_5 (by decide) ?_
  refine lv_istore_n (lv' := [(3, .int (nI 0)), (2, .int x3), (0, .ref a0), (1, .int p1)]) hx hb dX1_sheetWith_6 rfl hl (by decide) rfl (fun ls hl => ?_)
  obtain ⟨n10, hw⟩ := hw
  exact llX1_sheetWith_7  X hr _ _ _ _ n10 _ _ hw _ _ _ h (lv_sub hl [2, 3, 1, 0] rfl)
abbrev rmX6_sheetOf : Room := { frames := 8, cells := 3, slots := 18, locals := 134 }
def wpX6_sheetOf (S : Mem) (a0 : Nat) (p1 : Int32) (p2 : Int32) (post : Int32 → Mem → Prop) (px : Nat → Mem → Prop) : Prop := isK S a0 6 ∧ (wpX6_completeJob S a0 p1 (fun r3 S1 => ∃ o4, r3 = some o4 ∧ ((p2 < (nI 1) → (px 3 S1)) ∧ (¬ p2 < (nI 1) → (isK S1 o4 1 ∧ ((p2 ≤ (mI S1 o4 3) → (wpX1_sheetWith S1 o4 p2 (fun x9 S8 => post x9 S8))) ∧ (¬ p2 ≤ (mI S1 o4 3) → (px 3 S1))))))) px)
set_option maxHeartbeats 4000000 in
set_option maxRecDepth 100000 in
theorem meX6_sheetOf (l : Launch) (hl9 : l.stackTraces = false) (G : GT) (S : Mem) (a0 : Nat) (p1 : Int32) (p2 : Int32) (post : Int32 → Mem → Prop) (px : Nat → Mem → Prop) (hw : wpX6_sheetOf S a0 p1 p2 post px) : CX emI l yX6_sheetOf (wsU yX6_sheetOf cX6_sheetOf 4 (some .int)) rmX6_sheetOf 3 18 G [.ref a0, .int p1, .int p2] S post px := by
  refine cx_open RX6 rfl (by decide +kernel) (Nat.le_of_ble_eq_true rfl) ?_
  intro p e s m args below meth c A X h hr hno ls hl
  have hl : lv_has ls 4 [(0, .ref a0), (1, .int p1), (2, .int p2)] := hl
  have hx := X.1
  have hb := X.2.1
  have hown := X.2.2.2.1
  unfold wpX6_sheetOf at hw
  refine lv_aload_n hx hb dX6_sheetOf_0 rfl (lv_at hl 0 rfl) ?_
  refine lv_iload_n hx hb dX6_sheetOf_1 rfl (lv_at hl 1 rfl) ?_
  obtain ⟨k2, hw⟩ := hw
  refine rx_V (As := [.int p1]) (rest := []) X h hno k2 (by decide) rfl (meX6_completeJob l hl9 G _ _ _ _ _ hw) gV_X6_121 rfl rfl hdV_X6_completeJob rfl ⟨Nat.le_of_ble_eq_true rfl, Nat.le_of_ble_eq_true rfl⟩ hl.1 rfl (Nat.le_of_ble_eq_true rfl) ⟨Nat.le_of_ble_eq_true rfl, Nat.le_of_ble_eq_true rfl⟩ ⟨Nat.le_of_ble_eq_true rfl, Nat.le_of_ble_eq_true rfl⟩ dX6_sheetOf_2 (fun r3 S1 H locs hw h => ?_)
  obtain ⟨o4, rfl, hw⟩ := hw
  refine lv_astore_n (lv' := [(3, .ref o4), (0, .ref a0), (1, .int p1), (2, .int p2)]) hx hb dX6_sheetOf_5 rfl hl (by decide) rfl (fun ls hl => ?_)
  refine lv_iload_n hx hb dX6_sheetOf_6 rfl (lv_at hl 3 rfl) ?_
  refine lv_iconst (v := (nI 1)) hx hb dX6_sheetOf_7 (by decide) ?_
  refine lv_icmp_lt (tgt := 19) hx hb dX6_sheetOf_8 (by decide) (fun c5 => ?_) (fun c5 => ?_)
  · have hw := hw.1 c5
    exact en_y ta_X6_138d0 ta_X6_138d1 ta_X6_138d2 ta_X6_138d5 3 X h hl9 th_X6_143 hl.1 hno dX6_sheetOf_19 dX6_sheetOf_22 dX6_sheetOf_23 dX6_sheetOf_25 dX6_sheetOf_28 ⟨Nat.le_of_ble_eq_true rfl, Nat.le_of_ble_eq_true rfl⟩ ⟨Nat.le_of_ble_eq_true rfl, Nat.le_of_ble_eq_true rfl⟩ ⟨Nat.le_of_ble_eq_true rfl, Nat.le_of_ble_eq_true rfl⟩ hw
  · have hw := hw.2 c5
    refine lv_iload_n hx hb dX6_sheetOf_11 rfl (lv_at hl 3 rfl) ?_
    refine lv_aload_n hx hb dX6_sheetOf_12 rfl (lv_at hl 0 rfl) ?_
    obtain ⟨k6, hw⟩ := hw
    refine r_getIN X h k6 3  (by decide) rfl inX1 (by decide) rfl q434 rfl dX6_sheetOf_13 ?_
    refine lv_icmp_le (tgt := 29) hx hb dX6_sheetOf_16 (by decide) (fun c7 => ?_) (fun c7 => ?_)
    · have hw := hw.1 c7
      refine lv_aload_n hx hb dX6_sheetOf_29 rfl (lv_at hl 0 rfl) ?_
      refine lv_iload_n hx hb dX6_sheetOf_30 rfl (lv_at hl 3 rfl) ?_
      refine rc_V (As := [.int p2]) (rest := []) X h k6 (by decide) rfl (meX1_sheetWith l G _ _ _ _ hw) gV_X6_145 rfl rfl hdV_X1_sheetWith rfl ⟨Nat.le_of_ble_eq_true rfl, Nat.le_of_ble_eq_true rfl⟩ hl.1 rfl (Nat.le_of_ble_eq_true rfl) ⟨Nat.le_of_ble_eq_true rfl, Nat.le_of_ble_eq_true rfl⟩ dX6_sheetOf_31 (fun x9 S8 H locs hw h => ?_)
      exact vx_ret (en_i X h hr hw (Nat.le_of_ble_eq_true rfl) (Nat.le_of_ble_eq_true rfl) dX6_sheetOf_34)
    · have hw := hw.2 c7
      exact en_y ta_X6_138d0 ta_X6_138d1 ta_X6_138d2 ta_X6_138d5 3 X h hl9 th_X6_143 hl.1 hno dX6_sheetOf_19 dX6_sheetOf_22 dX6_sheetOf_23 dX6_sheetOf_25 dX6_sheetOf_28 ⟨Nat.le_of_ble_eq_true rfl, Nat.le_of_ble_eq_true rfl⟩ ⟨Nat.le_of_ble_eq_true rfl, Nat.le_of_ble_eq_true rfl⟩ ⟨Nat.le_of_ble_eq_true rfl, Nat.le_of_ble_eq_true rfl⟩ hw
abbrev rmL_sheetOf : Room := { frames := 9, cells := 3, slots := 18, locals := 157 }
def wpL_sheetOf (S : Mem) (a0 : Nat) (p1 : Int32) (p2 : Int32) (a3 : Nat) (post : Int32 → Mem → Prop) : Prop := isK S a0 6 ∧ (wpX6_sheetOf S a0 p1 p2 (fun x3 S1 => isK S1 a3 12 ∧ (vp_in (nI 0) (mN S1 a3) ∧ (∀ S8 : Mem, S8 = (sJ S1 a3 (nI 0).toNatClampNeg x3.toInt64) → (post (nI 0) S8)))) (fun k4 S5 => (k4 = 1 → (post (nI 1) S5)) ∧ (k4 = 2 → (post (nI 2) S5)) ∧ (k4 = 3 → (post (nI 3) S5)) ∧ (k4 = 1 ∨ k4 = 2 ∨ k4 = 3)))
set_option maxHeartbeats 4000000 in
set_option maxRecDepth 100000 in
theorem meL_sheetOf (l : Launch) (hl9 : l.stackTraces = false) (G : GT) (S : Mem) (a0 : Nat) (p1 : Int32) (p2 : Int32) (a3 : Nat) (post : Int32 → Mem → Prop) (hw : wpL_sheetOf S a0 p1 p2 a3 post) : CN emI l yL_sheetOf (wsH yL_sheetOf cL_sheetOf 5 (some .int) [(0, 10, 13, 19), (0, 10, 17, 13), (0, 10, 21, 48)]) rmL_sheetOf 3 18 G [.ref a0, .int p1, .int p2, .ref a3] S post := by
  refine ch_open RL rfl (by decide +kernel) (Nat.le_of_ble_eq_true rfl) ?_
  intro p e s m args below meth c A X h hr hTab ls hl
  have hl : lv_has ls 5 [(0, .ref a0), (1, .int p1), (2, .int p2), (3, .ref a3)] := hl
  have hx := X.1
  have hb := X.2.1
  have hown := X.2.2.2.1
  unfold wpL_sheetOf at hw
  refine lv_aload_n hx hb dL_sheetOf_0 rfl (lv_at hl 3 rfl) ?_
  refine lv_iconst (v := (nI 0)) hx hb dL_sheetOf_1 (by decide) ?_
  refine lv_aload_n hx hb dL_sheetOf_2 rfl (lv_at hl 0 rfl) ?_
  refine lv_iload_n hx hb dL_sheetOf_3 rfl (lv_at hl 1 rfl) ?_
  refine lv_iload_n hx hb dL_sheetOf_4 rfl (lv_at hl 2 rfl) ?_
  obtain ⟨k2, hw⟩ := hw
  refine rx_VH (As := [.int p1, .int p2]) (rest := [.int (nI 0), .ref a3]) X h k2 (by decide) rfl (meX6_sheetOf l hl9 G _ _ _ _ _ _ hw) gV_L_50 rfl rfl hdV_X6_sheetOf rfl ⟨Nat.le_of_ble_eq_true rfl, Nat.le_of_ble_eq_true rfl⟩ hl.1 rfl (Nat.le_of_ble_eq_true rfl) ⟨Nat.le_of_ble_eq_true rfl, Nat.le_of_ble_eq_true rfl⟩ dL_sheetOf_5 (fun k4 S5 H locs q9 ce hw h hce hcv hcl => ?_) (fun x3 S1 H locs hw h => ?_)
  · rcases hw.2.2.2 with hk9 | hk9 | hk9
    · subst hk9
      have hw := hw.1 rfl
      refine vx_catch (own := RL) (name := "java/lang/IndexOutOfBoundsException") (E := xn 1) hown [] ⟨0, 10, 13, 19⟩ [⟨0, 10, 17, 13⟩, ⟨0, 10, 21, 48⟩] (by rw [hTab]; rfl) (fun z hz => nomatch hz) (by decide) (by decide) (X.hts q277) (va_Nw.use (by rfl) (X.nw q311)) hce hcv hcl ?_
      refine lv_astore (lv' := [(4, .ref q9), (0, .ref a0), (1, .int p1), (2, .int p2), (3, .ref a3)]) hx hb dL_sheetOf_13 hl (by decide) rfl (fun ls hl => ?_)
      refine lv_iconst (v := (nI 1)) hx hb dL_sheetOf_15 (by decide) ?_
      exact (en_i X h hr hw (Nat.le_of_ble_eq_true rfl) (Nat.le_of_ble_eq_true rfl) dL_sheetOf_16)
    · subst hk9
      have hw := hw.2.1 rfl
      have hpass2 : ∀ z ∈ ([⟨0, 10, 13, 19⟩] : List ExceptionTableEntry), covers z 5 = false ∨ (z.catchType ≠ 0 ∧ ∃ nm : String, (Cond.classLink RL z.catchType nm).before args s = true ∧ va_Nc (xn 2) nm s) := by
        intro z hz
        rcases List.mem_cons.mp hz with rfl | hz
        · exact Or.inr ⟨by decide, "java/lang/IndexOutOfBoundsException", X.hts q277, X.2.2.2.2.2.2.1.2.2.2.2.1 ("java/lang/IllegalStateException", "java/lang/IndexOutOfBoundsException") (by decide +kernel)⟩
        cases hz
      refine vx_catch (own := RL) (name := "java/lang/IllegalStateException") (E := xn 2) hown [⟨0, 10, 13, 19⟩] ⟨0, 10, 17, 13⟩ [⟨0, 10, 21, 48⟩] (by rw [hTab]; rfl) (hpass2) (by decide) (by decide) (X.hts q193) (va_Nw.use (by rfl) (X.nw q200)) hce hcv hcl ?_
      refine lv_astore (lv' := [(4, .ref q9), (0, .ref a0), (1, .int p1), (2, .int p2), (3, .ref a3)]) hx hb dL_sheetOf_17 hl (by decide) rfl (fun ls hl => ?_)
      refine lv_iconst (v := (nI 2)) hx hb dL_sheetOf_19 (by decide) ?_
      exact (en_i X h hr hw (Nat.le_of_ble_eq_true rfl) (Nat.le_of_ble_eq_true rfl) dL_sheetOf_20)
    · subst hk9
      have hw := hw.2.2.1 rfl
      have hpass3 : ∀ z ∈ ([⟨0, 10, 13, 19⟩, ⟨0, 10, 17, 13⟩] : List ExceptionTableEntry), covers z 5 = false ∨ (z.catchType ≠ 0 ∧ ∃ nm : String, (Cond.classLink RL z.catchType nm).before args s = true ∧ va_Nc (xn 3) nm s) := by
        intro z hz
        rcases List.mem_cons.mp hz with rfl | hz
        · exact Or.inr ⟨by decide, "java/lang/IndexOutOfBoundsException", X.hts q277, X.2.2.2.2.2.2.1.2.2.2.2.1 ("java/util/NoSuchElementException", "java/lang/IndexOutOfBoundsException") (by decide +kernel)⟩
        rcases List.mem_cons.mp hz with rfl | hz
        · exact Or.inr ⟨by decide, "java/lang/IllegalStateException", X.hts q193, X.2.2.2.2.2.2.1.2.2.2.2.1 ("java/util/NoSuchElementException", "java/lang/IllegalStateException") (by decide +kernel)⟩
        cases hz
      refine vx_catch (own := RL) (name := "java/util/NoSuchElementException") (E := xn 3) hown [⟨0, 10, 13, 19⟩, ⟨0, 10, 17, 13⟩] ⟨0, 10, 21, 48⟩ [] (by rw [hTab]; rfl) (hpass3) (by decide) (by decide) (X.hts q495) (va_Nw.use (by rfl) (X.nw q505)) hce hcv hcl ?_
      refine lv_astore (lv' := [(4, .ref q9), (0, .ref a0), (1, .int p1), (2, .int p2), (3, .ref a3)]) hx hb dL_sheetOf_21 hl (by decide) rfl (fun ls hl => ?_)
      refine lv_iconst (v := (nI 3)) hx hb dL_sheetOf_23 (by decide) ?_
      exact (en_i X h hr hw (Nat.le_of_ble_eq_true rfl) (Nat.le_of_ble_eq_true rfl) dL_sheetOf_24)
  · refine lv_i2l (v := x3.toInt64) hx hb dL_sheetOf_8 rfl ?_
    obtain ⟨k6, hw⟩ := hw
    obtain ⟨v7, hw⟩ := hw
    refine r_last X h k6 v7 dL_sheetOf_9 (fun H locs h => ?_)
    obtain ⟨S8, eS8⟩ : ∃ z : Mem, z = (sJ S1 a3 (nI 0).toNatClampNeg x3.toInt64) := ⟨_, rfl⟩
    rw [← eS8] at h
    have hw := hw S8 eS8
    refine lv_goto (tgt := 25) hx hb dL_sheetOf_10 (by decide) ?_
    refine lv_iconst (v := (nI 0)) hx hb dL_sheetOf_25 (by decide) ?_
    exact (en_i X h hr hw (Nat.le_of_ble_eq_true rfl) (Nat.le_of_ble_eq_true rfl) dL_sheetOf_26)
abbrev rmX7_sheetOf : Room := { frames := 3, cells := 0, slots := 0, locals := 63 }
def wlX7_sheetOf_24 (a0 : Nat) (p1 : Int32) (p2 : Int32) (w3 : Int32) (post : Int32 → Mem → Prop) (J12 : Int32 → Mem → Prop) : Nat → Int32 → Mem → Prop
  | 0 => fun _ _ => False
  | n + 1 => fun w4 S => isK S a0 7 ∧ (wpX7_places S a0 p1 (fun x14 S12 => (x14 ≤ w4 → (∀ x16 : Int32, x16 = (w3 + (nI 1)) → (J12 x16 S12))) ∧ (¬ x14 ≤ w4 → (isK S12 a0 7 ∧ (wpX7_pageOn S12 a0 p1 w3 w4 (fun x19 S17 => (¬ x19 = p2 → (∀ x21 : Int32, x21 = (w4 + (nI 1)) → (wlX7_sheetOf_24 a0 p1 p2 w3 post J12 n x21 S17))) ∧ (x19 = p2 → (post w3 S17))))))))
set_option maxHeartbeats 4000000 in
set_option maxRecDepth 100000 in
theorem llX7_sheetOf_24 {p : Program} {l : Launch} {e : Env} {s : State} {m : MethodId} {args : Array Value} {below : List Frame} {meth : Method} {c : Code} {G : GT} {A : Nat → Prop} (X : Cx p s m args meth c cX7_sheetOf 5 RX7 G A) (hr : meth.sig.returnType = (some .int)) (a0 : Nat) (p1 : Int32) (p2 : Int32) (w3 : Int32) (post : Int32 → Mem → Prop) (J12 : Int32 → Mem → Prop) (hJ12 : ∀ (w3 : Int32) (S : Mem), J12 w3 S → ∀ (H : Heap) (locs : List Loc) (ls : Array Slot), Hx G A s.heap H locs S → lv_has ls 5 [(0, .ref a0), (1, .int p1), (2, .int p2), (3, .int w3)] → W p l e rmX7_sheetOf s m args below meth c H locs 0 0 (MQ below (QN emI post G A) args s 0 0 A) (F0 m 12 ls [])) : ∀ (n : Nat) (w4 : Int32) (S : Mem), wlX7_sheetOf_24 a0 p1 p2 w3 post J12 n w4 S → ∀ (H : Heap) (locs : List Loc) (ls : Array Slot), Hx G A s.heap H locs S → lv_has ls 5 [(0, .ref a0), (1, .int p1), (2, .int p2), (3, .int w3), (4, .int w4)] → W p l e rmX7_sheetOf s m args below meth c H locs 0 0 (MQ below (QN emI post G A) args s 0 0 A) (F0 m 24 ls []) := by
  have hx := X.1
  have hb := X.2.1
  have hown := X.2.2.2.1
  intro n
  induction n with
  | zero =>
    intro _ _ hw
    exact hw.elim
  | succ n ih =>
    intro w4 S hw H locs ls h hl
    refine lv_iload hx hb dX7_sheetOf_24 (lv_at hl 4 rfl) ?_
    refine lv_aload_n hx hb dX7_sheetOf_26 rfl (lv_at hl 0 rfl) ?_
    refine lv_iload_n hx hb dX7_sheetOf_27 rfl (lv_at hl 1 rfl) ?_
    obtain ⟨k13, hw⟩ := hw
    refine rc_V (As := [.int p1]) (rest := [.int w4]) X h k13 (by decide) rfl (meX7_places l G _ _ _ _ hw) gV_X7_64 rfl rfl hdV_X7_places rfl ⟨Nat.le_of_ble_eq_true rfl, Nat.le_of_ble_eq_true rfl⟩ hl.1 rfl (Nat.le_of_ble_eq_true rfl) ⟨Nat.le_of_ble_eq_true rfl, Nat.le_of_ble_eq_true rfl⟩ dX7_sheetOf_28 (fun x14 S12 H locs hw h => ?_)
    refine lv_icmp_ge (tgt := 54) hx hb dX7_sheetOf_31 (by decide) (fun c15 => ?_) (fun c15 => ?_)
    · have hw := hw.1 c15
      obtain ⟨x16, ex16⟩ : ∃ y : Int32, y = (w3 + (nI 1)) := ⟨_, rfl⟩
      have hw := hw x16 ex16
      refine lv_iinc (v := x16) (lv' := [(3, .int x16), (0, .ref a0), (1, .int p1), (2, .int p2), (4, .int w4)]) hx hb dX7_sheetOf_54 hl (k := 3) rfl (by rw [ex16]; rfl) (by decide) rfl (fun ls hl => ?_)
      refine lv_goto (tgt := 12) hx hb dX7_sheetOf_57 (by decide) ?_
      exact hJ12 _ _ hw _ _ _ h (lv_sub hl [1, 2, 3, 0] rfl)
    · have hw := hw.2 c15
      refine lv_aload_n hx hb dX7_sheetOf_34 rfl (lv_at hl 0 rfl) ?_
      refine lv_iload_n hx hb dX7_sheetOf_35 rfl (lv_at hl 1 rfl) ?_
      refine lv_iload_n hx hb dX7_sheetOf_36 rfl (lv_at hl 3 rfl) ?_
      refine lv_iload hx hb dX7_sheetOf_37 (lv_at hl 4 rfl) ?_
      obtain ⟨k18, hw⟩ := hw
      refine rc_V (As := [.int p1, .int w3, .int w4]) (rest := []) X h k18 (by decide) rfl (meX7_pageOn l G _ _ _ _ _ _ hw) gV_X7_81 rfl rfl hdV_X7_pageOn rfl ⟨Nat.le_of_ble_eq_true rfl, Nat.le_of_ble_eq_true rfl⟩ hl.1 rfl (Nat.le_of_ble_eq_true rfl) ⟨Nat.le_of_ble_eq_true rfl, Nat.le_of_ble_eq_true rfl⟩ dX7_sheetOf_39 (fun x19 S17 H locs hw h => ?_)
      refine lv_iload_n hx hb dX7_sheetOf_42 rfl (lv_at hl 2 rfl) ?_
      refine lv_icmp_ne (tgt := 48) hx hb dX7_sheetOf_43 (by decide) (fun c20 => ?_) (fun c20 => ?_)
      · have hw := hw.1 c20
        obtain ⟨x21, ex21⟩ : ∃ y : Int32, y = (w4 + (nI 1)) := ⟨_, rfl⟩
        have hw := hw x21 ex21
        refine lv_iinc (v := x21) (lv' := [(4, .int x21), (0, .ref a0), (1, .int p1), (2, .int p2), (3, .int w3)]) hx hb dX7_sheetOf_48 hl (k := 4) rfl (by rw [ex21]; rfl) (by decide) rfl (fun ls hl => ?_)
        refine lv_goto (tgt := 24) hx hb dX7_sheetOf_51 (by decide) ?_
        exact ih _ _ hw _ _ _ h (lv_sub hl [1, 2, 3, 4, 0] rfl)
      · have hw := hw.2 c20
        refine lv_iload_n hx hb dX7_sheetOf_46 rfl (lv_at hl 3 rfl) ?_
        exact (en_i X h hr hw (Nat.le_of_ble_eq_true rfl) (Nat.le_of_ble_eq_true rfl) dX7_sheetOf_47)
def wlX7_sheetOf_12 (a0 : Nat) (p1 : Int32) (p2 : Int32)  (post : Int32 → Mem → Prop)  : Nat → Int32 → Mem → Prop
  | 0 => fun _ _ => False
  | n + 1 => fun w3 S => isK S a0 7 ∧ (wpX7_count S a0 p1 (fun x7 S5 => (x7 ≤ w3 → (isK S5 a0 7 ∧ (wpX7_fails S5 a0 (nI 3) (fun x11 S9 => post x11 S9)))) ∧ (¬ x7 ≤ w3 → (∃ m, wlX7_sheetOf_24 a0 p1 p2 w3 post (fun w3 S => wlX7_sheetOf_12 a0 p1 p2 post n w3 S) m (nI 0) S5))))
set_option maxHeartbeats 4000000 in
set_option maxRecDepth 100000 in
theorem llX7_sheetOf_12 {p : Program} {l : Launch} {e : Env} {s : State} {m : MethodId} {args : Array Value} {below : List Frame} {meth : Method} {c : Code} {G : GT} {A : Nat → Prop} (X : Cx p s m args meth c cX7_sheetOf 5 RX7 G A) (hr : meth.sig.returnType = (some .int)) (a0 : Nat) (p1 : Int32) (p2 : Int32)  (post : Int32 → Mem → Prop)   : ∀ (n : Nat) (w3 : Int32) (S : Mem), wlX7_sheetOf_12 a0 p1 p2 post n w3 S → ∀ (H : Heap) (locs : List Loc) (ls : Array Slot), Hx G A s.heap H locs S → lv_has ls 5 [(0, .ref a0), (1, .int p1), (2, .int p2), (3, .int w3)] → W p l e rmX7_sheetOf s m args below meth c H locs 0 0 (MQ below (QN emI post G A) args s 0 0 A) (F0 m 12 ls []) := by
  have hx := X.1
  have hb := X.2.1
  have hown := X.2.2.2.1
  intro n
  induction n with
  | zero =>
    intro _ _ hw
    exact hw.elim
  | succ n ih =>
    intro w3 S hw H locs ls h hl
    refine lv_iload_n hx hb dX7_sheetOf_12 rfl (lv_at hl 3 rfl) ?_
    refine lv_aload_n hx hb dX7_sheetOf_13 rfl (lv_at hl 0 rfl) ?_
    refine lv_iload_n hx hb dX7_sheetOf_14 rfl (lv_at hl 1 rfl) ?_
    obtain ⟨k6, hw⟩ := hw
    refine rc_V (As := [.int p1]) (rest := [.int w3]) X h k6 (by decide) rfl (meX7_count l G _ _ _ _ hw) gV_X7_78 rfl rfl hdV_X7_count rfl ⟨Nat.le_of_ble_eq_true rfl, Nat.le_of_ble_eq_true rfl⟩ hl.1 rfl (Nat.le_of_ble_eq_true rfl) ⟨Nat.le_of_ble_eq_true rfl, Nat.le_of_ble_eq_true rfl⟩ dX7_sheetOf_15 (fun x7 S5 H locs hw h => ?_)
    refine lv_icmp_ge (tgt := 60) hx hb dX7_sheetOf_18 (by decide) (fun c8 => ?_) (fun c8 => ?_)
    · have hw := hw.1 c8
      refine lv_aload_n hx hb dX7_sheetOf_60 rfl (lv_at hl 0 rfl) ?_
      refine lv_iconst (v := (nI 3)) hx hb dX7_sheetOf_61 (by decide) ?_
      obtain ⟨k10, hw⟩ := hw
      refine rc_V (As := [.int (nI 3)]) (rest := []) X h k10 (by decide) rfl (meX7_fails l G _ _ _ _ hw) gV_X7_101 rfl rfl hdV_X7_fails rfl ⟨Nat.le_of_ble_eq_true rfl, Nat.le_of_ble_eq_true rfl⟩ hl.1 rfl (Nat.le_of_ble_eq_true rfl) ⟨Nat.le_of_ble_eq_true rfl, Nat.le_of_ble_eq_true rfl⟩ dX7_sheetOf_62 (fun x11 S9 H locs hw h => ?_)
      exact (en_i X h hr hw (Nat.le_of_ble_eq_true rfl) (Nat.le_of_ble_eq_true rfl) dX7_sheetOf_65)
    · have hw := hw.2 c8
      refine lv_iconst (v := (nI 0)) hx hb dX7_sheetOf_21 (by decide) ?_
      refine lv_istore (lv' := [(4, .int (nI 0)), (0, .ref a0), (1, .int p1), (2, .int p2), (3, .int w3)]) hx hb dX7_sheetOf_22 hl (by decide) rfl (fun ls hl => ?_)
      obtain ⟨n22, hw⟩ := hw
      exact llX7_sheetOf_24  X hr _ _ _ _ _ _ (fun w3 S hw H locs ls h hl => ih w3 S hw H locs ls h hl) n22 _ _ hw _ _ _ h (lv_sub hl [1, 2, 3, 4, 0] rfl)
def wpX7_sheetOf (S : Mem) (a0 : Nat) (p1 : Int32) (p2 : Int32) (post : Int32 → Mem → Prop) : Prop := isK S a0 7 ∧ (wpX7_isJob S a0 p1 (fun x3 S1 => (¬ x3 = 0 → (∃ m, wlX7_sheetOf_12 a0 p1 p2 post m (nI 0) S1)) ∧ (x3 = 0 → (post (nI 0) S1))))
set_option maxHeartbeats 4000000 in
set_option maxRecDepth 100000 in
theorem meX7_sheetOf (l : Launch) (G : GT) (S : Mem) (a0 : Nat) (p1 : Int32) (p2 : Int32) (post : Int32 → Mem → Prop) (hw : wpX7_sheetOf S a0 p1 p2 post) : CN emI l yX7_sheetOf (wsU yX7_sheetOf cX7_sheetOf 5 (some .int)) rmX7_sheetOf 0 0 G [.ref a0, .int p1, .int p2] S post := by
  refine cn_open RX7 rfl (by decide +kernel) (Nat.le_of_ble_eq_true rfl) ?_
  intro p e s m args below meth c A X h hr hin ls hl
  have hl : lv_has ls 5 [(0, .ref a0), (1, .int p1), (2, .int p2)] := hl
  have hx := X.1
  have hb := X.2.1
  have hown := X.2.2.2.1
  unfold wpX7_sheetOf at hw
  refine lv_aload_n hx hb dX7_sheetOf_0 rfl (lv_at hl 0 rfl) ?_
  refine lv_iload_n hx hb dX7_sheetOf_1 rfl (lv_at hl 1 rfl) ?_
  obtain ⟨k2, hw⟩ := hw
  refine rc_V (As := [.int p1]) (rest := []) X h k2 (by decide) rfl (meX7_isJob l G _ _ _ _ hw) gV_X7_75 rfl rfl hdV_X7_isJob rfl ⟨Nat.le_of_ble_eq_true rfl, Nat.le_of_ble_eq_true rfl⟩ hl.1 rfl (Nat.le_of_ble_eq_true rfl) ⟨Nat.le_of_ble_eq_true rfl, Nat.le_of_ble_eq_true rfl⟩ dX7_sheetOf_2 (fun x3 S1 H locs hw h => ?_)
  refine lv_if_ne (tgt := 10) hx hb dX7_sheetOf_5 (by decide) (fun c4 => ?_) (fun c4 => ?_)
  · have hw := hw.1 c4
    refine lv_iconst (v := (nI 0)) hx hb dX7_sheetOf_10 (by decide) ?_
    refine lv_istore_n (lv' := [(3, .int (nI 0)), (0, .ref a0), (1, .int p1), (2, .int p2)]) hx hb dX7_sheetOf_11 rfl hl (by decide) rfl (fun ls hl => ?_)
    obtain ⟨n23, hw⟩ := hw
    exact llX7_sheetOf_12  X hr _ _ _ _ n23 _ _ hw _ _ _ h (lv_sub hl [1, 2, 3, 0] rfl)
  · have hw := hw.2 c4
    refine lv_iconst (v := (nI 0)) hx hb dX7_sheetOf_8 (by decide) ?_
    exact (en_i X h hr hw (Nat.le_of_ble_eq_true rfl) (Nat.le_of_ble_eq_true rfl) dX7_sheetOf_9)
abbrev rmX6_isWhollyApproved : Room := { frames := 3, cells := 0, slots := 0, locals := 64 }
def wlX6_isWhollyApproved_8 (a0 : Nat) (a1 : Nat) (p2 : Int32) (x3 : Int32) (post : Int32 → Mem → Prop)  : Nat → Int32 → Mem → Prop
  | 0 => fun _ _ => False
  | n + 1 => fun w4 S => (x3 ≤ w4 → (vz_nar (nI 1) ∧ (post (nI 1) S))) ∧ (¬ x3 ≤ w4 → (isK S a0 6 ∧ (∃ o7, mR S a0 0 = some o7 ∧ (isK S a1 1 ∧ (wpX1_contentOn S a1 p2 w4 (fun x10 S8 => isK S8 o7 0 ∧ (wpX0_isApproved S8 o7 x10 (fun x13 S11 => (¬ x13 = 0 → (∀ x15 : Int32, x15 = (w4 + (nI 1)) → (wlX6_isWhollyApproved_8 a0 a1 p2 x3 post n x15 S11))) ∧ (x13 = 0 → (vz_nar (nI 0) ∧ (post (nI 0) S11)))))))))))
set_option maxHeartbeats 4000000 in
set_option maxRecDepth 100000 in
theorem llX6_isWhollyApproved_8 {p : Program} {l : Launch} {e : Env} {s : State} {m : MethodId} {args : Array Value} {below : List Frame} {meth : Method} {c : Code} {G : GT} {A : Nat → Prop} (X : Cx p s m args meth c cX6_isWhollyApproved 5 RX6 G A) (hr : meth.sig.returnType = (some .boolean)) (a0 : Nat) (a1 : Nat) (p2 : Int32) (x3 : Int32) (post : Int32 → Mem → Prop)   : ∀ (n : Nat) (w4 : Int32) (S : Mem), wlX6_isWhollyApproved_8 a0 a1 p2 x3 post n w4 S → ∀ (H : Heap) (locs : List Loc) (ls : Array Slot), Hx G A s.heap H locs S → lv_has ls 5 [(0, .ref a0), (1, .ref a1), (2, .int p2), (3, .int x3), (4, .int w4)] → W p l e rmX6_isWhollyApproved s m args below meth c H locs 0 0 (MQ below (QN emI post G A) args s 0 0 A) (F0 m 8 ls []) := by
  have hx := X.1
  have hb := X.2.1
  have hown := X.2.2.2.1
  intro n
  induction n with
  | zero =>
    intro _ _ hw
    exact hw.elim
  | succ n ih =>
    intro w4 S hw H locs ls h hl
    refine lv_iload hx hb dX6_isWhollyApproved_8 (lv_at hl 4 rfl) ?_
    refine lv_iload_n hx hb dX6_isWhollyApproved_10 rfl (lv_at hl 3 rfl) ?_
    refine lv_icmp_ge (tgt := 39) hx hb dX6_isWhollyApproved_11 (by decide) (fun c4 => ?_) (fun c4 => ?_)
    · have hw := hw.1 c4
      refine lv_iconst (v := (nI 1)) hx hb dX6_isWhollyApproved_39 (by decide) ?_
      obtain ⟨b5, hw⟩ := hw
      exact (en_z X h hr b5 hw (Nat.le_of_ble_eq_true rfl) (Nat.le_of_ble_eq_true rfl) dX6_isWhollyApproved_40)
    · have hw := hw.2 c4
      refine lv_aload_n hx hb dX6_isWhollyApproved_14 rfl (lv_at hl 0 rfl) ?_
      obtain ⟨k6, hw⟩ := hw
      obtain ⟨o7, eo7, hw⟩ := hw
      refine r_getR X h k6 0 eo7  (by decide) rfl inX6 (by decide) rfl q141 rfl dX6_isWhollyApproved_15 ?_
      refine lv_aload_n hx hb dX6_isWhollyApproved_18 rfl (lv_at hl 1 rfl) ?_
      refine lv_iload_n hx hb dX6_isWhollyApproved_19 rfl (lv_at hl 2 rfl) ?_
      refine lv_iload hx hb dX6_isWhollyApproved_20 (lv_at hl 4 rfl) ?_
      obtain ⟨k9, hw⟩ := hw
      refine rc_V (As := [.int p2, .int w4]) (rest := [.ref o7]) X h k9 (by decide) rfl (meX1_contentOn l G _ _ _ _ _ hw) gV_X6_300 rfl rfl hdV_X1_contentOn rfl ⟨Nat.le_of_ble_eq_true rfl, Nat.le_of_ble_eq_true rfl⟩ hl.1 rfl (Nat.le_of_ble_eq_true rfl) ⟨Nat.le_of_ble_eq_true rfl, Nat.le_of_ble_eq_true rfl⟩ dX6_isWhollyApproved_22 (fun x10 S8 H locs hw h => ?_)
      obtain ⟨k12, hw⟩ := hw
      refine rc_V (As := [.int x10]) (rest := []) X h k12 (by decide) rfl (meX0_isApproved l G _ _ _ _ hw) gV_X6_68 rfl rfl hdV_X0_isApproved rfl ⟨Nat.le_of_ble_eq_true rfl, Nat.le_of_ble_eq_true rfl⟩ hl.1 rfl (Nat.le_of_ble_eq_true rfl) ⟨Nat.le_of_ble_eq_true rfl, Nat.le_of_ble_eq_true rfl⟩ dX6_isWhollyApproved_25 (fun x13 S11 H locs hw h => ?_)
      refine lv_if_ne (tgt := 33) hx hb dX6_isWhollyApproved_28 (by decide) (fun c14 => ?_) (fun c14 => ?_)
      · have hw := hw.1 c14
        obtain ⟨x15, ex15⟩ : ∃ y : Int32, y = (w4 + (nI 1)) := ⟨_, rfl⟩
        have hw := hw x15 ex15
        refine lv_iinc (v := x15) (lv' := [(4, .int x15), (0, .ref a0), (1, .ref a1), (2, .int p2), (3, .int x3)]) hx hb dX6_isWhollyApproved_33 hl (k := 4) rfl (by rw [ex15]; rfl) (by decide) rfl (fun ls hl => ?_)
        refine lv_goto (tgt := 8) hx hb dX6_isWhollyApproved_36 (by decide) ?_
        exact ih _ _ hw _ _ _ h (lv_sub hl [1, 2, 3, 4, 0] rfl)
      · have hw := hw.2 c14
        refine lv_iconst (v := (nI 0)) hx hb dX6_isWhollyApproved_31 (by decide) ?_
        obtain ⟨b16, hw⟩ := hw
        exact (en_z X h hr b16 hw (Nat.le_of_ble_eq_true rfl) (Nat.le_of_ble_eq_true rfl) dX6_isWhollyApproved_32)
def wpX6_isWhollyApproved (S : Mem) (a0 : Nat) (a1 : Nat) (p2 : Int32) (post : Int32 → Mem → Prop) : Prop := isK S a1 1 ∧ (wpX1_placeCount S a1 (fun x3 S1 => ∃ m, wlX6_isWhollyApproved_8 a0 a1 p2 x3 post m (nI 0) S1))
set_option maxHeartbeats 4000000 in
set_option maxRecDepth 100000 in
theorem meX6_isWhollyApproved (l : Launch) (G : GT) (S : Mem) (a0 : Nat) (a1 : Nat) (p2 : Int32) (post : Int32 → Mem → Prop) (hw : wpX6_isWhollyApproved S a0 a1 p2 post) : CN emI l yX6_isWhollyApproved (wsU yX6_isWhollyApproved cX6_isWhollyApproved 5 (some .boolean)) rmX6_isWhollyApproved 0 0 G [.ref a0, .ref a1, .int p2] S post := by
  refine cn_open RX6 rfl (by decide +kernel) (Nat.le_of_ble_eq_true rfl) ?_
  intro p e s m args below meth c A X h hr hin ls hl
  have hl : lv_has ls 5 [(0, .ref a0), (1, .ref a1), (2, .int p2)] := hl
  have hx := X.1
  have hb := X.2.1
  have hown := X.2.2.2.1
  unfold wpX6_isWhollyApproved at hw
  refine lv_aload_n hx hb dX6_isWhollyApproved_0 rfl (lv_at hl 1 rfl) ?_
  obtain ⟨k2, hw⟩ := hw
  refine rc_V (As := []) (rest := []) X h k2 (by decide) rfl (meX1_placeCount l G _ _ _ hw) gV_X6_131 rfl rfl hdV_X1_placeCount rfl ⟨Nat.le_of_ble_eq_true rfl, Nat.le_of_ble_eq_true rfl⟩ hl.1 rfl (Nat.le_of_ble_eq_true rfl) ⟨Nat.le_of_ble_eq_true rfl, Nat.le_of_ble_eq_true rfl⟩ dX6_isWhollyApproved_1 (fun x3 S1 H locs hw h => ?_)
  refine lv_istore_n (lv' := [(3, .int x3), (0, .ref a0), (1, .ref a1), (2, .int p2)]) hx hb dX6_isWhollyApproved_4 rfl hl (by decide) rfl (fun ls hl => ?_)
  refine lv_iconst (v := (nI 0)) hx hb dX6_isWhollyApproved_5 (by decide) ?_
  refine lv_istore (lv' := [(4, .int (nI 0)), (3, .int x3), (0, .ref a0), (1, .ref a1), (2, .int p2)]) hx hb dX6_isWhollyApproved_6 hl (by decide) rfl (fun ls hl => ?_)
  obtain ⟨n17, hw⟩ := hw
  exact llX6_isWhollyApproved_8  X hr _ _ _ _ _ n17 _ _ hw _ _ _ h (lv_sub hl [2, 3, 4, 1, 0] rfl)
abbrev rmX1_stockOf : Room := { frames := 1, cells := 0, slots := 0, locals := 21 }
def wpX1_stockOf (S : Mem) (a0 : Nat) (p1 : Int32) (post : Int32 → Mem → Prop) : Prop := isK S a0 1 ∧ (∃ o2, mR S a0 2 = some o2 ∧ (wpX6_at S o2 p1 (fun x4 S3 => post x4 S3)))
set_option maxHeartbeats 4000000 in
set_option maxRecDepth 100000 in
theorem meX1_stockOf (l : Launch) (G : GT) (S : Mem) (a0 : Nat) (p1 : Int32) (post : Int32 → Mem → Prop) (hw : wpX1_stockOf S a0 p1 post) : CN emI l yX1_stockOf (wsU yX1_stockOf cX1_stockOf 2 (some .int)) rmX1_stockOf 0 0 G [.ref a0, .int p1] S post := by
  refine cn_open RX1 rfl (by decide +kernel) (Nat.le_of_ble_eq_true rfl) ?_
  intro p e s m args below meth c A X h hr hin ls hl
  have hl : lv_has ls 2 [(0, .ref a0), (1, .int p1)] := hl
  have hx := X.1
  have hb := X.2.1
  have hown := X.2.2.2.1
  unfold wpX1_stockOf at hw
  refine lv_aload_n hx hb dX1_stockOf_0 rfl (lv_at hl 0 rfl) ?_
  obtain ⟨k1, hw⟩ := hw
  obtain ⟨o2, eo2, hw⟩ := hw
  refine r_getR X h k1 2 eo2  (by decide) rfl inX1 (by decide) rfl q432 rfl dX1_stockOf_1 ?_
  refine lv_iload_n hx hb dX1_stockOf_4 rfl (lv_at hl 1 rfl) ?_
  refine rc_SN (As := [.ref o2, .int p1]) (rest := []) X h (meX6_at l G _ _ _ _ hw) gU_X1_30 q380 q33 q327 rfl rfl hdS_X6_at rfl ⟨Nat.le_of_ble_eq_true rfl, Nat.le_of_ble_eq_true rfl⟩ hl.1 rfl (Nat.le_of_ble_eq_true rfl) ⟨Nat.le_of_ble_eq_true rfl, Nat.le_of_ble_eq_true rfl⟩ dX1_stockOf_5 (fun x4 S3 H locs hw h => ?_)
  exact (en_i X h hr hw (Nat.le_of_ble_eq_true rfl) (Nat.le_of_ble_eq_true rfl) dX1_stockOf_8)
abbrev rmX0_plateOf : Room := { frames := 2, cells := 0, slots := 0, locals := 42 }
def wpX0_plateOf (S : Mem) (a0 : Nat) (p1 : Int32) (p2 : Int32) (post : Int32 → Mem → Prop) : Prop := ∀ x1 : Int32, x1 = (((p1 * (nI 13)) + p2) + (nI 1)) → ((¬ p2 = (-1 : Int32) → (isK S a0 0 ∧ (wpX0_stateOf S a0 p2 (fun x5 S3 => isK S3 a0 0 ∧ (wpX0_stateOf S3 a0 p1 (fun x8 S6 => post (((x1 * (nI 10000)) + (x8 * (nI 100))) + x5) S6)))))) ∧ (p2 = (-1 : Int32) → (isK S a0 0 ∧ (wpX0_stateOf S a0 p1 (fun x11 S9 => post (((x1 * (nI 10000)) + (x11 * (nI 100))) + (nI 0)) S9)))))
set_option maxHeartbeats 4000000 in
set_option maxRecDepth 100000 in
theorem meX0_plateOf (l : Launch) (G : GT) (S : Mem) (a0 : Nat) (p1 : Int32) (p2 : Int32) (post : Int32 → Mem → Prop) (hw : wpX0_plateOf S a0 p1 p2 post) : CN emI l yX0_plateOf (wsU yX0_plateOf cX0_plateOf 5 (some .int)) rmX0_plateOf 0 0 G [.ref a0, .int p1, .int p2] S post := by
  refine cn_open RX0 rfl (by decide +kernel) (Nat.le_of_ble_eq_true rfl) ?_
  intro p e s m args below meth c A X h hr hin ls hl
  have hl : lv_has ls 5 [(0, .ref a0), (1, .int p1), (2, .int p2)] := hl
  have hx := X.1
  have hb := X.2.1
  have hown := X.2.2.2.1
  unfold wpX0_plateOf at hw
  refine lv_iload_n hx hb dX0_plateOf_0 rfl (lv_at hl 1 rfl) ?_
  refine lv_bipush (v := (nI 13)) hx hb dX0_plateOf_1 (by decide) ?_
  refine lv_imul hx hb dX0_plateOf_3 ?_
  refine lv_iload_n hx hb dX0_plateOf_4 rfl (lv_at hl 2 rfl) ?_
  refine lv_iadd hx hb dX0_plateOf_5 ?_
  refine lv_iconst (v := (nI 1)) hx hb dX0_plateOf_6 (by decide) ?_
  refine lv_iadd hx hb dX0_plateOf_7 ?_
  refine lv_topi (fun x1 ex1 => ?_)
  have hw := hw x1 ex1
  refine lv_istore_n (lv' := [(3, .int x1), (0, .ref a0), (1, .int p1), (2, .int p2)]) hx hb dX0_plateOf_8 rfl hl (by decide) rfl (fun ls hl => ?_)
  refine lv_iload_n hx hb dX0_plateOf_9 rfl (lv_at hl 3 rfl) ?_
  refine lv_iconst (v := (-1 : Int32)) hx hb dX0_plateOf_10 (by decide) ?_
  refine lv_icmp_ne (tgt := 18) hx hb dX0_plateOf_11 (by decide) (fun c2 => ?_) (fun c2 => ?_)
  · have hw := hw.1 c2
    refine lv_aload_n hx hb dX0_plateOf_18 rfl (lv_at hl 1 rfl) ?_
    refine lv_iload_n hx hb dX0_plateOf_19 rfl (lv_at hl 3 rfl) ?_
    obtain ⟨k4, hw⟩ := hw
    refine rc_V (As := [.int p2]) (rest := []) X h k4 (by decide) rfl (meX0_stateOf l G _ _ _ _ hw) gV_X0_33 rfl rfl hdV_X0_stateOf rfl ⟨Nat.le_of_ble_eq_true rfl, Nat.le_of_ble_eq_true rfl⟩ hl.1 rfl (Nat.le_of_ble_eq_true rfl) ⟨Nat.le_of_ble_eq_true rfl, Nat.le_of_ble_eq_true rfl⟩ dX0_plateOf_20 (fun x5 S3 H locs hw h => ?_)
    refine lv_istore (lv' := [(4, .int x5), (3, .int x1), (0, .ref a0), (1, .int p1), (2, .int p2)]) hx hb dX0_plateOf_23 hl (by decide) rfl (fun ls hl => ?_)
    refine lv_iload_n hx hb dX0_plateOf_25 rfl (lv_at hl 1 rfl) ?_
    refine lv_sipush (v := (nI 10000)) hx hb dX0_plateOf_26 (by decide) ?_
    refine lv_imul hx hb dX0_plateOf_29 ?_
    refine lv_aload_n hx hb dX0_plateOf_30 rfl (lv_at hl 2 rfl) ?_
    refine lv_iload_n hx hb dX0_plateOf_31 rfl (lv_at hl 3 rfl) ?_
    obtain ⟨k7, hw⟩ := hw
    refine rc_V (As := [.int p1]) (rest := [.int (x1 * (nI 10000))]) X h k7 (by decide) rfl (meX0_stateOf l G _ _ _ _ hw) gV_X0_33 rfl rfl hdV_X0_stateOf rfl ⟨Nat.le_of_ble_eq_true rfl, Nat.le_of_ble_eq_true rfl⟩ hl.1 rfl (Nat.le_of_ble_eq_true rfl) ⟨Nat.le_of_ble_eq_true rfl, Nat.le_of_ble_eq_true rfl⟩ dX0_plateOf_32 (fun x8 S6 H locs hw h => ?_)
    refine lv_bipush (v := (nI 100)) hx hb dX0_plateOf_35 (by decide) ?_
    refine lv_imul hx hb dX0_plateOf_37 ?_
    refine lv_iadd hx hb dX0_plateOf_38 ?_
    refine lv_iload hx hb dX0_plateOf_39 (lv_at hl 0 rfl) ?_
    refine lv_iadd hx hb dX0_plateOf_41 ?_
    exact (en_i X h hr hw (Nat.le_of_ble_eq_true rfl) (Nat.le_of_ble_eq_true rfl) dX0_plateOf_42)
  · have hw := hw.2 c2
    refine lv_iconst (v := (nI 0)) hx hb dX0_plateOf_14 (by decide) ?_
    refine lv_goto (tgt := 23) hx hb dX0_plateOf_15 (by decide) ?_
    refine lv_istore (lv' := [(4, .int (nI 0)), (3, .int x1), (0, .ref a0), (1, .int p1), (2, .int p2)]) hx hb dX0_plateOf_23 hl (by decide) rfl (fun ls hl => ?_)
    refine lv_iload_n hx hb dX0_plateOf_25 rfl (lv_at hl 1 rfl) ?_
    refine lv_sipush (v := (nI 10000)) hx hb dX0_plateOf_26 (by decide) ?_
    refine lv_imul hx hb dX0_plateOf_29 ?_
    refine lv_aload_n hx hb dX0_plateOf_30 rfl (lv_at hl 2 rfl) ?_
    refine lv_iload_n hx hb dX0_plateOf_31 rfl (lv_at hl 3 rfl) ?_
    obtain ⟨k10, hw⟩ := hw
    refine rc_V (As := [.int p1]) (rest := [.int (x1 * (nI 10000))]) X h k10 (by decide) rfl (meX0_stateOf l G _ _ _ _ hw) gV_X0_33 rfl rfl hdV_X0_stateOf rfl ⟨Nat.le_of_ble_eq_true rfl, Nat.le_of_ble_eq_true rfl⟩ hl.1 rfl (Nat.le_of_ble_eq_true rfl) ⟨Nat.le_of_ble_eq_true rfl, Nat.le_of_ble_eq_true rfl⟩ dX0_plateOf_32 (fun x11 S9 H locs hw h => ?_)
    refine lv_bipush (v := (nI 100)) hx hb dX0_plateOf_35 (by decide) ?_
    refine lv_imul hx hb dX0_plateOf_37 ?_
    refine lv_iadd hx hb dX0_plateOf_38 ?_
    refine lv_iload hx hb dX0_plateOf_39 (lv_at hl 0 rfl) ?_
    refine lv_iadd hx hb dX0_plateOf_41 ?_
    exact (en_i X h hr hw (Nat.le_of_ble_eq_true rfl) (Nat.le_of_ble_eq_true rfl) dX0_plateOf_42)
abbrev rmX6_plateFor : Room := { frames := 3, cells := 0, slots := 0, locals := 66 }
def wpX6_plateFor (S : Mem) (a0 : Nat) (a1 : Nat) (p2 : Int32) (p3 : Int32) (post : Int32 → Mem → Prop) : Prop := isK S a1 1 ∧ (wpX1_placeCount S a1 (fun x3 S1 => (¬ x3 = (nI 2) → (isK S1 a0 6 ∧ (∃ o6, mR S1 a0 0 = some o6 ∧ (isK S1 a1 1 ∧ (wpX1_contentOn S1 a1 p2 ((nI 2) * p3) (fun x9 S7 => isK S7 a1 1 ∧ (wpX1_contentOn S7 a1 p2 (((nI 2) * p3) + (nI 1)) (fun x12 S10 => isK S10 o6 0 ∧ (wpX0_plateOf S10 o6 x9 x12 (fun x15 S13 => post x15 S13)))))))))) ∧ (x3 = (nI 2) → (isK S1 a0 6 ∧ (∃ o17, mR S1 a0 0 = some o17 ∧ (isK S1 a1 1 ∧ (wpX1_contentOn S1 a1 p2 p3 (fun x20 S18 => isK S18 o17 0 ∧ (wpX0_plateOf S18 o17 x20 (-1 : Int32) (fun x23 S21 => post x23 S21))))))))))
set_option maxHeartbeats 4000000 in
set_option maxRecDepth 100000 in
theorem meX6_plateFor (l : Launch) (G : GT) (S : Mem) (a0 : Nat) (a1 : Nat) (p2 : Int32) (p3 : Int32) (post : Int32 → Mem → Prop) (hw : wpX6_plateFor S a0 a1 p2 p3 post) : CN emI l yX6_plateFor (wsU yX6_plateFor cX6_plateFor 4 (some .int)) rmX6_plateFor 0 0 G [.ref a0, .ref a1, .int p2, .int p3] S post := by
  refine cn_open RX6 rfl (by decide +kernel) (Nat.le_of_ble_eq_true rfl) ?_
  intro p e s m args below meth c A X h hr hin ls hl
  have hl : lv_has ls 4 [(0, .ref a0), (1, .ref a1), (2, .int p2), (3, .int p3)] := hl
  have hx := X.1
  have hb := X.2.1
  have hown := X.2.2.2.1
  unfold wpX6_plateFor at hw
  refine lv_aload_n hx hb dX6_plateFor_0 rfl (lv_at hl 1 rfl) ?_
  obtain ⟨k2, hw⟩ := hw
  refine rc_V (As := []) (rest := []) X h k2 (by decide) rfl (meX1_placeCount l G _ _ _ hw) gV_X6_131 rfl rfl hdV_X1_placeCount rfl ⟨Nat.le_of_ble_eq_true rfl, Nat.le_of_ble_eq_true rfl⟩ hl.1 rfl (Nat.le_of_ble_eq_true rfl) ⟨Nat.le_of_ble_eq_true rfl, Nat.le_of_ble_eq_true rfl⟩ dX6_plateFor_1 (fun x3 S1 H locs hw h => ?_)
  refine lv_iconst (v := (nI 2)) hx hb dX6_plateFor_4 (by decide) ?_
  refine lv_icmp_ne (tgt := 23) hx hb dX6_plateFor_5 (by decide) (fun c4 => ?_) (fun c4 => ?_)
  · have hw := hw.1 c4
    refine lv_aload_n hx hb dX6_plateFor_23 rfl (lv_at hl 0 rfl) ?_
    obtain ⟨k5, hw⟩ := hw
    obtain ⟨o6, eo6, hw⟩ := hw
    refine r_getR X h k5 0 eo6  (by decide) rfl inX6 (by decide) rfl q141 rfl dX6_plateFor_24 ?_
    refine lv_aload_n hx hb dX6_plateFor_27 rfl (lv_at hl 1 rfl) ?_
    refine lv_iload_n hx hb dX6_plateFor_28 rfl (lv_at hl 2 rfl) ?_
    refine lv_iconst (v := (nI 2)) hx hb dX6_plateFor_29 (by decide) ?_
    refine lv_iload_n hx hb dX6_plateFor_30 rfl (lv_at hl 3 rfl) ?_
    refine lv_imul hx hb dX6_plateFor_31 ?_
    obtain ⟨k8, hw⟩ := hw
    refine rc_V (As := [.int p2, .int ((nI 2) * p3)]) (rest := [.ref o6]) X h k8 (by decide) rfl (meX1_contentOn l G _ _ _ _ _ hw) gV_X6_300 rfl rfl hdV_X1_contentOn rfl ⟨Nat.le_of_ble_eq_true rfl, Nat.le_of_ble_eq_true rfl⟩ hl.1 rfl (Nat.le_of_ble_eq_true rfl) ⟨Nat.le_of_ble_eq_true rfl, Nat.le_of_ble_eq_true rfl⟩ dX6_plateFor_32 (fun x9 S7 H locs hw h => ?_)
    refine lv_aload_n hx hb dX6_plateFor_35 rfl (lv_at hl 1 rfl) ?_
    refine lv_iload_n hx hb dX6_plateFor_36 rfl (lv_at hl 2 rfl) ?_
    refine lv_iconst (v := (nI 2)) hx hb dX6_plateFor_37 (by decide) ?_
    refine lv_iload_n hx hb dX6_plateFor_38 rfl (lv_at hl 3 rfl) ?_
    refine lv_imul hx hb dX6_plateFor_39 ?_
    refine lv_iconst (v := (nI 1)) hx hb dX6_plateFor_40 (by decide) ?_
    refine lv_iadd hx hb dX6_plateFor_41 ?_
    obtain ⟨k11, hw⟩ := hw
    refine rc_V (As := [.int p2, .int (((nI 2) * p3) + (nI 1))]) (rest := [.int x9, .ref o6]) X h k11 (by decide) rfl (meX1_contentOn l G _ _ _ _ _ hw) gV_X6_300 rfl rfl hdV_X1_contentOn rfl ⟨Nat.le_of_ble_eq_true rfl, Nat.le_of_ble_eq_true rfl⟩ hl.1 rfl (Nat.le_of_ble_eq_true rfl) ⟨Nat.le_of_ble_eq_true rfl, Nat.le_of_ble_eq_true rfl⟩ dX6_plateFor_42 (fun x12 S10 H locs hw h => ?_)
    obtain ⟨k14, hw⟩ := hw
    refine rc_V (As := [.int x9, .int x12]) (rest := []) X h k14 (by decide) rfl (meX0_plateOf l G _ _ _ _ _ hw) gV_X6_303 rfl rfl hdV_X0_plateOf rfl ⟨Nat.le_of_ble_eq_true rfl, Nat.le_of_ble_eq_true rfl⟩ hl.1 rfl (Nat.le_of_ble_eq_true rfl) ⟨Nat.le_of_ble_eq_true rfl, Nat.le_of_ble_eq_true rfl⟩ dX6_plateFor_45 (fun x15 S13 H locs hw h => ?_)
    exact (en_i X h hr hw (Nat.le_of_ble_eq_true rfl) (Nat.le_of_ble_eq_true rfl) dX6_plateFor_48)
  · have hw := hw.2 c4
    refine lv_aload_n hx hb dX6_plateFor_8 rfl (lv_at hl 0 rfl) ?_
    obtain ⟨k16, hw⟩ := hw
    obtain ⟨o17, eo17, hw⟩ := hw
    refine r_getR X h k16 0 eo17  (by decide) rfl inX6 (by decide) rfl q141 rfl dX6_plateFor_9 ?_
    refine lv_aload_n hx hb dX6_plateFor_12 rfl (lv_at hl 1 rfl) ?_
    refine lv_iload_n hx hb dX6_plateFor_13 rfl (lv_at hl 2 rfl) ?_
    refine lv_iload_n hx hb dX6_plateFor_14 rfl (lv_at hl 3 rfl) ?_
    obtain ⟨k19, hw⟩ := hw
    refine rc_V (As := [.int p2, .int p3]) (rest := [.ref o17]) X h k19 (by decide) rfl (meX1_contentOn l G _ _ _ _ _ hw) gV_X6_300 rfl rfl hdV_X1_contentOn rfl ⟨Nat.le_of_ble_eq_true rfl, Nat.le_of_ble_eq_true rfl⟩ hl.1 rfl (Nat.le_of_ble_eq_true rfl) ⟨Nat.le_of_ble_eq_true rfl, Nat.le_of_ble_eq_true rfl⟩ dX6_plateFor_15 (fun x20 S18 H locs hw h => ?_)
    refine lv_iconst (v := (-1 : Int32)) hx hb dX6_plateFor_18 (by decide) ?_
    obtain ⟨k22, hw⟩ := hw
    refine rc_V (As := [.int x20, .int (-1 : Int32)]) (rest := []) X h k22 (by decide) rfl (meX0_plateOf l G _ _ _ _ _ hw) gV_X6_303 rfl rfl hdV_X0_plateOf rfl ⟨Nat.le_of_ble_eq_true rfl, Nat.le_of_ble_eq_true rfl⟩ hl.1 rfl (Nat.le_of_ble_eq_true rfl) ⟨Nat.le_of_ble_eq_true rfl, Nat.le_of_ble_eq_true rfl⟩ dX6_plateFor_19 (fun x23 S21 H locs hw h => ?_)
    exact (en_i X h hr hw (Nat.le_of_ble_eq_true rfl) (Nat.le_of_ble_eq_true rfl) dX6_plateFor_22)
abbrev rmX5_bindingMinutes : Room := { frames := 0, cells := 0, slots := 0, locals := 0 }
def wpX5_bindingMinutes (S : Mem) (a0 : Nat) (p1 : Int32) (post : Int32 → Mem → Prop) : Prop := isK S a0 5 ∧ ((¬ (mI S a0 2) = p1 → (post (nI 15) S)) ∧ ((mI S a0 2) = p1 → (post (nI 0) S)))
set_option maxHeartbeats 4000000 in
set_option maxRecDepth 100000 in
theorem meX5_bindingMinutes (l : Launch) (G : GT) (S : Mem) (a0 : Nat) (p1 : Int32) (post : Int32 → Mem → Prop) (hw : wpX5_bindingMinutes S a0 p1 post) : CN emI l yX5_bindingMinutes (wsU yX5_bindingMinutes cX5_bindingMinutes 2 (some .int)) rmX5_bindingMinutes 0 0 G [.ref a0, .int p1] S post := by
  refine cn_open RX5 rfl (by decide +kernel) (Nat.le_of_ble_eq_true rfl) ?_
  intro p e s m args below meth c A X h hr hin ls hl
  have hl : lv_has ls 2 [(0, .ref a0), (1, .int p1)] := hl
  have hx := X.1
  have hb := X.2.1
  have hown := X.2.2.2.1
  unfold wpX5_bindingMinutes at hw
  refine lv_aload_n hx hb dX5_bindingMinutes_0 rfl (lv_at hl 0 rfl) ?_
  obtain ⟨k1, hw⟩ := hw
  refine r_getI X h k1 2  (by decide) rfl inX5 (by decide) rfl q98 rfl dX5_bindingMinutes_1 ?_
  refine lv_iload_n hx hb dX5_bindingMinutes_4 rfl (lv_at hl 1 rfl) ?_
  refine lv_icmp_ne (tgt := 12) hx hb dX5_bindingMinutes_5 (by decide) (fun c2 => ?_) (fun c2 => ?_)
  · have hw := hw.1 c2
    refine lv_bipush (v := (nI 15)) hx hb dX5_bindingMinutes_12 (by decide) ?_
    exact (en_i X h hr hw (Nat.le_of_ble_eq_true rfl) (Nat.le_of_ble_eq_true rfl) dX5_bindingMinutes_14)
  · have hw := hw.2 c2
    refine lv_iconst (v := (nI 0)) hx hb dX5_bindingMinutes_8 (by decide) ?_
    refine lv_goto (tgt := 14) hx hb dX5_bindingMinutes_9 (by decide) ?_
    exact (en_i X h hr hw (Nat.le_of_ble_eq_true rfl) (Nat.le_of_ble_eq_true rfl) dX5_bindingMinutes_14)
abbrev rmX5_minutesFor : Room := { frames := 1, cells := 0, slots := 0, locals := 21 }
def wpX5_minutesFor (S : Mem) (a0 : Nat) (p1 : Int32) (p2 : Int32) (p3 : Int32) (post : Int32 → Mem → Prop) : Prop := isK S a0 5 ∧ (wpX5_bindingMinutes S a0 p3 (fun x3 S1 => isK S1 a0 5 ∧ (((mI S1 a0 0) = p1 → (((mI S1 a0 1) = p2 → (post x3 S1)) ∧ (¬ (mI S1 a0 1) = p2 → (∀ x7 : Int32, x7 = (x3 + (nI 20)) → (post x7 S1))))) ∧ (¬ (mI S1 a0 0) = p1 → (∀ x8 : Int32, x8 = (x3 + (nI 20)) → (((mI S1 a0 1) = p2 → (post x8 S1)) ∧ (¬ (mI S1 a0 1) = p2 → (∀ x10 : Int32, x10 = (x8 + (nI 20)) → (post x10 S1)))))))))
set_option maxHeartbeats 4000000 in
set_option maxRecDepth 100000 in
theorem meX5_minutesFor (l : Launch) (G : GT) (S : Mem) (a0 : Nat) (p1 : Int32) (p2 : Int32) (p3 : Int32) (post : Int32 → Mem → Prop) (hw : wpX5_minutesFor S a0 p1 p2 p3 post) : CN emI l yX5_minutesFor (wsU yX5_minutesFor cX5_minutesFor 5 (some .int)) rmX5_minutesFor 0 0 G [.ref a0, .int p1, .int p2, .int p3] S post := by
  refine cn_open RX5 rfl (by decide +kernel) (Nat.le_of_ble_eq_true rfl) ?_
  intro p e s m args below meth c A X h hr hin ls hl
  have hl : lv_has ls 5 [(0, .ref a0), (1, .int p1), (2, .int p2), (3, .int p3)] := hl
  have hx := X.1
  have hb := X.2.1
  have hown := X.2.2.2.1
  unfold wpX5_minutesFor at hw
  refine lv_aload_n hx hb dX5_minutesFor_0 rfl (lv_at hl 0 rfl) ?_
  refine lv_iload_n hx hb dX5_minutesFor_1 rfl (lv_at hl 3 rfl) ?_
  obtain ⟨k2, hw⟩ := hw
  refine rc_V (As := [.int p3]) (rest := []) X h k2 (by decide) rfl (meX5_bindingMinutes l G _ _ _ _ hw) gV_X5_22 rfl rfl hdV_X5_bindingMinutes rfl ⟨Nat.le_of_ble_eq_true rfl, Nat.le_of_ble_eq_true rfl⟩ hl.1 rfl (Nat.le_of_ble_eq_true rfl) ⟨Nat.le_of_ble_eq_true rfl, Nat.le_of_ble_eq_true rfl⟩ dX5_minutesFor_2 (fun x3 S1 H locs hw h => ?_)
  refine lv_istore (lv' := [(4, .int x3), (0, .ref a0), (1, .int p1), (2, .int p2), (3, .int p3)]) hx hb dX5_minutesFor_5 hl (by decide) rfl (fun ls hl => ?_)
  refine lv_aload_n hx hb dX5_minutesFor_7 rfl (lv_at hl 1 rfl) ?_
  obtain ⟨k4, hw⟩ := hw
  refine r_getI X h k4 0  (by decide) rfl inX5 (by decide) rfl q94 rfl dX5_minutesFor_8 ?_
  refine lv_iload_n hx hb dX5_minutesFor_11 rfl (lv_at hl 2 rfl) ?_
  refine lv_icmp_eq (tgt := 18) hx hb dX5_minutesFor_12 (by decide) (fun c5 => ?_) (fun c5 => ?_)
  · have hw := hw.1 c5
    refine lv_aload_n hx hb dX5_minutesFor_18 rfl (lv_at hl 1 rfl) ?_
    refine r_getI X h k4 1  (by decide) rfl inX5 (by decide) rfl q96 rfl dX5_minutesFor_19 ?_
    refine lv_iload_n hx hb dX5_minutesFor_22 rfl (lv_at hl 3 rfl) ?_
    refine lv_icmp_eq (tgt := 29) hx hb dX5_minutesFor_23 (by decide) (fun c6 => ?_) (fun c6 => ?_)
    · have hw := hw.1 c6
      refine lv_iload hx hb dX5_minutesFor_29 (lv_at hl 0 rfl) ?_
      exact (en_i X h hr hw (Nat.le_of_ble_eq_true rfl) (Nat.le_of_ble_eq_true rfl) dX5_minutesFor_31)
    · have hw := hw.2 c6
      obtain ⟨x7, ex7⟩ : ∃ y : Int32, y = (x3 + (nI 20)) := ⟨_, rfl⟩
      have hw := hw x7 ex7
      refine lv_iinc (v := x7) (lv' := [(4, .int x7), (0, .ref a0), (1, .int p1), (2, .int p2), (3, .int p3)]) hx hb dX5_minutesFor_26 hl (k := 0) rfl (by rw [ex7]; rfl) (by decide) rfl (fun ls hl => ?_)
      refine lv_iload hx hb dX5_minutesFor_29 (lv_at hl 0 rfl) ?_
      exact (en_i X h hr hw (Nat.le_of_ble_eq_true rfl) (Nat.le_of_ble_eq_true rfl) dX5_minutesFor_31)
  · have hw := hw.2 c5
    obtain ⟨x8, ex8⟩ : ∃ y : Int32, y = (x3 + (nI 20)) := ⟨_, rfl⟩
    have hw := hw x8 ex8
    refine lv_iinc (v := x8) (lv' := [(4, .int x8), (0, .ref a0), (1, .int p1), (2, .int p2), (3, .int p3)]) hx hb dX5_minutesFor_15 hl (k := 0) rfl (by rw [ex8]; rfl) (by decide) rfl (fun ls hl => ?_)
    refine lv_aload_n hx hb dX5_minutesFor_18 rfl (lv_at hl 1 rfl) ?_
    refine r_getI X h k4 1  (by decide) rfl inX5 (by decide) rfl q96 rfl dX5_minutesFor_19 ?_
    refine lv_iload_n hx hb dX5_minutesFor_22 rfl (lv_at hl 3 rfl) ?_
    refine lv_icmp_eq (tgt := 29) hx hb dX5_minutesFor_23 (by decide) (fun c9 => ?_) (fun c9 => ?_)
    · have hw := hw.1 c9
      refine lv_iload hx hb dX5_minutesFor_29 (lv_at hl 0 rfl) ?_
      exact (en_i X h hr hw (Nat.le_of_ble_eq_true rfl) (Nat.le_of_ble_eq_true rfl) dX5_minutesFor_31)
    · have hw := hw.2 c9
      obtain ⟨x10, ex10⟩ : ∃ y : Int32, y = (x8 + (nI 20)) := ⟨_, rfl⟩
      have hw := hw x10 ex10
      refine lv_iinc (v := x10) (lv' := [(4, .int x10), (0, .ref a0), (1, .int p1), (2, .int p2), (3, .int p3)]) hx hb dX5_minutesFor_26 hl (k := 0) rfl (by rw [ex10]; rfl) (by decide) rfl (fun ls hl => ?_)
      refine lv_iload hx hb dX5_minutesFor_29 (lv_at hl 0 rfl) ?_
      exact (en_i X h hr hw (Nat.le_of_ble_eq_true rfl) (Nat.le_of_ble_eq_true rfl) dX5_minutesFor_31)
