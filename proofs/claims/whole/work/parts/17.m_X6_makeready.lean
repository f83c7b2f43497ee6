abbrev rmX6_makeready : Room := { frames := 8, cells := 3, slots := 18, locals := 134 }
def wpX6_makeready (S : Mem) (a0 : Nat) (p1 : Int32) (p2 : Int32) (post : Int32 → Mem → Prop) (px : Nat → Mem → Prop) : Prop := isK S a0 6 ∧ (wpX6_completeJob S a0 p1 (fun r3 S1 => ∃ o4, r3 = some o4 ∧ (wpX6_requireSheet S1 o4 p2 (fun u6 S5 => isK S5 a0 6 ∧ (∃ o8, mR S5 a0 2 = some o8 ∧ (wpX6_plateFor S5 a0 o4 p2 (nI 0) (fun x10 S9 => isK S9 a0 6 ∧ (wpX6_plateFor S9 a0 o4 p2 (nI 1) (fun x13 S11 => isK S11 o4 1 ∧ (isK S11 o8 5 ∧ (wpX5_minutesFor S11 o8 x10 x13 (mI S11 o4 0) (fun x17 S15 => post x17 S15))))))))) px)) px)
set_option maxHeartbeats 4000000 in
set_option maxRecDepth 100000 in
theorem meX6_makeready (l : Launch) (hl9 : l.stackTraces = false) (G : GT) (S : Mem) (a0 : Nat) (p1 : Int32) (p2 : Int32) (post : Int32 → Mem → Prop) (px : Nat → Mem → Prop) (hw : wpX6_makeready S a0 p1 p2 post px) : CX emI l yX6_makeready (wsU yX6_makeready cX6_makeready 4 (some .int)) rmX6_makeready 3 18 G [.ref a0, .int p1, .int p2] S post px := by
  refine cx_open RX6 rfl (by decide +kernel) (Nat.le_of_ble_eq_true rfl) ?_
  intro p e s m args below meth c A X h hr hno ls hl
  have hl : lv_has ls 4 [(0, .ref a0), (1, .int p1), (2, .int p2)] := hl
  have hx := X.1
  have hb := X.2.1
  have hown := X.2.2.2.1
  unfold wpX6_makeready at hw
  refine lv_aload_n hx hb dX6_makeready_0 rfl (lv_at hl 0 rfl) ?_
  refine lv_iload_n hx hb dX6_makeready_1 rfl (lv_at hl 1 rfl) ?_
  obtain ⟨k2, hw⟩ := hw
  refine rx_V (As := [.int p1]) (rest := []) X h hno k2 (by decide) rfl (meX6_completeJob l hl9 G _ _ _ _ _ hw) gV_X6_121 rfl rfl hdV_X6_completeJob rfl ⟨Nat.le_of_ble_eq_true rfl, Nat.le_of_ble_eq_true rfl⟩ hl.1 rfl (Nat.le_of_ble_eq_true rfl) ⟨Nat.le_of_ble_eq_true rfl, Nat.le_of_ble_eq_true rfl⟩ ⟨Nat.le_of_ble_eq_true rfl, Nat.le_of_ble_eq_true rfl⟩ dX6_makeready_2 (fun r3 S1 H locs hw h => ?_)
  obtain ⟨o4, rfl, hw⟩ := hw
  refine lv_astore_n (lv' := [(3, .ref o4), (0, .ref a0), (1, .int p1), (2, .int p2)]) hx hb dX6_makeready_5 rfl hl (by decide) rfl (fun ls hl => ?_)
  refine lv_aload_n hx hb dX6_makeready_6 rfl (lv_at hl 0 rfl) ?_
  refine lv_iload_n hx hb dX6_makeready_7 rfl (lv_at hl 3 rfl) ?_
  refine rx_S (As := [.ref o4, .int p2]) (rest := []) X h hno (meX6_requireSheet l hl9 G _ _ _ _ _ hw) gS_X6_127 rfl rfl hdS_X6_requireSheet rfl ⟨Nat.le_of_ble_eq_true rfl, Nat.le_of_ble_eq_true rfl⟩ hl.1 rfl (Nat.le_of_ble_eq_true rfl) ⟨Nat.le_of_ble_eq_true rfl, Nat.le_of_ble_eq_true rfl⟩ ⟨Nat.le_of_ble_eq_true rfl, Nat.le_of_ble_eq_true rfl⟩ dX6_makeready_8 (fun u6 S5 H locs hw h => ?_)
  refine lv_aload_n hx hb dX6_makeready_11 rfl (lv_at hl 1 rfl) ?_
  obtain ⟨k7, hw⟩ := hw
  obtain ⟨o8, eo8, hw⟩ := hw
  refine r_getR X h k7 2 eo8  (by decide) rfl inX6 (by decide) rfl q143 rfl dX6_makeready_12 ?_
  refine lv_aload_n hx hb dX6_makeready_15 rfl (lv_at hl 1 rfl) ?_
  refine lv_aload_n hx hb dX6_makeready_16 rfl (lv_at hl 0 rfl) ?_
  refine lv_iload_n hx hb dX6_makeready_17 rfl (lv_at hl 3 rfl) ?_
  refine lv_iconst (v := (nI 0)) hx hb dX6_makeready_18 (by decide) ?_
  refine rc_V (As := [.ref o4, .int p2, .int (nI 0)]) (rest := [.ref o8]) X h k7 (by decide) rfl (meX6_plateFor l G _ _ _ _ _ _ hw) gV_X6_165 rfl rfl hdV_X6_plateFor rfl ⟨Nat.le_of_ble_eq_true rfl, Nat.le_of_ble_eq_true rfl⟩ hl.1 rfl (Nat.le_of_ble_eq_true rfl) ⟨Nat.le_of_ble_eq_true rfl, Nat.le_of_ble_eq_true rfl⟩ dX6_makeready_19 (fun x10 S9 H locs hw h => ?_)
  refine lv_aload_n hx hb dX6_makeready_22 rfl (lv_at hl 1 rfl) ?_
  refine lv_aload_n hx hb dX6_makeready_23 rfl (lv_at hl 0 rfl) ?_
  refine lv_iload_n hx hb dX6_makeready_24 rfl (lv_at hl 3 rfl) ?_
  refine lv_iconst (v := (nI 1)) hx hb dX6_makeready_25 (by decide) ?_
  obtain ⟨k12, hw⟩ := hw
  refine rc_V (As := [.ref o4, .int p2, .int (nI 1)]) (rest := [.int x10, .ref o8]) X h k12 (by decide) rfl (meX6_plateFor l G _ _ _ _ _ _ hw) gV_X6_165 rfl rfl hdV_X6_plateFor rfl ⟨Nat.le_of_ble_eq_true rfl, Nat.le_of_ble_eq_true rfl⟩ hl.1 rfl (Nat.le_of_ble_eq_true rfl) ⟨Nat.le_of_ble_eq_true rfl, Nat.le_of_ble_eq_true rfl⟩ dX6_makeready_26 (fun x13 S11 H locs hw h => ?_)
  refine lv_aload_n hx hb dX6_makeready_29 rfl (lv_at hl 0 rfl) ?_
  obtain ⟨k14, hw⟩ := hw
  refine r_getIN X h k14 0  (by decide) rfl inX1 (by decide) rfl q430 rfl dX6_makeready_30 ?_
  obtain ⟨k16, hw⟩ := hw
  refine rc_V (As := [.int x10, .int x13, .int (mI S11 o4 0)]) (rest := []) X h k16 (by decide) rfl (meX5_minutesFor l G _ _ _ _ _ _ hw) gV_X6_173 rfl rfl hdV_X5_minutesFor rfl ⟨Nat.le_of_ble_eq_true rfl, Nat.le_of_ble_eq_true rfl⟩ hl.1 rfl (Nat.le_of_ble_eq_true rfl) ⟨Nat.le_of_ble_eq_true rfl, Nat.le_of_ble_eq_true rfl⟩ dX6_makeready_33 (fun x17 S15 H locs hw h => ?_)
  exact vx_ret (en_i X h hr hw (Nat.le_of_ble_eq_true rfl) (Nat.le_of_ble_eq_true rfl) dX6_makeready_36)
abbrev rmL_makeready : Room := { frames := 9, cells := 3, slots := 18, locals := 157 }
def wpL_makeready (S : Mem) (a0 : Nat) (p1 : Int32) (p2 : Int32) (a3 : Nat) (post : Int32 → Mem → Prop) : Prop := isK S a0 6 ∧ (wpX6_makeready S a0 p1 p2 (fun x3 S1 => isK S1 a3 12 ∧ (vp_in (nI 0) (mN S1 a3) ∧ (∀ S8 : Mem, S8 = (sJ S1 a3 (nI 0).toNatClampNeg x3.toInt64) → (post (nI 0) S8)))) (fun k4 S5 => (k4 = 1 → (post (nI 1) S5)) ∧ (k4 = 2 → (post (nI 2) S5)) ∧ (k4 = 3 → (post (nI 3) S5)) ∧ (k4 = 1 ∨ k4 = 2 ∨ k4 = 3)))
set_option maxHeartbeats 4000000 in
set_option maxRecDepth 100000 in
theorem meL_makeready (l : Launch) (hl9 : l.stackTraces = false) (G : GT) (S : Mem) (a0 : Nat) (p1 : Int32) (p2 : Int32) (a3 : Nat) (post : Int32 → Mem → Prop) (hw : wpL_makeready S a0 p1 p2 a3 post) : CN emI l yL_makeready (wsH yL_makeready cL_makeready 5 (some .int) [(0, 10, 13, 19), (0, 10, 17, 13), (0, 10, 21, 48)]) rmL_makeready 3 18 G [.ref a0, .int p1, .int p2, .ref a3] S post := by
  refine ch_open RL rfl (by decide +kernel) (Nat.le_of_ble_eq_true rfl) ?_
  intro p e s m args below meth c A X h hr hTab ls hl
  have hl : lv_has ls 5 [(0, .ref a0), (1, .int p1), (2, .int p2), (3, .ref a3)] := hl
  have hx := X.1
  have hb := X.2.1
  have hown := X.2.2.2.1
  unfold wpL_makeready at hw
  refine lv_aload_n hx hb dL_makeready_0 rfl (lv_at hl 3 rfl) ?_
  refine lv_iconst (v := (nI 0)) hx hb dL_makeready_1 (by decide) ?_
  refine lv_aload_n hx hb dL_makeready_2 rfl (lv_at hl 0 rfl) ?_
  refine lv_iload_n hx hb dL_makeready_3 rfl (lv_at hl 1 rfl) ?_
  refine lv_iload_n hx hb dL_makeready_4 rfl (lv_at hl 2 rfl) ?_
  obtain ⟨k2, hw⟩ := hw
  refine rx_VH (As := [.int p1, .int p2]) (rest := [.int (nI 0), .ref a3]) X h k2 (by decide) rfl (meX6_makeready l hl9 G _ _ _ _ _ _ hw) gV_L_58 rfl rfl hdV_X6_makeready rfl ⟨Nat.le_of_ble_eq_true rfl, Nat.le_of_ble_eq_true rfl⟩ hl.1 rfl (Nat.le_of_ble_eq_true rfl) ⟨Nat.le_of_ble_eq_true rfl, Nat.le_of_ble_eq_true rfl⟩ dL_makeready_5 (fun k4 S5 H locs q9 ce hw h hce hcv hcl => ?_) (fun x3 S1 H locs hw h => ?_)
  · rcases hw.2.2.2 with hk9 | hk9 | hk9
    · subst hk9
      have hw := hw.1 rfl
      refine vx_catch (own := RL) (name := "java/lang/IndexOutOfBoundsException") (E := xn 1) hown [] ⟨0, 10, 13, 19⟩ [⟨0, 10, 17, 13⟩, ⟨0, 10, 21, 48⟩] (by rw [hTab]; rfl) (fun z hz => nomatch hz) (by decide) (by decide) (X.hts q277) (va_Nw.use (by rfl) (X.nw q311)) hce hcv hcl ?_
      refine lv_astore (lv' := [(4, .ref q9), (0, .ref a0), (1, .int p1), (2, .int p2), (3, .ref a3)]) hx hb dL_makeready_13 hl (by decide) rfl (fun ls hl => ?_)
      refine lv_iconst (v := (nI 1)) hx hb dL_makeready_15 (by decide) ?_
      exact (en_i X h hr hw (Nat.le_of_ble_eq_true rfl) (Nat.le_of_ble_eq_true rfl) dL_makeready_16)
    · subst hk9
      have hw := hw.2.1 rfl
      have hpass2 : ∀ z ∈ ([⟨0, 10, 13, 19⟩] : List ExceptionTableEntry), covers z 5 = false ∨ (z.catchType ≠ 0 ∧ ∃ nm : String, (Cond.classLink RL z.catchType nm).before args s = true ∧ va_Nc (xn 2) nm s) := by
        intro z hz
        rcases List.mem_cons.mp hz with rfl | hz
        · exact Or.inr ⟨by decide, "java/lang/IndexOutOfBoundsException", X.hts q277, X.2.2.2.2.2.2.1.2.2.2.2.1 ("java/lang/IllegalStateException", "java/lang/IndexOutOfBoundsException") (by decide +kernel)⟩
        cases hz
      refine vx_catch (own := RL) (name := "java/lang/IllegalStateException") (E := xn 2) hown [⟨0, 10, 13, 19⟩] ⟨0, 10, 17, 13⟩ [⟨0, 10, 21, 48⟩] (by rw [hTab]; rfl) (hpass2) (by decide) (by decide) (X.hts q193) (va_Nw.use (by rfl) (X.nw q200)) hce hcv hcl ?_
      refine lv_astore (lv' := [(4, .ref q9), (0, .ref a0), (1, .int p1), (2, .int p2), (3, .ref a3)]) hx hb dL_makeready_17 hl (by decide) rfl (fun ls hl => ?_)
      refine lv_iconst (v := (nI 2)) hx hb dL_makeready_19 (by decide) ?_
      exact (en_i X h hr hw (Nat.le_of_ble_eq_true rfl) (Nat.le_of_ble_eq_true rfl) dL_makeready_20)
    · subst hk9
      have hw := hw.2.2.1 rfl
      have hpass3 : ∀ z ∈ ([⟨0, 10, 13, 19⟩, ⟨0, 10, 17, 13⟩] : List ExceptionTableEntry), covers z 5 = false ∨ (z.catchType ≠ 0 ∧ ∃ nm : String, (Cond.classLink RL z.catchType nm).before args s = true ∧ va_Nc (xn 3) nm s) := by
        intro z hz
        rcases List.mem_cons.mp hz with rfl | hz
        · exact Or.inr ⟨by decide, "java/lang/IndexOutOfBoundsException", X.hts q277, X.2.2.2.2.2.2.1.2.2.2.2.1 ("java/util/NoSuchElementException", "java/lang/IndexOutOfBoundsException") (by decide +kernel)⟩
        rcases List.mem_cons.mp hz with rfl | hz
        · exact Or.inr ⟨by decide, "java/lang/IllegalStateException", X.hts q193, X.2.2.2.2.2.2.1.2.2.2.2.1 ("java/util/NoSuchElementException", "java/lang/IllegalStateException") (by decide +kernel)⟩
        cases hz
      refine vx_catch (own := RL) (name := "java/util/NoSuchElementException") (E := xn 3) hown [⟨0, 10, 13, 19⟩, ⟨0, 10, 17, 13⟩] ⟨0, 10, 21, 48⟩ [] (by rw [hTab]; rfl) (hpass3) (by decide) (by decide) (X.hts q495) (va_Nw.use (by rfl) (X.nw q505)) hce hcv hcl ?_
      refine lv_astore (lv' := [(4, .ref q9), (0, .ref a0), (1, .int p1), (2, .int p2), (3, .ref a3)]) hx hb dL_makeready_21 hl (by decide) rfl (fun ls hl => ?_)
      refine lv_iconst (v := (nI 3)) hx hb dL_makeready_23 (by decide) ?_
      exact (en_i X h hr hw (Nat.le_of_ble_eq_true rfl) (Nat.le_of_ble_eq_true rfl) dL_makeready_24)
  · refine lv_i2l (v := x3.toInt64) hx hb dL_makeready_8 rfl ?_
    obtain ⟨k6, hw⟩ := hw
    obtain ⟨v7, hw⟩ := hw
    refine r_last X h k6 v7 dL_makeready_9 (fun H locs h => ?_)
    obtain ⟨S8, eS8⟩ : ∃ z : Mem, z = (sJ S1 a3 (nI 0).toNatClampNeg x3.toInt64) := ⟨_, rfl⟩
    rw [← eS8] at h
    have hw := hw S8 eS8
    refine lv_goto (tgt := 25) hx hb dL_makeready_10 (by decide) ?_
    refine lv_iconst (v := (nI 0)) hx hb dL_makeready_25 (by decide) ?_
    exact (en_i X h hr hw (Nat.le_of_ble_eq_true rfl) (Nat.le_of_ble_eq_true rfl) dL_makeready_26)
abbrev rmX7_makeready : Room := { frames := 4, cells := 0, slots := 0, locals := 92 }
def wpX7_makeready (S : Mem) (a0 : Nat) (p1 : Int32) (p2 : Int32) (post : Int32 → Mem → Prop) : Prop := isK S a0 7 ∧ (wpX7_isSheet S a0 p1 p2 (fun x3 S1 => (x3 = 0 → (post (nI 0) S1)) ∧ (¬ x3 = 0 → (isK S1 a0 7 ∧ (wpX7_ready S1 a0 p1 p2 (fun x7 S5 => post x7 S5))))))
set_option maxHeartbeats 4000000 in
set_option maxRecDepth 100000 in
theorem meX7_makeready (l : Launch) (G : GT) (S : Mem) (a0 : Nat) (p1 : Int32) (p2 : Int32) (post : Int32 → Mem → Prop) (hw : wpX7_makeready S a0 p1 p2 post) : CN emI l yX7_makeready (wsU yX7_makeready cX7_makeready 3 (some .int)) rmX7_makeready 0 0 G [.ref a0, .int p1, .int p2] S post := by
  refine cn_open RX7 rfl (by decide +kernel) (Nat.le_of_ble_eq_true rfl) ?_
  intro p e s m args below meth c A X h hr hin ls hl
  have hl : lv_has ls 3 [(0, .ref a0), (1, .int p1), (2, .int p2)] := hl
  have hx := X.1
  have hb := X.2.1
  have hown := X.2.2.2.1
  unfold wpX7_makeready at hw
  refine lv_aload_n hx hb dX7_makeready_0 rfl (lv_at hl 0 rfl) ?_
  refine lv_iload_n hx hb dX7_makeready_1 rfl (lv_at hl 1 rfl) ?_
  refine lv_iload_n hx hb dX7_makeready_2 rfl (lv_at hl 2 rfl) ?_
  obtain ⟨k2, hw⟩ := hw
  refine rc_V (As := [.int p1, .int p2]) (rest := []) X h k2 (by decide) rfl (meX7_isSheet l G _ _ _ _ _ hw) gV_X7_114 rfl rfl hdV_X7_isSheet rfl ⟨Nat.le_of_ble_eq_true rfl, Nat.le_of_ble_eq_true rfl⟩ hl.1 rfl (Nat.le_of_ble_eq_true rfl) ⟨Nat.le_of_ble_eq_true rfl, Nat.le_of_ble_eq_true rfl⟩ dX7_makeready_3 (fun x3 S1 H locs hw h => ?_)
  refine lv_if_eq (tgt := 18) hx hb dX7_makeready_6 (by decide) (fun c4 => ?_) (fun c4 => ?_)
  · have hw := hw.1 c4
    refine lv_iconst (v := (nI 0)) hx hb dX7_makeready_18 (by decide) ?_
    exact (en_i X h hr hw (Nat.le_of_ble_eq_true rfl) (Nat.le_of_ble_eq_true rfl) dX7_makeready_19)
  · have hw := hw.2 c4
    refine lv_aload_n hx hb dX7_makeready_9 rfl (lv_at hl 0 rfl) ?_
    refine lv_iload_n hx hb dX7_makeready_10 rfl (lv_at hl 1 rfl) ?_
    refine lv_iload_n hx hb dX7_makeready_11 rfl (lv_at hl 2 rfl) ?_
    obtain ⟨k6, hw⟩ := hw
    refine rc_V (As := [.int p1, .int p2]) (rest := []) X h k6 (by decide) rfl (meX7_ready l G _ _ _ _ _ hw) gV_X7_131 rfl rfl hdV_X7_ready rfl ⟨Nat.le_of_ble_eq_true rfl, Nat.le_of_ble_eq_true rfl⟩ hl.1 rfl (Nat.le_of_ble_eq_true rfl) ⟨Nat.le_of_ble_eq_true rfl, Nat.le_of_ble_eq_true rfl⟩ dX7_makeready_12 (fun x7 S5 H locs hw h => ?_)
    refine lv_goto (tgt := 19) hx hb dX7_makeready_15 (by decide) ?_
    exact (en_i X h hr hw (Nat.le_of_ble_eq_true rfl) (Nat.le_of_ble_eq_true rfl) dX7_makeready_19)
abbrev rmX3_start : Room := { frames := 1, cells := 0, slots := 0, locals := 22 }
def wpX3_start (S : Mem) (a0 : Nat) (p1 : Int32) (p2 : Int32) (p3 : Int32) (post : Unit → Mem → Prop) : Prop := ∀ x1 : Int32, x1 = (if (nI 0) < (if (nI 8) < p1 then (nI 8) else p1) then (if (nI 8) < p1 then (nI 8) else p1) else (nI 0)) → (isK S a0 3 ∧ (∀ S3 : Mem, S3 = (sI S a0 3 x1) → (∃ o4, mR S3 a0 0 = some o4 ∧ (wpX6_put S3 o4 (nI 8) p2 (fun u6 S5 => isK S5 a0 3 ∧ (∃ o8, mR S5 a0 1 = some o8 ∧ (wpX6_put S5 o8 (nI 8) p3 (fun u10 S9 => post () S9))))))))
set_option maxHeartbeats 4000000 in
set_option maxRecDepth 100000 in
theorem meX3_start (l : Launch) (G : GT) (S : Mem) (a0 : Nat) (p1 : Int32) (p2 : Int32) (p3 : Int32) (post : Unit → Mem → Prop) (hw : wpX3_start S a0 p1 p2 p3 post) : CN emV l yX3_start (wsU yX3_start cX3_start 4 none) rmX3_start 0 0 G [.ref a0, .int p1, .int p2, .int p3] S post := by
  refine cn_open RX3 rfl (by decide +kernel) (Nat.le_of_ble_eq_true rfl) ?_
  intro p e s m args below meth c A X h hr hin ls hl
  have hl : lv_has ls 4 [(0, .ref a0), (1, .int p1), (2, .int p2), (3, .int p3)] := hl
  have hx := X.1
  have hb := X.2.1
  have hown := X.2.2.2.1
  unfold wpX3_start at hw
  refine lv_aload_n hx hb dX3_start_0 rfl (lv_at hl 0 rfl) ?_
  refine lv_iconst (v := (nI 0)) hx hb dX3_start_1 (by decide) ?_
  refine lv_iload_n hx hb dX3_start_2 rfl (lv_at hl 1 rfl) ?_
  refine lv_bipush (v := (nI 8)) hx hb dX3_start_3 (by decide) ?_
  refine r_min X hl.1 q632 q633 q50 q634 ⟨Nat.le_of_ble_eq_true rfl, Nat.le_of_ble_eq_true rfl⟩ ⟨Nat.le_of_ble_eq_true rfl, Nat.le_of_ble_eq_true rfl⟩ dX3_start_5 ?_
  refine r_max X hl.1 q635 q636 q50 q637 ⟨Nat.le_of_ble_eq_true rfl, Nat.le_of_ble_eq_true rfl⟩ ⟨Nat.le_of_ble_eq_true rfl, Nat.le_of_ble_eq_true rfl⟩ dX3_start_8 ?_
  refine lv_topi (fun x1 ex1 => ?_)
  have hw := hw x1 ex1
  obtain ⟨k2, hw⟩ := hw
  refine r_putI X h k2 3 (by decide) rfl inX3 tyX3 tyX3_ok nmX3 (by decide) rfl (Nat.le_of_ble_eq_true rfl) q129 rfl rfl (tyX3_ok 3 (by decide)) rfl rfl dX3_start_11 (fun H locs h => ?_)
  obtain ⟨S3, eS3⟩ : ∃ z : Mem, z = (sI S a0 3 x1) := ⟨_, rfl⟩
  rw [← eS3] at h
  have hw := hw S3 eS3
  refine lv_aload_n hx hb dX3_start_14 rfl (lv_at hl 0 rfl) ?_
  obtain ⟨o4, eo4, hw⟩ := hw
  refine r_getR X h (kI eS3 k2) 0 eo4  (by decide) rfl inX3 (by decide) rfl q126 rfl dX3_start_15 ?_
  refine lv_bipush (v := (nI 8)) hx hb dX3_start_18 (by decide) ?_
  refine lv_iload_n hx hb dX3_start_20 rfl (lv_at hl 2 rfl) ?_
  refine rc_SN (As := [.ref o4, .int (nI 8), .int p2]) (rest := []) X h (meX6_put l G _ _ _ _ _ hw) gU_X3_34 q638 q33 q334 rfl rfl hdS_X6_put rfl ⟨Nat.le_of_ble_eq_true rfl, Nat.le_of_ble_eq_true rfl⟩ hl.1 rfl (Nat.le_of_ble_eq_true rfl) ⟨Nat.le_of_ble_eq_true rfl, Nat.le_of_ble_eq_true rfl⟩ dX3_start_21 (fun u6 S5 H locs hw h => ?_)
  refine lv_aload_n hx hb dX3_start_24 rfl (lv_at hl 0 rfl) ?_
  obtain ⟨k7, hw⟩ := hw
  obtain ⟨o8, eo8, hw⟩ := hw
  refine r_getR X h k7 1 eo8  (by decide) rfl inX3 (by decide) rfl q127 rfl dX3_start_25 ?_
  refine lv_bipush (v := (nI 8)) hx hb dX3_start_28 (by decide) ?_
  refine lv_iload_n hx hb dX3_start_30 rfl (lv_at hl 3 rfl) ?_
  refine rc_SN (As := [.ref o8, .int (nI 8), .int p3]) (rest := []) X h (meX6_put l G _ _ _ _ _ hw) gU_X3_34 q638 q33 q334 rfl rfl hdS_X6_put rfl ⟨Nat.le_of_ble_eq_true rfl, Nat.le_of_ble_eq_true rfl⟩ hl.1 rfl (Nat.le_of_ble_eq_true rfl) ⟨Nat.le_of_ble_eq_true rfl, Nat.le_of_ble_eq_true rfl⟩ dX3_start_31 (fun u10 S9 H locs hw h => ?_)
  exact (en_v X h hr hw (Nat.le_of_ble_eq_true rfl) (Nat.le_of_ble_eq_true rfl) dX3_start_34)
abbrev rmX3_setSheet : Room := { frames := 1, cells := 0, slots := 0, locals := 22 }
def wpX3_setSheet (S : Mem) (a0 : Nat) (p1 : Int32) (p2 : Int32) (p3 : Int32) (post : Unit → Mem → Prop) : Prop := isK S a0 3 ∧ (∃ o2, mR S a0 0 = some o2 ∧ (wpX6_put S o2 p1 p2 (fun u4 S3 => isK S3 a0 3 ∧ (∃ o6, mR S3 a0 1 = some o6 ∧ (wpX6_put S3 o6 p1 p3 (fun u8 S7 => post () S7))))))
set_option maxHeartbeats 4000000 in
set_option maxRecDepth 100000 in
theorem meX3_setSheet (l : Launch) (G : GT) (S : Mem) (a0 : Nat) (p1 : Int32) (p2 : Int32) (p3 : Int32) (post : Unit → Mem → Prop) (hw : wpX3_setSheet S a0 p1 p2 p3 post) : CN emV l yX3_setSheet (wsU yX3_setSheet cX3_setSheet 4 none) rmX3_setSheet 0 0 G [.ref a0, .int p1, .int p2, .int p3] S post := by
  refine cn_open RX3 rfl (by decide +kernel) (Nat.le_of_ble_eq_true rfl) ?_
  intro p e s m args below meth c A X h hr hin ls hl
  have hl : lv_has ls 4 [(0, .ref a0), (1, .int p1), (2, .int p2), (3, .int p3)] := hl
  have hx := X.1
  have hb := X.2.1
  have hown := X.2.2.2.1
  unfold wpX3_setSheet at hw
  refine lv_aload_n hx hb dX3_setSheet_0 rfl (lv_at hl 0 rfl) ?_
  obtain ⟨k1, hw⟩ := hw
  obtain ⟨o2, eo2, hw⟩ := hw
  refine r_getR X h k1 0 eo2  (by decide) rfl inX3 (by decide) rfl q126 rfl dX3_setSheet_1 ?_
  refine lv_iload_n hx hb dX3_setSheet_4 rfl (lv_at hl 1 rfl) ?_
  refine lv_iload_n hx hb dX3_setSheet_5 rfl (lv_at hl 2 rfl) ?_
  refine rc_SN (As := [.ref o2, .int p1, .int p2]) (rest := []) X h (meX6_put l G _ _ _ _ _ hw) gU_X3_34 q638 q33 q334 rfl rfl hdS_X6_put rfl ⟨Nat.le_of_ble_eq_true rfl, Nat.le_of_ble_eq_true rfl⟩ hl.1 rfl (Nat.le_of_ble_eq_true rfl) ⟨Nat.le_of_ble_eq_true rfl, Nat.le_of_ble_eq_true rfl⟩ dX3_setSheet_6 (fun u4 S3 H locs hw h => ?_)
  refine lv_aload_n hx hb dX3_setSheet_9 rfl (lv_at hl 0 rfl) ?_
  obtain ⟨k5, hw⟩ := hw
  obtain ⟨o6, eo6, hw⟩ := hw
  refine r_getR X h k5 1 eo6  (by decide) rfl inX3 (by decide) rfl q127 rfl dX3_setSheet_10 ?_
  refine lv_iload_n hx hb dX3_setSheet_13 rfl (lv_at hl 1 rfl) ?_
  refine lv_iload_n hx hb dX3_setSheet_14 rfl (lv_at hl 3 rfl) ?_
  refine rc_SN (As := [.ref o6, .int p1, .int p3]) (rest := []) X h (meX6_put l G _ _ _ _ _ hw) gU_X3_34 q638 q33 q334 rfl rfl hdS_X6_put rfl ⟨Nat.le_of_ble_eq_true rfl, Nat.le_of_ble_eq_true rfl⟩ hl.1 rfl (Nat.le_of_ble_eq_true rfl) ⟨Nat.le_of_ble_eq_true rfl, Nat.le_of_ble_eq_true rfl⟩ dX3_setSheet_15 (fun u8 S7 H locs hw h => ?_)
  exact (en_v X h hr hw (Nat.le_of_ble_eq_true rfl) (Nat.le_of_ble_eq_true rfl) dX3_setSheet_18)
abbrev rmX6_loadOrders : Room := { frames := 4, cells := 0, slots := 0, locals := 89 }
def wlX6_loadOrders_29 (a0 : Nat) (a1 : Nat) (x3 : Int32) (post : Unit → Mem → Prop)  : Nat → Int32 → Mem → Prop
  | 0 => fun _ _ => False
  | n + 1 => fun w3 S => (x3 ≤ w3 → (post () S)) ∧ (¬ x3 ≤ w3 → (isK S a0 6 ∧ (∃ o13, mR S a0 4 = some o13 ∧ (wpX6_plateFor S a0 a1 w3 (nI 0) (fun x15 S14 => isK S14 a0 6 ∧ (wpX6_plateFor S14 a0 a1 w3 (nI 1) (fun x18 S16 => isK S16 o13 3 ∧ (wpX3_setSheet S16 o13 w3 x15 x18 (fun u21 S19 => ∀ x22 : Int32, x22 = (w3 + (nI 1)) → (wlX6_loadOrders_29 a0 a1 x3 post n x22 S19))))))))))
set_option maxHeartbeats 4000000 in
set_option maxRecDepth 100000 in
theorem llX6_loadOrders_29 {p : Program} {l : Launch} {e : Env} {s : State} {m : MethodId} {args : Array Value} {below : List Frame} {meth : Method} {c : Code} {G : GT} {A : Nat → Prop} (X : Cx p s m args meth c cX6_loadOrders 4 RX6 G A) (hr : meth.sig.returnType = none) (a0 : Nat) (a1 : Nat) (x3 : Int32) (post : Unit → Mem → Prop)   : ∀ (n : Nat) (w3 : Int32) (S : Mem), wlX6_loadOrders_29 a0 a1 x3 post n w3 S → ∀ (H : Heap) (locs : List Loc) (ls : Array Slot), Hx G A s.heap H locs S → lv_has ls 4 [(0, .ref a0), (1, .ref a1), (2, .int x3), (3, .int w3)] → W p l e rmX6_loadOrders s m args below meth c H locs 0 0 (MQ below (QN emV post G A) args s 0 0 A) (F0 m 29 ls []) := by
  have hx := X.1
  have hb := X.2.1
  have hown := X.2.2.2.1
  intro n
  induction n with
  | zero =>
    intro _ _ hw
    exact hw.elim
  | succ n ih =>
    intro w3 S hw H locs ls h hl
    refine lv_iload_n hx hb dX6_loadOrders_29 rfl (lv_at hl 3 rfl) ?_
    refine lv_iload_n hx hb dX6_loadOrders_30 rfl (lv_at hl 2 rfl) ?_
    refine lv_icmp_ge (tgt := 62) hx hb dX6_loadOrders_31 (by decide) (fun c11 => ?_) (fun c11 => ?_)
    · have hw := hw.1 c11
      exact (en_v X h hr hw (Nat.le_of_ble_eq_true rfl) (Nat.le_of_ble_eq_true rfl) dX6_loadOrders_62)
    · have hw := hw.2 c11
      refine lv_aload_n hx hb dX6_loadOrders_34 rfl (lv_at hl 0 rfl) ?_
      obtain ⟨k12, hw⟩ := hw
      obtain ⟨o13, eo13, hw⟩ := hw
      refine r_getR X h k12 4 eo13  (by decide) rfl inX6 (by decide) rfl q145 rfl dX6_loadOrders_35 ?_
      refine lv_iload_n hx hb dX6_loadOrders_38 rfl (lv_at hl 3 rfl) ?_
      refine lv_aload_n hx hb dX6_loadOrders_39 rfl (lv_at hl 0 rfl) ?_
      refine lv_aload_n hx hb dX6_loadOrders_40 rfl (lv_at hl 1 rfl) ?_
      refine lv_iload_n hx hb dX6_loadOrders_41 rfl (lv_at hl 3 rfl) ?_
      refine lv_iconst (v := (nI 0)) hx hb dX6_loadOrders_42 (by decide) ?_
      refine rc_V (As := [.ref a1, .int w3, .int (nI 0)]) (rest := [.int w3, .ref o13]) X h k12 (by decide) rfl (meX6_plateFor l G _ _ _ _ _ _ hw) gV_X6_165 rfl rfl hdV_X6_plateFor rfl ⟨Nat.le_of_ble_eq_true rfl, Nat.le_of_ble_eq_true rfl⟩ hl.1 rfl (Nat.le_of_ble_eq_true rfl) ⟨Nat.le_of_ble_eq_true rfl, Nat.le_of_ble_eq_true rfl⟩ dX6_loadOrders_43 (fun x15 S14 H locs hw h => ?_)
      refine lv_aload_n hx hb dX6_loadOrders_46 rfl (lv_at hl 0 rfl) ?_
      refine lv_aload_n hx hb dX6_loadOrders_47 rfl (lv_at hl 1 rfl) ?_
      refine lv_iload_n hx hb dX6_loadOrders_48 rfl (lv_at hl 3 rfl) ?_
      refine lv_iconst (v := (nI 1)) hx hb dX6_loadOrders_49 (by decide) ?_
      obtain ⟨k17, hw⟩ := hw
      refine rc_V (As := [.ref a1, .int w3, .int (nI 1)]) (rest := [.int x15, .int w3, .ref o13]) X h k17 (by decide) rfl (meX6_plateFor l G _ _ _ _ _ _ hw) gV_X6_165 rfl rfl hdV_X6_plateFor rfl ⟨Nat.le_of_ble_eq_true rfl, Nat.le_of_ble_eq_true rfl⟩ hl.1 rfl (Nat.le_of_ble_eq_true rfl) ⟨Nat.le_of_ble_eq_true rfl, Nat.le_of_ble_eq_true rfl⟩ dX6_loadOrders_50 (fun x18 S16 H locs hw h => ?_)
      obtain ⟨k20, hw⟩ := hw
      refine rc_V (As := [.int w3, .int x15, .int x18]) (rest := []) X h k20 (by decide) rfl (meX3_setSheet l G _ _ _ _ _ _ hw) gV_X6_316 rfl rfl hdV_X3_setSheet rfl ⟨Nat.le_of_ble_eq_true rfl, Nat.le_of_ble_eq_true rfl⟩ hl.1 rfl (Nat.le_of_ble_eq_true rfl) ⟨Nat.le_of_ble_eq_true rfl, Nat.le_of_ble_eq_true rfl⟩ dX6_loadOrders_53 (fun u21 S19 H locs hw h => ?_)
      obtain ⟨x22, ex22⟩ : ∃ y : Int32, y = (w3 + (nI 1)) := ⟨_, rfl⟩
      have hw := hw x22 ex22
      refine lv_iinc (v := x22) (lv' := [(3, .int x22), (0, .ref a0), (1, .ref a1), (2, .int x3)]) hx hb dX6_loadOrders_56 hl (k := 3) rfl (by rw [ex22]; rfl) (by decide) rfl (fun ls hl => ?_)
      refine lv_goto (tgt := 29) hx hb dX6_loadOrders_59 (by decide) ?_
      exact ih _ _ hw _ _ _ h (lv_sub hl [1, 2, 3, 0] rfl)
def wpX6_loadOrders (S : Mem) (a0 : Nat) (a1 : Nat) (post : Unit → Mem → Prop) : Prop := isK S a1 1 ∧ (wpX1_sheetCount S a1 (fun x3 S1 => isK S1 a0 6 ∧ (∃ o5, mR S1 a0 4 = some o5 ∧ (∃ o6, mR S1 a0 2 = some o6 ∧ (isK S1 o6 5 ∧ (isK S1 o5 3 ∧ (wpX3_start S1 o5 x3 (mI S1 o6 0) (mI S1 o6 1) (fun u10 S8 => ∃ m, wlX6_loadOrders_29 a0 a1 x3 post m (nI 0) S8))))))))
set_option maxHeartbeats 4000000 in
set_option maxRecDepth 100000 in
theorem meX6_loadOrders (l : Launch) (G : GT) (S : Mem) (a0 : Nat) (a1 : Nat) (post : Unit → Mem → Prop) (hw : wpX6_loadOrders S a0 a1 post) : CN emV l yX6_loadOrders (wsU yX6_loadOrders cX6_loadOrders 4 none) rmX6_loadOrders 0 0 G [.ref a0, .ref a1] S post := by
  refine cn_open RX6 rfl (by decide +kernel) (Nat.le_of_ble_eq_true rfl) ?_
  intro p e s m args below meth c A X h hr hin ls hl
  have hl : lv_has ls 4 [(0, .ref a0), (1, .ref a1)] := hl
  have hx := X.1
  have hb := X.2.1
  have hown := X.2.2.2.1
  unfold wpX6_loadOrders at hw
  refine lv_aload_n hx hb dX6_loadOrders_0 rfl (lv_at hl 1 rfl) ?_
  obtain ⟨k2, hw⟩ := hw
  refine rc_V (As := []) (rest := []) X h k2 (by decide) rfl (meX1_sheetCount l G _ _ _ hw) gV_X6_124 rfl rfl hdV_X1_sheetCount rfl ⟨Nat.le_of_ble_eq_true rfl, Nat.le_of_ble_eq_true rfl⟩ hl.1 rfl (Nat.le_of_ble_eq_true rfl) ⟨Nat.le_of_ble_eq_true rfl, Nat.le_of_ble_eq_true rfl⟩ dX6_loadOrders_1 (fun x3 S1 H locs hw h => ?_)
  refine lv_istore_n (lv' := [(2, .int x3), (0, .ref a0), (1, .ref a1)]) hx hb dX6_loadOrders_4 rfl hl (by decide) rfl (fun ls hl => ?_)
  refine lv_aload_n hx hb dX6_loadOrders_5 rfl (lv_at hl 1 rfl) ?_
  obtain ⟨k4, hw⟩ := hw
  obtain ⟨o5, eo5, hw⟩ := hw
  refine r_getR X h k4 4 eo5  (by decide) rfl inX6 (by decide) rfl q145 rfl dX6_loadOrders_6 ?_
  refine lv_iload_n hx hb dX6_loadOrders_9 rfl (lv_at hl 0 rfl) ?_
  refine lv_aload_n hx hb dX6_loadOrders_10 rfl (lv_at hl 1 rfl) ?_
  obtain ⟨o6, eo6, hw⟩ := hw
  refine r_getR X h k4 2 eo6  (by decide) rfl inX6 (by decide) rfl q143 rfl dX6_loadOrders_11 ?_
  obtain ⟨k7, hw⟩ := hw
  refine r_getIN X h k7 0  (by decide) rfl inX5 (by decide) rfl q95 rfl dX6_loadOrders_14 ?_
  refine lv_aload_n hx hb dX6_loadOrders_17 rfl (lv_at hl 1 rfl) ?_
  refine r_getR X h k4 2 eo6  (by decide) rfl inX6 (by decide) rfl q143 rfl dX6_loadOrders_18 ?_
  refine r_getIN X h k7 1  (by decide) rfl inX5 (by decide) rfl q97 rfl dX6_loadOrders_21 ?_
  obtain ⟨k9, hw⟩ := hw
  refine rc_V (As := [.int x3, .int (mI S1 o6 0), .int (mI S1 o6 1)]) (rest := []) X h k9 (by decide) rfl (meX3_start l G _ _ _ _ _ _ hw) gV_X6_312 rfl rfl hdV_X3_start rfl ⟨Nat.le_of_ble_eq_true rfl, Nat.le_of_ble_eq_true rfl⟩ hl.1 rfl (Nat.le_of_ble_eq_true rfl) ⟨Nat.le_of_ble_eq_true rfl, Nat.le_of_ble_eq_true rfl⟩ dX6_loadOrders_24 (fun u10 S8 H locs hw h => ?_)
  refine lv_iconst (v := (nI 0)) hx hb dX6_loadOrders_27 (by decide) ?_
  refine lv_istore_n (lv' := [(3, .int (nI 0)), (2, .int x3), (0, .ref a0), (1, .ref a1)]) hx hb dX6_loadOrders_28 rfl hl (by decide) rfl (fun ls hl => ?_)
  obtain ⟨n23, hw⟩ := hw
  exact llX6_loadOrders_29  X hr _ _ _ _ n23 _ _ hw _ _ _ h (lv_sub hl [2, 3, 1, 0] rfl)
abbrev rmX3_change : Room := { frames := 1, cells := 0, slots := 0, locals := 21 }
def wpX3_change (S : Mem) (a0 : Nat) (a1 : Nat) (p2 : Int32) (p3 : Int32) (post : Int32 → Mem → Prop) : Prop := wpX6_at S a0 p2 (fun x2 S1 => wpX6_at S1 a0 p3 (fun x4 S3 => (¬ x2 = x4 → (wpX6_at S3 a1 p2 (fun x7 S6 => wpX6_at S6 a1 p3 (fun x9 S8 => (¬ x7 = x9 → (post ((nI 20) + (nI 20)) S8)) ∧ (x7 = x9 → (post ((nI 20) + (nI 0)) S8)))))) ∧ (x2 = x4 → (wpX6_at S3 a1 p2 (fun x12 S11 => wpX6_at S11 a1 p3 (fun x14 S13 => (¬ x12 = x14 → (post ((nI 0) + (nI 20)) S13)) ∧ (x12 = x14 → (post ((nI 0) + (nI 0)) S13))))))))
set_option maxHeartbeats 4000000 in
set_option maxRecDepth 100000 in
theorem meX3_change (l : Launch) (G : GT) (S : Mem) (a0 : Nat) (a1 : Nat) (p2 : Int32) (p3 : Int32) (post : Int32 → Mem → Prop) (hw : wpX3_change S a0 a1 p2 p3 post) : CN emI l yX3_change (wsU yX3_change cX3_change 6 (some .int)) rmX3_change 0 0 G [.ref a0, .ref a1, .int p2, .int p3] S post := by
  refine cn_open RX3 rfl (by decide +kernel) (Nat.le_of_ble_eq_true rfl) ?_
  intro p e s m args below meth c A X h hr hin ls hl
  have hl : lv_has ls 6 [(0, .ref a0), (1, .ref a1), (2, .int p2), (3, .int p3)] := hl
  have hx := X.1
  have hb := X.2.1
  have hown := X.2.2.2.1
  unfold wpX3_change at hw
  refine lv_aload_n hx hb dX3_change_0 rfl (lv_at hl 0 rfl) ?_
  refine lv_iload_n hx hb dX3_change_1 rfl (lv_at hl 2 rfl) ?_
  refine rc_SN (As := [.ref a0, .int p2]) (rest := []) X h (meX6_at l G _ _ _ _ hw) gU_X3_38 q655 q33 q327 rfl rfl hdS_X6_at rfl ⟨Nat.le_of_ble_eq_true rfl, Nat.le_of_ble_eq_true rfl⟩ hl.1 rfl (Nat.le_of_ble_eq_true rfl) ⟨Nat.le_of_ble_eq_true rfl, Nat.le_of_ble_eq_true rfl⟩ dX3_change_2 (fun x2 S1 H locs hw h => ?_)
  refine lv_aload_n hx hb dX3_change_5 rfl (lv_at hl 0 rfl) ?_
  refine lv_iload_n hx hb dX3_change_6 rfl (lv_at hl 3 rfl) ?_
  refine rc_SN (As := [.ref a0, .int p3]) (rest := [.int x2]) X h (meX6_at l G _ _ _ _ hw) gU_X3_38 q655 q33 q327 rfl rfl hdS_X6_at rfl ⟨Nat.le_of_ble_eq_true rfl, Nat.le_of_ble_eq_true rfl⟩ hl.1 rfl (Nat.le_of_ble_eq_true rfl) ⟨Nat.le_of_ble_eq_true rfl, Nat.le_of_ble_eq_true rfl⟩ dX3_change_7 (fun x4 S3 H locs hw h => ?_)
  refine lv_icmp_ne (tgt := 17) hx hb dX3_change_10 (by decide) (fun c5 => ?_) (fun c5 => ?_)
  · have hw := hw.1 c5
    refine lv_bipush (v := (nI 20)) hx hb dX3_change_17 (by decide) ?_
    refine lv_istore (lv' := [(4, .int (nI 20)), (0, .ref a0), (1, .ref a1), (2, .int p2), (3, .int p3)]) hx hb dX3_change_19 hl (by decide) rfl (fun ls hl => ?_)
    refine lv_aload_n hx hb dX3_change_21 rfl (lv_at hl 2 rfl) ?_
    refine lv_iload_n hx hb dX3_change_22 rfl (lv_at hl 3 rfl) ?_
    refine rc_SN (As := [.ref a1, .int p2]) (rest := []) X h (meX6_at l G _ _ _ _ hw) gU_X3_38 q655 q33 q327 rfl rfl hdS_X6_at rfl ⟨Nat.le_of_ble_eq_true rfl, Nat.le_of_ble_eq_true rfl⟩ hl.1 rfl (Nat.le_of_ble_eq_true rfl) ⟨Nat.le_of_ble_eq_true rfl, Nat.le_of_ble_eq_true rfl⟩ dX3_change_23 (fun x7 S6 H locs hw h => ?_)
    refine lv_aload_n hx hb dX3_change_26 rfl (lv_at hl 2 rfl) ?_
    refine lv_iload_n hx hb dX3_change_27 rfl (lv_at hl 4 rfl) ?_
    refine rc_SN (As := [.ref a1, .int p3]) (rest := [.int x7]) X h (meX6_at l G _ _ _ _ hw) gU_X3_38 q655 q33 q327 rfl rfl hdS_X6_at rfl ⟨Nat.le_of_ble_eq_true rfl, Nat.le_of_ble_eq_true rfl⟩ hl.1 rfl (Nat.le_of_ble_eq_true rfl) ⟨Nat.le_of_ble_eq_true rfl, Nat.le_of_ble_eq_true rfl⟩ dX3_change_28 (fun x9 S8 H locs hw h => ?_)
    refine lv_icmp_ne (tgt := 38) hx hb dX3_change_31 (by decide) (fun c10 => ?_) (fun c10 => ?_)
    · have hw := hw.1 c10
      refine lv_bipush (v := (nI 20)) hx hb dX3_change_38 (by decide) ?_
      refine lv_istore (lv' := [(5, .int (nI 20)), (4, .int (nI 20)), (0, .ref a0), (1, .ref a1), (2, .int p2), (3, .int p3)]) hx hb dX3_change_40 hl (by decide) rfl (fun ls hl => ?_)
      refine lv_iload hx hb dX3_change_42 (lv_at hl 1 rfl) ?_
      refine lv_iload hx hb dX3_change_44 (lv_at hl 0 rfl) ?_
      refine lv_iadd hx hb dX3_change_46 ?_
      exact (en_i X h hr hw (Nat.le_of_ble_eq_true rfl) (Nat.le_of_ble_eq_true rfl) dX3_change_47)
    · have hw := hw.2 c10
      refine lv_iconst (v := (nI 0)) hx hb dX3_change_34 (by decide) ?_
      refine lv_goto (tgt := 40) hx hb dX3_change_35 (by decide) ?_
      refine lv_istore (lv' := [(5, .int (nI 0)), (4, .int (nI 20)), (0, .ref a0), (1, .ref a1), (2, .int p2), (3, .int p3)]) hx hb dX3_change_40 hl (by decide) rfl (fun ls hl => ?_)
      refine lv_iload hx hb dX3_change_42 (lv_at hl 1 rfl) ?_
      refine lv_iload hx hb dX3_change_44 (lv_at hl 0 rfl) ?_
      refine lv_iadd hx hb dX3_change_46 ?_
      exact (en_i X h hr hw (Nat.le_of_ble_eq_true rfl) (Nat.le_of_ble_eq_true rfl) dX3_change_47)
  · have hw := hw.2 c5
    refine lv_iconst (v := (nI 0)) hx hb dX3_change_13 (by decide) ?_
    refine lv_goto (tgt := 19) hx hb dX3_change_14 (by decide) ?_
    refine lv_istore (lv' := [(4, .int (nI 0)), (0, .ref a0), (1, .ref a1), (2, .int p2), (3, .int p3)]) hx hb dX3_change_19 hl (by decide) rfl (fun ls hl => ?_)
    refine lv_aload_n hx hb dX3_change_21 rfl (lv_at hl 2 rfl) ?_
    refine lv_iload_n hx hb dX3_change_22 rfl (lv_at hl 3 rfl) ?_
    refine rc_SN (As := [.ref a1, .int p2]) (rest := []) X h (meX6_at l G _ _ _ _ hw) gU_X3_38 q655 q33 q327 rfl rfl hdS_X6_at rfl ⟨Nat.le_of_ble_eq_true rfl, Nat.le_of_ble_eq_true rfl⟩ hl.1 rfl (Nat.le_of_ble_eq_true rfl) ⟨Nat.le_of_ble_eq_true rfl, Nat.le_of_ble_eq_true rfl⟩ dX3_change_23 (fun x12 S11 H locs hw h => ?_)
    refine lv_aload_n hx hb dX3_change_26 rfl (lv_at hl 2 rfl) ?_
    refine lv_iload_n hx hb dX3_change_27 rfl (lv_at hl 4 rfl) ?_
    refine rc_SN (As := [.ref a1, .int p3]) (rest := [.int x12]) X h (meX6_at l G _ _ _ _ hw) gU_X3_38 q655 q33 q327 rfl rfl hdS_X6_at rfl ⟨Nat.le_of_ble_eq_true rfl, Nat.le_of_ble_eq_true rfl⟩ hl.1 rfl (Nat.le_of_ble_eq_true rfl) ⟨Nat.le_of_ble_eq_true rfl, Nat.le_of_ble_eq_true rfl⟩ dX3_change_28 (fun x14 S13 H locs hw h => ?_)
    refine lv_icmp_ne (tgt := 38) hx hb dX3_change_31 (by decide) (fun c15 => ?_) (fun c15 => ?_)
    · have hw := hw.1 c15
      refine lv_bipush (v := (nI 20)) hx hb dX3_change_38 (by decide) ?_
      refine lv_istore (lv' := [(5, .int (nI 20)), (4, .int (nI 0)), (0, .ref a0), (1, .ref a1), (2, .int p2), (3, .int p3)]) hx hb dX3_change_40 hl (by decide) rfl (fun ls hl => ?_)
      refine lv_iload hx hb dX3_change_42 (lv_at hl 1 rfl) ?_
      refine lv_iload hx hb dX3_change_44 (lv_at hl 0 rfl) ?_
      refine lv_iadd hx hb dX3_change_46 ?_
      exact (en_i X h hr hw (Nat.le_of_ble_eq_true rfl) (Nat.le_of_ble_eq_true rfl) dX3_change_47)
    · have hw := hw.2 c15
      refine lv_iconst (v := (nI 0)) hx hb dX3_change_34 (by decide) ?_
      refine lv_goto (tgt := 40) hx hb dX3_change_35 (by decide) ?_
      refine lv_istore (lv' := [(5, .int (nI 0)), (4, .int (nI 0)), (0, .ref a0), (1, .ref a1), (2, .int p2), (3, .int p3)]) hx hb dX3_change_40 hl (by decide) rfl (fun ls hl => ?_)
      refine lv_iload hx hb dX3_change_42 (lv_at hl 1 rfl) ?_
      refine lv_iload hx hb dX3_change_44 (lv_at hl 0 rfl) ?_
      refine lv_iadd hx hb dX3_change_46 ?_
      exact (en_i X h hr hw (Nat.le_of_ble_eq_true rfl) (Nat.le_of_ble_eq_true rfl) dX3_change_47)
abbrev rmX3_leastOfSet : Room := { frames := 2, cells := 0, slots := 0, locals := 46 }
def wlX3_leastOfSet_34 (a0 : Nat) (p1 : Int32) (p2 : Int32) (x1 : Int32) (post : Int32 → Mem → Prop)  : Nat → Int32 → Int32 → Mem → Prop
  | 0 => fun _ _ _ => False
  | n + 1 => fun w4 w5 S => isK S a0 3 ∧ (((mI S a0 3) ≤ w5 → (post w4 S)) ∧ (¬ (mI S a0 3) ≤ w5 → (((x1 &&& ((nI 1) <<< (w5 &&& 31))) = 0 → (∀ x6 : Int32, x6 = (w5 + (nI 1)) → (wlX3_leastOfSet_34 a0 p1 p2 x1 post n w4 x6 S))) ∧ (¬ (x1 &&& ((nI 1) <<< (w5 &&& 31))) = 0 → (∃ o7, mR S a0 2 = some o7 ∧ (wpX6_at S o7 ((x1 * (nI 8)) + w5) (fun x9 S8 => isK S8 a0 3 ∧ (∃ o11, mR S8 a0 0 = some o11 ∧ (∃ o12, mR S8 a0 1 = some o12 ∧ (wpX3_change S8 o11 o12 w5 p2 (fun x14 S13 => ∀ x15 : Int32, x15 = (x9 + x14) → (∀ x16 : Int32, x16 = (if x15 < w4 then x15 else w4) → (∀ x17 : Int32, x17 = (w5 + (nI 1)) → (wlX3_leastOfSet_34 a0 p1 p2 x1 post n x16 x17 S13))))))))))))))
set_option maxHeartbeats 4000000 in
set_option maxRecDepth 100000 in
theorem llX3_leastOfSet_34 {p : Program} {l : Launch} {e : Env} {s : State} {m : MethodId} {args : Array Value} {below : List Frame} {meth : Method} {c : Code} {G : GT} {A : Nat → Prop} (X : Cx p s m args meth c cX3_leastOfSet 7 RX3 G A) (hr : meth.sig.returnType = (some .int)) (a0 : Nat) (p1 : Int32) (p2 : Int32) (x1 : Int32) (post : Int32 → Mem → Prop)   : ∀ (n : Nat) (w4 : Int32) (w5 : Int32) (S : Mem), wlX3_leastOfSet_34 a0 p1 p2 x1 post n w4 w5 S → ∀ (H : Heap) (locs : List Loc) (ls : Array Slot), Hx G A s.heap H locs S → lv_has ls 7 [(0, .ref a0), (1, .int p1), (2, .int p2), (3, .int x1), (4, .int w4), (5, .int w5)] → W p l e rmX3_leastOfSet s m args below meth c H locs 0 0 (MQ below (QN emI post G A) args s 0 0 A) (F0 m 34 ls []) := by
  have hx := X.1
  have hb := X.2.1
  have hown := X.2.2.2.1
  intro n
  induction n with
  | zero =>
    intro _ _ _ hw
    exact hw.elim
  | succ n ih =>
    intro w4 w5 S hw H locs ls h hl
    refine lv_iload hx hb dX3_leastOfSet_34 (lv_at hl 5 rfl) ?_
    refine lv_aload_n hx hb dX3_leastOfSet_36 rfl (lv_at hl 0 rfl) ?_
    obtain ⟨k3, hw⟩ := hw
    refine r_getI X h k3 3  (by decide) rfl inX3 (by decide) rfl q129 rfl dX3_leastOfSet_37 ?_
    refine lv_icmp_ge (tgt := 98) hx hb dX3_leastOfSet_40 (by decide) (fun c4 => ?_) (fun c4 => ?_)
    · have hw := hw.1 c4
      refine lv_iload hx hb dX3_leastOfSet_98 (lv_at hl 4 rfl) ?_
      exact (en_i X h hr hw (Nat.le_of_ble_eq_true rfl) (Nat.le_of_ble_eq_true rfl) dX3_leastOfSet_100)
    · have hw := hw.2 c4
      refine lv_iload_n hx hb dX3_leastOfSet_43 rfl (lv_at hl 3 rfl) ?_
      refine lv_iconst (v := (nI 1)) hx hb dX3_leastOfSet_44 (by decide) ?_
      refine lv_iload hx hb dX3_leastOfSet_45 (lv_at hl 5 rfl) ?_
      refine lv_ishl hx hb dX3_leastOfSet_47 ?_
      refine lv_iand hx hb dX3_leastOfSet_48 ?_
      refine lv_if_eq (tgt := 92) hx hb dX3_leastOfSet_49 (by decide) (fun c5 => ?_) (fun c5 => ?_)
      · have hw := hw.1 c5
        obtain ⟨x6, ex6⟩ : ∃ y : Int32, y = (w5 + (nI 1)) := ⟨_, rfl⟩
        have hw := hw x6 ex6
        refine lv_iinc (v := x6) (lv' := [(5, .int x6), (0, .ref a0), (1, .int p1), (2, .int p2), (3, .int x1), (4, .int w4)]) hx hb dX3_leastOfSet_92 hl (k := 5) rfl (by rw [ex6]; rfl) (by decide) rfl (fun ls hl => ?_)
        refine lv_goto (tgt := 34) hx hb dX3_leastOfSet_95 (by decide) ?_
        exact ih _ _ _ hw _ _ _ h (lv_sub hl [1, 2, 3, 4, 5, 0] rfl)
      · have hw := hw.2 c5
        refine lv_aload_n hx hb dX3_leastOfSet_52 rfl (lv_at hl 0 rfl) ?_
        obtain ⟨o7, eo7, hw⟩ := hw
        refine r_getR X h k3 2 eo7  (by decide) rfl inX3 (by decide) rfl q128 rfl dX3_leastOfSet_53 ?_
        refine lv_iload_n hx hb dX3_leastOfSet_56 rfl (lv_at hl 3 rfl) ?_
        refine lv_bipush (v := (nI 8)) hx hb dX3_leastOfSet_57 (by decide) ?_
        refine lv_imul hx hb dX3_leastOfSet_59 ?_
        refine lv_iload hx hb dX3_leastOfSet_60 (lv_at hl 5 rfl) ?_
        refine lv_iadd hx hb dX3_leastOfSet_62 ?_
        refine rc_SN (As := [.ref o7, .int ((x1 * (nI 8)) + w5)]) (rest := []) X h (meX6_at l G _ _ _ _ hw) gU_X3_38 q655 q33 q327 rfl rfl hdS_X6_at rfl ⟨Nat.le_of_ble_eq_true rfl, Nat.le_of_ble_eq_true rfl⟩ hl.1 rfl (Nat.le_of_ble_eq_true rfl) ⟨Nat.le_of_ble_eq_true rfl, Nat.le_of_ble_eq_true rfl⟩ dX3_leastOfSet_63 (fun x9 S8 H locs hw h => ?_)
        refine lv_aload_n hx hb dX3_leastOfSet_66 rfl (lv_at hl 0 rfl) ?_
        obtain ⟨k10, hw⟩ := hw
        obtain ⟨o11, eo11, hw⟩ := hw
        refine r_getR X h k10 0 eo11  (by decide) rfl inX3 (by decide) rfl q126 rfl dX3_leastOfSet_67 ?_
        refine lv_aload_n hx hb dX3_leastOfSet_70 rfl (lv_at hl 0 rfl) ?_
        obtain ⟨o12, eo12, hw⟩ := hw
        refine r_getR X h k10 1 eo12  (by decide) rfl inX3 (by decide) rfl q127 rfl dX3_leastOfSet_71 ?_
        refine lv_iload hx hb dX3_leastOfSet_74 (lv_at hl 5 rfl) ?_
        refine lv_iload_n hx hb dX3_leastOfSet_76 rfl (lv_at hl 2 rfl) ?_
        refine rc_S (As := [.ref o11, .ref o12, .int w5, .int p2]) (rest := [.int x9]) X h (meX3_change l G _ _ _ _ _ _ hw) gS_X3_46 rfl rfl hdS_X3_change rfl ⟨Nat.le_of_ble_eq_true rfl, Nat.le_of_ble_eq_true rfl⟩ hl.1 rfl (Nat.le_of_ble_eq_true rfl) ⟨Nat.le_of_ble_eq_true rfl, Nat.le_of_ble_eq_true rfl⟩ dX3_leastOfSet_77 (fun x14 S13 H locs hw h => ?_)
        refine lv_iadd hx hb dX3_leastOfSet_80 ?_
        refine lv_topi (fun x15 ex15 => ?_)
        have hw := hw x15 ex15
        refine lv_istore (lv' := [(6, .int x15), (0, .ref a0), (1, .int p1), (2, .int p2), (3, .int x1), (4, .int w4), (5, .int w5)]) hx hb dX3_leastOfSet_81 hl (by decide) rfl (fun ls hl => ?_)
        refine lv_iload hx hb dX3_leastOfSet_83 (lv_at hl 5 rfl) ?_
        refine lv_iload hx hb dX3_leastOfSet_85 (lv_at hl 0 rfl) ?_
        refine r_min X hl.1 q632 q633 q50 q634 ⟨Nat.le_of_ble_eq_true rfl, Nat.le_of_ble_eq_true rfl⟩ ⟨Nat.le_of_ble_eq_true rfl, Nat.le_of_ble_eq_true rfl⟩ dX3_leastOfSet_87 ?_
        refine lv_topi (fun x16 ex16 => ?_)
        have hw := hw x16 ex16
        refine lv_istore (lv' := [(4, .int x16), (6, .int x15), (0, .ref a0), (1, .int p1), (2, .int p2), (3, .int x1), (5, .int w5)]) hx hb dX3_leastOfSet_90 hl (by decide) rfl (fun ls hl => ?_)
        obtain ⟨x17, ex17⟩ : ∃ y : Int32, y = (w5 + (nI 1)) := ⟨_, rfl⟩
        have hw := hw x17 ex17
        refine lv_iinc (v := x17) (lv' := [(5, .int x17), (4, .int x16), (6, .int x15), (0, .ref a0), (1, .int p1), (2, .int p2), (3, .int x1)]) hx hb dX3_leastOfSet_92 hl (k := 6) rfl (by rw [ex17]; rfl) (by decide) rfl (fun ls hl => ?_)
        refine lv_goto (tgt := 34) hx hb dX3_leastOfSet_95 (by decide) ?_
        exact ih _ _ _ hw _ _ _ h (lv_sub hl [3, 4, 5, 6, 1, 0] rfl)
def wpX3_leastOfSet (S : Mem) (a0 : Nat) (p1 : Int32) (p2 : Int32) (post : Int32 → Mem → Prop) : Prop := ∀ x1 : Int32, x1 = (p1 &&& (((nI 1) <<< (p2 &&& 31)) ^^^ (-1 : Int32))) → ((¬ x1 = 0 → (∃ m, wlX3_leastOfSet_34 a0 p1 p2 x1 post m (1000000 : Int32) (nI 0) S)) ∧ (x1 = 0 → (isK S a0 3 ∧ (∃ o20, mR S a0 0 = some o20 ∧ (∃ o21, mR S a0 1 = some o21 ∧ (wpX3_change S o20 o21 (nI 8) p2 (fun x23 S22 => post x23 S22)))))))
set_option maxHeartbeats 4000000 in
set_option maxRecDepth 100000 in
theorem meX3_leastOfSet (l : Launch) (G : GT) (S : Mem) (a0 : Nat) (p1 : Int32) (p2 : Int32) (post : Int32 → Mem → Prop) (hw : wpX3_leastOfSet S a0 p1 p2 post) : CN emI l yX3_leastOfSet (wsU yX3_leastOfSet cX3_leastOfSet 7 (some .int)) rmX3_leastOfSet 0 0 G [.ref a0, .int p1, .int p2] S post := by
  refine cn_open RX3 rfl (by decide +kernel) (Nat.le_of_ble_eq_true rfl) ?_
  intro p e s m args below meth c A X h hr hin ls hl
  have hl : lv_has ls 7 [(0, .ref a0), (1, .int p1), (2, .int p2)] := hl
  have hx := X.1
  have hb := X.2.1
  have hown := X.2.2.2.1
  unfold wpX3_leastOfSet at hw
  refine lv_iload_n hx hb dX3_leastOfSet_0 rfl (lv_at hl 1 rfl) ?_
  refine lv_iconst (v := (nI 1)) hx hb dX3_leastOfSet_1 (by decide) ?_
  refine lv_iload_n hx hb dX3_leastOfSet_2 rfl (lv_at hl 2 rfl) ?_
  refine lv_ishl hx hb dX3_leastOfSet_3 ?_
  refine lv_iconst (v := (-1 : Int32)) hx hb dX3_leastOfSet_4 (by decide) ?_
  refine lv_ixor hx hb dX3_leastOfSet_5 ?_
  refine lv_iand hx hb dX3_leastOfSet_6 ?_
  refine lv_topi (fun x1 ex1 => ?_)
  have hw := hw x1 ex1
  refine lv_istore_n (lv' := [(3, .int x1), (0, .ref a0), (1, .int p1), (2, .int p2)]) hx hb dX3_leastOfSet_7 rfl hl (by decide) rfl (fun ls hl => ?_)
  refine lv_iload_n hx hb dX3_leastOfSet_8 rfl (lv_at hl 0 rfl) ?_
  refine lv_if_ne (tgt := 27) hx hb dX3_leastOfSet_9 (by decide) (fun c2 => ?_) (fun c2 => ?_)
  · have hw := hw.1 c2
    refine lv_ldc hx hb hown (X.hts q656) dX3_leastOfSet_27 ?_
    refine lv_istore (lv' := [(4, .int (1000000 : Int32)), (3, .int x1), (0, .ref a0), (1, .int p1), (2, .int p2)]) hx hb dX3_leastOfSet_29 hl (by decide) rfl (fun ls hl => ?_)
    refine lv_iconst (v := (nI 0)) hx hb dX3_leastOfSet_31 (by decide) ?_
    refine lv_istore (lv' := [(5, .int (nI 0)), (4, .int (1000000 : Int32)), (3, .int x1), (0, .ref a0), (1, .int p1), (2, .int p2)]) hx hb dX3_leastOfSet_32 hl (by decide) rfl (fun ls hl => ?_)
    obtain ⟨n18, hw⟩ := hw
    exact llX3_leastOfSet_34  X hr _ _ _ _ _ n18 _ _ _ hw _ _ _ h (lv_sub hl [3, 4, 5, 2, 1, 0] rfl)
  · have hw := hw.2 c2
    refine lv_aload_n hx hb dX3_leastOfSet_12 rfl (lv_at hl 1 rfl) ?_
    obtain ⟨k19, hw⟩ := hw
    obtain ⟨o20, eo20, hw⟩ := hw
    refine r_getR X h k19 0 eo20  (by decide) rfl inX3 (by decide) rfl q126 rfl dX3_leastOfSet_13 ?_
    refine lv_aload_n hx hb dX3_leastOfSet_16 rfl (lv_at hl 1 rfl) ?_
    obtain ⟨o21, eo21, hw⟩ := hw
    refine r_getR X h k19 1 eo21  (by decide) rfl inX3 (by decide) rfl q127 rfl dX3_leastOfSet_17 ?_
    refine lv_bipush (v := (nI 8)) hx hb dX3_leastOfSet_20 (by decide) ?_
    refine lv_iload_n hx hb dX3_leastOfSet_22 rfl (lv_at hl 3 rfl) ?_
    refine rc_S (As := [.ref o20, .ref o21, .int (nI 8), .int p2]) (rest := []) X h (meX3_change l G _ _ _ _ _ _ hw) gS_X3_46 rfl rfl hdS_X3_change rfl ⟨Nat.le_of_ble_eq_true rfl, Nat.le_of_ble_eq_true rfl⟩ hl.1 rfl (Nat.le_of_ble_eq_true rfl) ⟨Nat.le_of_ble_eq_true rfl, Nat.le_of_ble_eq_true rfl⟩ dX3_leastOfSet_23 (fun x23 S22 H locs hw h => ?_)
    exact (en_i X h hr hw (Nat.le_of_ble_eq_true rfl) (Nat.le_of_ble_eq_true rfl) dX3_leastOfSet_26)
abbrev rmX3_leastForAllSets : Room := { frames := 3, cells := 0, slots := 0, locals := 72 }
def wlX3_leastForAllSets_70 (a0 : Nat) (x2 : Int32) (post : Int32 → Mem → Prop) (J11 : Int32 → Mem → Prop) : Nat → Int32 → Int32 → Mem → Prop
  | 0 => fun _ _ _ => False
  | n + 1 => fun w2 w3 S => isK S a0 3 ∧ (((mI S a0 3) ≤ w3 → (post w2 S)) ∧ (¬ (mI S a0 3) ≤ w3 → (∃ o6, mR S a0 2 = some o6 ∧ (wpX6_at S o6 ((x2 * (nI 8)) + w3) (fun x8 S7 => ∀ x9 : Int32, x9 = (if x8 < w2 then x8 else w2) → (∀ x10 : Int32, x10 = (w3 + (nI 1)) → (wlX3_leastForAllSets_70 a0 x2 post J11 n x9 x10 S7)))))))
set_option maxHeartbeats 4000000 in
set_option maxRecDepth 100000 in
theorem llX3_leastForAllSets_70 {p : Program} {l : Launch} {e : Env} {s : State} {m : MethodId} {args : Array Value} {below : List Frame} {meth : Method} {c : Code} {G : GT} {A : Nat → Prop} (X : Cx p s m args meth c cX3_leastForAllSets 4 RX3 G A) (hr : meth.sig.returnType = (some .int)) (a0 : Nat) (x2 : Int32) (post : Int32 → Mem → Prop) (J11 : Int32 → Mem → Prop) (hJ11 : ∀ (w2 : Int32) (S : Mem), J11 w2 S → ∀ (H : Heap) (locs : List Loc) (ls : Array Slot), Hx G A s.heap H locs S → lv_has ls 4 [(0, .ref a0), (1, .int x2), (2, .int w2)] → W p l e rmX3_leastForAllSets s m args below meth c H locs 0 0 (MQ below (QN emI post G A) args s 0 0 A) (F0 m 11 ls [])) : ∀ (n : Nat) (w2 : Int32) (w3 : Int32) (S : Mem), wlX3_leastForAllSets_70 a0 x2 post J11 n w2 w3 S → ∀ (H : Heap) (locs : List Loc) (ls : Array Slot), Hx G A s.heap H locs S → lv_has ls 4 [(0, .ref a0), (1, .int x2), (2, .int w2), (3, .int w3)] → W p l e rmX3_leastForAllSets s m args below meth c H locs 0 0 (MQ below (QN emI post G A) args s 0 0 A) (F0 m 70 ls []) := by
  have hx := X.1
  have hb := X.2.1
  have hown := X.2.2.2.1
  intro n
  induction n with
  | zero =>
    intro _ _ _ hw
    exact hw.elim
  | succ n ih =>
    intro w2 w3 S hw H locs ls h hl
    refine lv_iload_n hx hb dX3_leastForAllSets_70 rfl (lv_at hl 3 rfl) ?_
    refine lv_aload_n hx hb dX3_leastForAllSets_71 rfl (lv_at hl 0 rfl) ?_
    obtain ⟨k4, hw⟩ := hw
    refine r_getI X h k4 3  (by decide) rfl inX3 (by decide) rfl q129 rfl dX3_leastForAllSets_72 ?_
    refine lv_icmp_ge (tgt := 102) hx hb dX3_leastForAllSets_75 (by decide) (fun c5 => ?_) (fun c5 => ?_)
    · have hw := hw.1 c5
      refine lv_iload_n hx hb dX3_leastForAllSets_102 rfl (lv_at hl 2 rfl) ?_
      exact (en_i X h hr hw (Nat.le_of_ble_eq_true rfl) (Nat.le_of_ble_eq_true rfl) dX3_leastForAllSets_103)
    · have hw := hw.2 c5
      refine lv_iload_n hx hb dX3_leastForAllSets_78 rfl (lv_at hl 2 rfl) ?_
      refine lv_aload_n hx hb dX3_leastForAllSets_79 rfl (lv_at hl 0 rfl) ?_
      obtain ⟨o6, eo6, hw⟩ := hw
      refine r_getR X h k4 2 eo6  (by decide) rfl inX3 (by decide) rfl q128 rfl dX3_leastForAllSets_80 ?_
      refine lv_iload_n hx hb dX3_leastForAllSets_83 rfl (lv_at hl 1 rfl) ?_
      refine lv_bipush (v := (nI 8)) hx hb dX3_leastForAllSets_84 (by decide) ?_
      refine lv_imul hx hb dX3_leastForAllSets_86 ?_
      refine lv_iload_n hx hb dX3_leastForAllSets_87 rfl (lv_at hl 3 rfl) ?_
      refine lv_iadd hx hb dX3_leastForAllSets_88 ?_
      refine rc_SN (As := [.ref o6, .int ((x2 * (nI 8)) + w3)]) (rest := [.int w2]) X h (meX6_at l G _ _ _ _ hw) gU_X3_38 q655 q33 q327 rfl rfl hdS_X6_at rfl ⟨Nat.le_of_ble_eq_true rfl, Nat.le_of_ble_eq_true rfl⟩ hl.1 rfl (Nat.le_of_ble_eq_true rfl) ⟨Nat.le_of_ble_eq_true rfl, Nat.le_of_ble_eq_true rfl⟩ dX3_leastForAllSets_89 (fun x8 S7 H locs hw h => ?_)
      refine r_min X hl.1 q632 q633 q50 q634 ⟨Nat.le_of_ble_eq_true rfl, Nat.le_of_ble_eq_true rfl⟩ ⟨Nat.le_of_ble_eq_true rfl, Nat.le_of_ble_eq_true rfl⟩ dX3_leastForAllSets_92 ?_
      refine lv_topi (fun x9 ex9 => ?_)
      have hw := hw x9 ex9
      refine lv_istore_n (lv' := [(2, .int x9), (0, .ref a0), (1, .int x2), (3, .int w3)]) hx hb dX3_leastForAllSets_95 rfl hl (by decide) rfl (fun ls hl => ?_)
      obtain ⟨x10, ex10⟩ : ∃ y : Int32, y = (w3 + (nI 1)) := ⟨_, rfl⟩
      have hw := hw x10 ex10
      refine lv_iinc (v := x10) (lv' := [(3, .int x10), (2, .int x9), (0, .ref a0), (1, .int x2)]) hx hb dX3_leastForAllSets_96 hl (k := 3) rfl (by rw [ex10]; rfl) (by decide) rfl (fun ls hl => ?_)
      refine lv_goto (tgt := 70) hx hb dX3_leastForAllSets_99 (by decide) ?_
      exact ih _ _ _ hw _ _ _ h (lv_sub hl [2, 3, 1, 0] rfl)
def wlX3_leastForAllSets_18 (a0 : Nat) (x2 : Int32) (w2 : Int32) (post : Int32 → Mem → Prop) (J11 : Int32 → Mem → Prop) : Nat → Int32 → Mem → Prop
  | 0 => fun _ _ => False
  | n + 1 => fun w3 S => isK S a0 3 ∧ (((mI S a0 3) ≤ w3 → (∀ x14 : Int32, x14 = (w2 + (nI 1)) → (J11 x14 S))) ∧ (¬ (mI S a0 3) ≤ w3 → (((w2 &&& ((nI 1) <<< (w3 &&& 31))) = 0 → (∀ x16 : Int32, x16 = (w3 + (nI 1)) → (wlX3_leastForAllSets_18 a0 x2 w2 post J11 n x16 S))) ∧ (¬ (w2 &&& ((nI 1) <<< (w3 &&& 31))) = 0 → (∃ o17, mR S a0 2 = some o17 ∧ (wpX3_leastOfSet S a0 w2 w3 (fun x19 S18 => wpX6_put S18 o17 ((w2 * (nI 8)) + w3) x19 (fun u21 S20 => ∀ x22 : Int32, x22 = (w3 + (nI 1)) → (wlX3_leastForAllSets_18 a0 x2 w2 post J11 n x22 S20)))))))))
set_option maxHeartbeats 4000000 in
set_option maxRecDepth 100000 in
theorem llX3_leastForAllSets_18 {p : Program} {l : Launch} {e : Env} {s : State} {m : MethodId} {args : Array Value} {below : List Frame} {meth : Method} {c : Code} {G : GT} {A : Nat → Prop} (X : Cx p s m args meth c cX3_leastForAllSets 4 RX3 G A) (hr : meth.sig.returnType = (some .int)) (a0 : Nat) (x2 : Int32) (w2 : Int32) (post : Int32 → Mem → Prop) (J11 : Int32 → Mem → Prop) (hJ11 : ∀ (w2 : Int32) (S : Mem), J11 w2 S → ∀ (H : Heap) (locs : List Loc) (ls : Array Slot), Hx G A s.heap H locs S → lv_has ls 4 [(0, .ref a0), (1, .int x2), (2, .int w2)] → W p l e rmX3_leastForAllSets s m args below meth c H locs 0 0 (MQ below (QN emI post G A) args s 0 0 A) (F0 m 11 ls [])) : ∀ (n : Nat) (w3 : Int32) (S : Mem), wlX3_leastForAllSets_18 a0 x2 w2 post J11 n w3 S → ∀ (H : Heap) (locs : List Loc) (ls : Array Slot), Hx G A s.heap H locs S → lv_has ls 4 [(0, .ref a0), (1, .int x2), (2, .int w2), (3, .int w3)] → W p l e rmX3_leastForAllSets s m args below meth c H locs 0 0 (MQ below (QN emI post G A) args s 0 0 A) (F0 m 18 ls []) := by
  have hx := X.1
  have hb := X.2.1
  have hown := X.2.2.2.1
  intro n
  induction n with
  | zero =>
    intro _ _ hw
    exact hw.elim
  | succ n ih =>
    intro w3 S hw H locs ls h hl
    refine lv_iload_n hx hb dX3_leastForAllSets_18 rfl (lv_at hl 3 rfl) ?_
    refine lv_aload_n hx hb dX3_leastForAllSets_19 rfl (lv_at hl 0 rfl) ?_
    obtain ⟨k12, hw⟩ := hw
    refine r_getI X h k12 3  (by decide) rfl inX3 (by decide) rfl q129 rfl dX3_leastForAllSets_20 ?_
    refine lv_icmp_ge (tgt := 59) hx hb dX3_leastForAllSets_23 (by decide) (fun c13 => ?_) (fun c13 => ?_)
    · have hw := hw.1 c13
      obtain ⟨x14, ex14⟩ : ∃ y : Int32, y = (w2 + (nI 1)) := ⟨_, rfl⟩
      have hw := hw x14 ex14
      refine lv_iinc (v := x14) (lv' := [(2, .int x14), (0, .ref a0), (1, .int x2), (3, .int w3)]) hx hb dX3_leastForAllSets_59 hl (k := 2) rfl (by rw [ex14]; rfl) (by decide) rfl (fun ls hl => ?_)
      refine lv_goto (tgt := 11) hx hb dX3_leastForAllSets_62 (by decide) ?_
      exact hJ11 _ _ hw _ _ _ h (lv_sub hl [1, 2, 0] rfl)
    · have hw := hw.2 c13
      refine lv_iload_n hx hb dX3_leastForAllSets_26 rfl (lv_at hl 2 rfl) ?_
      refine lv_iconst (v := (nI 1)) hx hb dX3_leastForAllSets_27 (by decide) ?_
      refine lv_iload_n hx hb dX3_leastForAllSets_28 rfl (lv_at hl 3 rfl) ?_
      refine lv_ishl hx hb dX3_leastForAllSets_29 ?_
      refine lv_iand hx hb dX3_leastForAllSets_30 ?_
      refine lv_if_eq (tgt := 53) hx hb dX3_leastForAllSets_31 (by decide) (fun c15 => ?_) (fun c15 => ?_)
      · have hw := hw.1 c15
        obtain ⟨x16, ex16⟩ : ∃ y : Int32, y = (w3 + (nI 1)) := ⟨_, rfl⟩
        have hw := hw x16 ex16
        refine lv_iinc (v := x16) (lv' := [(3, .int x16), (0, .ref a0), (1, .int x2), (2, .int w2)]) hx hb dX3_leastForAllSets_53 hl (k := 3) rfl (by rw [ex16]; rfl) (by decide) rfl (fun ls hl => ?_)
        refine lv_goto (tgt := 18) hx hb dX3_leastForAllSets_56 (by decide) ?_
        exact ih _ _ hw _ _ _ h (lv_sub hl [1, 2, 3, 0] rfl)
      · have hw := hw.2 c15
        refine lv_aload_n hx hb dX3_leastForAllSets_34 rfl (lv_at hl 0 rfl) ?_
        obtain ⟨o17, eo17, hw⟩ := hw
        refine r_getR X h k12 2 eo17  (by decide) rfl inX3 (by decide) rfl q128 rfl dX3_leastForAllSets_35 ?_
        refine lv_iload_n hx hb dX3_leastForAllSets_38 rfl (lv_at hl 2 rfl) ?_
        refine lv_bipush (v := (nI 8)) hx hb dX3_leastForAllSets_39 (by decide) ?_
        refine lv_imul hx hb dX3_leastForAllSets_41 ?_
        refine lv_iload_n hx hb dX3_leastForAllSets_42 rfl (lv_at hl 3 rfl) ?_
        refine lv_iadd hx hb dX3_leastForAllSets_43 ?_
        refine lv_aload_n hx hb dX3_leastForAllSets_44 rfl (lv_at hl 0 rfl) ?_
        refine lv_iload_n hx hb dX3_leastForAllSets_45 rfl (lv_at hl 2 rfl) ?_
        refine lv_iload_n hx hb dX3_leastForAllSets_46 rfl (lv_at hl 3 rfl) ?_
        refine rc_V (As := [.int w2, .int w3]) (rest := [.int ((w2 * (nI 8)) + w3), .ref o17]) X h k12 (by decide) rfl (meX3_leastOfSet l G _ _ _ _ _ hw) gV_X3_42 rfl rfl hdV_X3_leastOfSet rfl ⟨Nat.le_of_ble_eq_true rfl, Nat.le_of_ble_eq_true rfl⟩ hl.1 rfl (Nat.le_of_ble_eq_true rfl) ⟨Nat.le_of_ble_eq_true rfl, Nat.le_of_ble_eq_true rfl⟩ dX3_leastForAllSets_47 (fun x19 S18 H locs hw h => ?_)
        refine rc_SN (As := [.ref o17, .int ((w2 * (nI 8)) + w3), .int x19]) (rest := []) X h (meX6_put l G _ _ _ _ _ hw) gU_X3_34 q638 q33 q334 rfl rfl hdS_X6_put rfl ⟨Nat.le_of_ble_eq_true rfl, Nat.le_of_ble_eq_true rfl⟩ hl.1 rfl (Nat.le_of_ble_eq_true rfl) ⟨Nat.le_of_ble_eq_true rfl, Nat.le_of_ble_eq_true rfl⟩ dX3_leastForAllSets_50 (fun u21 S20 H locs hw h => ?_)
        obtain ⟨x22, ex22⟩ : ∃ y : Int32, y = (w3 + (nI 1)) := ⟨_, rfl⟩
        have hw := hw x22 ex22
        refine lv_iinc (v := x22) (lv' := [(3, .int x22), (0, .ref a0), (1, .int x2), (2, .int w2)]) hx hb dX3_leastForAllSets_53 hl (k := 3) rfl (by rw [ex22]; rfl) (by decide) rfl (fun ls hl => ?_)
        refine lv_goto (tgt := 18) hx hb dX3_leastForAllSets_56 (by decide) ?_
        exact ih _ _ hw _ _ _ h (lv_sub hl [1, 2, 3, 0] rfl)
def wlX3_leastForAllSets_11 (a0 : Nat) (x2 : Int32) (post : Int32 → Mem → Prop)  : Nat → Int32 → Mem → Prop
  | 0 => fun _ _ => False
  | n + 1 => fun w2 S => (x2 < w2 → (∃ m, wlX3_leastForAllSets_70 a0 x2 post (fun w2 S => wlX3_leastForAllSets_11 a0 x2 post n w2 S) m (1000000 : Int32) (nI 0) S)) ∧ (¬ x2 < w2 → (∃ m, wlX3_leastForAllSets_18 a0 x2 w2 post (fun w2 S => wlX3_leastForAllSets_11 a0 x2 post n w2 S) m (nI 0) S))
set_option maxHeartbeats 4000000 in
set_option maxRecDepth 100000 in
theorem llX3_leastForAllSets_11 {p : Program} {l : Launch} {e : Env} {s : State} {m : MethodId} {args : Array Value} {below : List Frame} {meth : Method} {c : Code} {G : GT} {A : Nat → Prop} (X : Cx p s m args meth c cX3_leastForAllSets 4 RX3 G A) (hr : meth.sig.returnType = (some .int)) (a0 : Nat) (x2 : Int32) (post : Int32 → Mem → Prop)   : ∀ (n : Nat) (w2 : Int32) (S : Mem), wlX3_leastForAllSets_11 a0 x2 post n w2 S → ∀ (H : Heap) (locs : List Loc) (ls : Array Slot), Hx G A s.heap H locs S → lv_has ls 4 [(0, .ref a0), (1, .int x2), (2, .int w2)] → W p l e rmX3_leastForAllSets s m args below meth c H locs 0 0 (MQ below (QN emI post G A) args s 0 0 A) (F0 m 11 ls []) := by
  have hx := X.1
  have hb := X.2.1
  have hown := X.2.2.2.1
  intro n
  induction n with
  | zero =>
    intro _ _ hw
    exact hw.elim
  | succ n ih =>
    intro w2 S hw H locs ls h hl
    refine lv_iload_n hx hb dX3_leastForAllSets_11 rfl (lv_at hl 2 rfl) ?_
    refine lv_iload_n hx hb dX3_leastForAllSets_12 rfl (lv_at hl 1 rfl) ?_
    refine lv_icmp_gt (tgt := 65) hx hb dX3_leastForAllSets_13 (by decide) (fun c3 => ?_) (fun c3 => ?_)
    · have hw := hw.1 c3
      refine lv_ldc hx hb hown (X.hts q656) dX3_leastForAllSets_65 ?_
      refine lv_istore_n (lv' := [(2, .int (1000000 : Int32)), (0, .ref a0), (1, .int x2)]) hx hb dX3_leastForAllSets_67 rfl hl (by decide) rfl (fun ls hl => ?_)
      refine lv_iconst (v := (nI 0)) hx hb dX3_leastForAllSets_68 (by decide) ?_
      refine lv_istore_n (lv' := [(3, .int (nI 0)), (2, .int (1000000 : Int32)), (0, .ref a0), (1, .int x2)]) hx hb dX3_leastForAllSets_69 rfl hl (by decide) rfl (fun ls hl => ?_)
      obtain ⟨n11, hw⟩ := hw
      exact llX3_leastForAllSets_70  X hr _ _ _ _ (fun w2 S hw H locs ls h hl => ih w2 S hw H locs ls h hl) n11 _ _ _ hw _ _ _ h (lv_sub hl [2, 3, 1, 0] rfl)
    · have hw := hw.2 c3
      refine lv_iconst (v := (nI 0)) hx hb dX3_leastForAllSets_16 (by decide) ?_
      refine lv_istore_n (lv' := [(3, .int (nI 0)), (0, .ref a0), (1, .int x2), (2, .int w2)]) hx hb dX3_leastForAllSets_17 rfl hl (by decide) rfl (fun ls hl => ?_)
      obtain ⟨n23, hw⟩ := hw
      exact llX3_leastForAllSets_18  X hr _ _ _ _ _ (fun w2 S hw H locs ls h hl => ih w2 S hw H locs ls h hl) n23 _ _ hw _ _ _ h (lv_sub hl [1, 2, 3, 0] rfl)
def wpX3_leastForAllSets (S : Mem) (a0 : Nat) (post : Int32 → Mem → Prop) : Prop := isK S a0 3 ∧ (∀ x2 : Int32, x2 = (((nI 1) <<< ((mI S a0 3) &&& 31)) - (nI 1)) → (∃ m, wlX3_leastForAllSets_11 a0 x2 post m (nI 1) S))
set_option maxHeartbeats 4000000 in
set_option maxRecDepth 100000 in
theorem meX3_leastForAllSets (l : Launch) (G : GT) (S : Mem) (a0 : Nat) (post : Int32 → Mem → Prop) (hw : wpX3_leastForAllSets S a0 post) : CN emI l yX3_leastForAllSets (wsU yX3_leastForAllSets cX3_leastForAllSets 4 (some .int)) rmX3_leastForAllSets 0 0 G [.ref a0] S post := by
  refine cn_open RX3 rfl (by decide +kernel) (Nat.le_of_ble_eq_true rfl) ?_
  intro p e s m args below meth c A X h hr hin ls hl
  have hl : lv_has ls 4 [(0, .ref a0)] := hl
  have hx := X.1
  have hb := X.2.1
  have hown := X.2.2.2.1
  unfold wpX3_leastForAllSets at hw
  refine lv_iconst (v := (nI 1)) hx hb dX3_leastForAllSets_0 (by decide) ?_
  refine lv_aload_n hx hb dX3_leastForAllSets_1 rfl (lv_at hl 0 rfl) ?_
  obtain ⟨k1, hw⟩ := hw
  refine r_getI X h k1 3  (by decide) rfl inX3 (by decide) rfl q129 rfl dX3_leastForAllSets_2 ?_
  refine lv_ishl hx hb dX3_leastForAllSets_5 ?_
  refine lv_iconst (v := (nI 1)) hx hb dX3_leastForAllSets_6 (by decide) ?_
  refine lv_isub hx hb dX3_leastForAllSets_7 ?_
  refine lv_topi (fun x2 ex2 => ?_)
  have hw := hw x2 ex2
  refine lv_istore_n (lv' := [(1, .int x2), (0, .ref a0)]) hx hb dX3_leastForAllSets_8 rfl hl (by decide) rfl (fun ls hl => ?_)
  refine lv_iconst (v := (nI 1)) hx hb dX3_leastForAllSets_9 (by decide) ?_
  refine lv_istore_n (lv' := [(2, .int (nI 1)), (1, .int x2), (0, .ref a0)]) hx hb dX3_leastForAllSets_10 rfl hl (by decide) rfl (fun ls hl => ?_)
  obtain ⟨n24, hw⟩ := hw
  exact llX3_leastForAllSets_11  X hr _ _ _ n24 _ _ hw _ _ _ h (lv_sub hl [2, 1, 0] rfl)
abbrev rmX6_leastMakeready : Room := { frames := 8, cells := 2, slots := 12, locals := 134 }
def wpX6_leastMakeready (S : Mem) (a0 : Nat) (p1 : Int32) (post : Int32 → Mem → Prop) (px : Nat → Mem → Prop) : Prop := isK S a0 6 ∧ (wpX6_completeJob S a0 p1 (fun r3 S1 => ∃ o4, r3 = some o4 ∧ (isK S1 a0 6 ∧ (wpX6_loadOrders S1 a0 o4 (fun u7 S5 => isK S5 a0 6 ∧ (∃ o9, mR S5 a0 2 = some o9 ∧ (isK S5 o4 1 ∧ (isK S5 o9 5 ∧ (wpX5_bindingMinutes S5 o9 (mI S5 o4 0) (fun x13 S11 => isK S11 a0 6 ∧ (∃ o15, mR S11 a0 4 = some o15 ∧ (isK S11 o15 3 ∧ (wpX3_leastForAllSets S11 o15 (fun x18 S16 => post (x13 + x18) S16))))))))))))) px)
set_option maxHeartbeats 4000000 in
set_option maxRecDepth 100000 in
theorem meX6_leastMakeready (l : Launch) (hl9 : l.stackTraces = false) (G : GT) (S : Mem) (a0 : Nat) (p1 : Int32) (post : Int32 → Mem → Prop) (px : Nat → Mem → Prop) (hw : wpX6_leastMakeready S a0 p1 post px) : CX emI l yX6_leastMakeready (wsU yX6_leastMakeready cX6_leastMakeready 3 (some .int)) rmX6_leastMakeready 2 12 G [.ref a0, .int p1] S post px := by
  refine cx_open RX6 rfl (by decide +kernel) (Nat.le_of_ble_eq_true rfl) ?_
  intro p e s m args below meth c A X h hr hno ls hl
  have hl : lv_has ls 3 [(0, .ref a0), (1, .int p1)] := hl
  have hx := X.1
  have hb := X.2.1
  have hown := X.2.2.2.1
  unfold wpX6_leastMakeready at hw
  refine lv_aload_n hx hb dX6_leastMakeready_0 rfl (lv_at hl 0 rfl) ?_
  refine lv_iload_n hx hb dX6_leastMakeready_1 rfl (lv_at hl 1 rfl) ?_
  obtain ⟨k2, hw⟩ := hw
  refine rx_V (As := [.int p1]) (rest := []) X h hno k2 (by decide) rfl (meX6_completeJob l hl9 G _ _ _ _ _ hw) gV_X6_121 rfl rfl hdV_X6_completeJob rfl ⟨Nat.le_of_ble_eq_true rfl, Nat.le_of_ble_eq_true rfl⟩ hl.1 rfl (Nat.le_of_ble_eq_true rfl) ⟨Nat.le_of_ble_eq_true rfl, Nat.le_of_ble_eq_true rfl⟩ ⟨Nat.le_of_ble_eq_true rfl, Nat.le_of_ble_eq_true rfl⟩ dX6_leastMakeready_2 (fun r3 S1 H locs hw h => ?_)
  obtain ⟨o4, rfl, hw⟩ := hw
  refine lv_astore_n (lv' := [(2, .ref o4), (0, .ref a0), (1, .int p1)]) hx hb dX6_leastMakeready_5 rfl hl (by decide) rfl (fun ls hl => ?_)
  refine lv_aload_n hx hb dX6_leastMakeready_6 rfl (lv_at hl 1 rfl) ?_
  refine lv_aload_n hx hb dX6_leastMakeready_7 rfl (lv_at hl 0 rfl) ?_
  obtain ⟨k6, hw⟩ := hw
  refine rc_V (As := [.ref o4]) (rest := []) X h k6 (by decide) rfl (meX6_loadOrders l G _ _ _ _ hw) gV_X6_197 rfl rfl hdV_X6_loadOrders rfl ⟨Nat.le_of_ble_eq_true rfl, Nat.le_of_ble_eq_true rfl⟩ hl.1 rfl (Nat.le_of_ble_eq_true rfl) ⟨Nat.le_of_ble_eq_true rfl, Nat.le_of_ble_eq_true rfl⟩ dX6_leastMakeready_8 (fun u7 S5 H locs hw h => ?_)
  refine lv_aload_n hx hb dX6_leastMakeready_11 rfl (lv_at hl 1 rfl) ?_
  obtain ⟨k8, hw⟩ := hw
  obtain ⟨o9, eo9, hw⟩ := hw
  refine r_getR X h k8 2 eo9  (by decide) rfl inX6 (by decide) rfl q143 rfl dX6_leastMakeready_12 ?_
  refine lv_aload_n hx hb dX6_leastMakeready_15 rfl (lv_at hl 0 rfl) ?_
  obtain ⟨k10, hw⟩ := hw
  refine r_getIN X h k10 0  (by decide) rfl inX1 (by decide) rfl q430 rfl dX6_leastMakeready_16 ?_
  obtain ⟨k12, hw⟩ := hw
  refine rc_V (As := [.int (mI S5 o4 0)]) (rest := []) X h k12 (by decide) rfl (meX5_bindingMinutes l G _ _ _ _ hw) gV_X6_201 rfl rfl hdV_X5_bindingMinutes rfl ⟨Nat.le_of_ble_eq_true rfl, Nat.le_of_ble_eq_true rfl⟩ hl.1 rfl (Nat.le_of_ble_eq_true rfl) ⟨Nat.le_of_ble_eq_true rfl, Nat.le_of_ble_eq_true rfl⟩ dX6_leastMakeready_19 (fun x13 S11 H locs hw h => ?_)
  refine lv_aload_n hx hb dX6_leastMakeready_22 rfl (lv_at hl 1 rfl) ?_
  obtain ⟨k14, hw⟩ := hw
  obtain ⟨o15, eo15, hw⟩ := hw
  refine r_getR X h k14 4 eo15  (by decide) rfl inX6 (by decide) rfl q145 rfl dX6_leastMakeready_23 ?_
  obtain ⟨k17, hw⟩ := hw
  refine rc_V (As := []) (rest := [.int x13]) X h k17 (by decide) rfl (meX3_leastForAllSets l G _ _ _ hw) gV_X6_205 rfl rfl hdV_X3_leastForAllSets rfl ⟨Nat.le_of_ble_eq_true rfl, Nat.le_of_ble_eq_true rfl⟩ hl.1 rfl (Nat.le_of_ble_eq_true rfl) ⟨Nat.le_of_ble_eq_true rfl, Nat.le_of_ble_eq_true rfl⟩ dX6_leastMakeready_26 (fun x18 S16 H locs hw h => ?_)
  refine lv_iadd hx hb dX6_leastMakeready_29 ?_
  exact vx_ret (en_i X h hr hw (Nat.le_of_ble_eq_true rfl) (Nat.le_of_ble_eq_true rfl) dX6_leastMakeready_30)
abbrev rmL_leastMakeready : Room := { frames := 9, cells := 2, slots := 12, locals := 156 }
def wpL_leastMakeready (S : Mem) (a0 : Nat) (p1 : Int32) (a2 : Nat) (post : Int32 → Mem → Prop) : Prop := isK S a0 6 ∧ (wpX6_leastMakeready S a0 p1 (fun x3 S1 => isK S1 a2 12 ∧ (vp_in (nI 0) (mN S1 a2) ∧ (∀ S8 : Mem, S8 = (sJ S1 a2 (nI 0).toNatClampNeg x3.toInt64) → (post (nI 0) S8)))) (fun k4 S5 => (k4 = 1 → (post (nI 1) S5)) ∧ (k4 = 2 → (post (nI 2) S5)) ∧ (k4 = 1 ∨ k4 = 2)))
set_option maxHeartbeats 4000000 in
set_option maxRecDepth 100000 in
theorem meL_leastMakeready (l : Launch) (hl9 : l.stackTraces = false) (G : GT) (S : Mem) (a0 : Nat) (p1 : Int32) (a2 : Nat) (post : Int32 → Mem → Prop) (hw : wpL_leastMakeready S a0 p1 a2 post) : CN emI l yL_leastMakeready (wsH yL_leastMakeready cL_leastMakeready 4 (some .int) [(0, 9, 12, 19), (0, 9, 15, 13)]) rmL_leastMakeready 2 12 G [.ref a0, .int p1, .ref a2] S post := by
  refine ch_open RL rfl (by decide +kernel) (Nat.le_of_ble_eq_true rfl) ?_
  intro p e s m args below meth c A X h hr hTab ls hl
  have hl : lv_has ls 4 [(0, .ref a0), (1, .int p1), (2, .ref a2)] := hl
  have hx := X.1
  have hb := X.2.1
  have hown := X.2.2.2.1
  unfold wpL_leastMakeready at hw
  refine lv_aload_n hx hb dL_leastMakeready_0 rfl (lv_at hl 2 rfl) ?_
  refine lv_iconst (v := (nI 0)) hx hb dL_leastMakeready_1 (by decide) ?_
  refine lv_aload_n hx hb dL_leastMakeready_2 rfl (lv_at hl 0 rfl) ?_
  refine lv_iload_n hx hb dL_leastMakeready_3 rfl (lv_at hl 1 rfl) ?_
  obtain ⟨k2, hw⟩ := hw
  refine rx_VH (As := [.int p1]) (rest := [.int (nI 0), .ref a2]) X h k2 (by decide) rfl (meX6_leastMakeready l hl9 G _ _ _ _ _ hw) gV_L_61 rfl rfl hdV_X6_leastMakeready rfl ⟨Nat.le_of_ble_eq_true rfl, Nat.le_of_ble_eq_true rfl⟩ hl.1 rfl (Nat.le_of_ble_eq_true rfl) ⟨Nat.le_of_ble_eq_true rfl, Nat.le_of_ble_eq_true rfl⟩ dL_leastMakeready_4 (fun k4 S5 H locs q9 ce hw h hce hcv hcl => ?_) (fun x3 S1 H locs hw h => ?_)
  · rcases hw.2.2 with hk9 | hk9
    · subst hk9
      have hw := hw.1 rfl
      refine vx_catch (own := RL) (name := "java/lang/IndexOutOfBoundsException") (E := xn 1) hown [] ⟨0, 9, 12, 19⟩ [⟨0, 9, 15, 13⟩] (by rw [hTab]; rfl) (fun z hz => nomatch hz) (by decide) (by decide) (X.hts q277) (va_Nw.use (by rfl) (X.nw q311)) hce hcv hcl ?_
      refine lv_astore_n (lv' := [(3, .ref q9), (0, .ref a0), (1, .int p1), (2, .ref a2)]) hx hb dL_leastMakeready_12 rfl hl (by decide) rfl (fun ls hl => ?_)
      refine lv_iconst (v := (nI 1)) hx hb dL_leastMakeready_13 (by decide) ?_
      exact (en_i X h hr hw (Nat.le_of_ble_eq_true rfl) (Nat.le_of_ble_eq_true rfl) dL_leastMakeready_14)
    · subst hk9
      have hw := hw.2.1 rfl
      have hpass2 : ∀ z ∈ ([⟨0, 9, 12, 19⟩] : List ExceptionTableEntry), covers z 4 = false ∨ (z.catchType ≠ 0 ∧ ∃ nm : String, (Cond.classLink RL z.catchType nm).before args s = true ∧ va_Nc (xn 2) nm s) := by
        intro z hz
        rcases List.mem_cons.mp hz with rfl | hz
        · exact Or.inr ⟨by decide, "java/lang/IndexOutOfBoundsException", X.hts q277, X.2.2.2.2.2.2.1.2.2.2.2.1 ("java/lang/IllegalStateException", "java/lang/IndexOutOfBoundsException") (by decide +kernel)⟩
        cases hz
      refine vx_catch (own := RL) (name := "java/lang/IllegalStateException") (E := xn 2) hown [⟨0, 9, 12, 19⟩] ⟨0, 9, 15, 13⟩ [] (by rw [hTab]; rfl) (hpass2) (by decide) (by decide) (X.hts q193) (va_Nw.use (by rfl) (X.nw q200)) hce hcv hcl ?_
      refine lv_astore_n (lv' := [(3, .ref q9), (0, .ref a0), (1, .int p1), (2, .ref a2)]) hx hb dL_leastMakeready_15 rfl hl (by decide) rfl (fun ls hl => ?_)
      refine lv_iconst (v := (nI 2)) hx hb dL_leastMakeready_16 (by decide) ?_
      exact (en_i X h hr hw (Nat.le_of_ble_eq_true rfl) (Nat.le_of_ble_eq_true rfl) dL_leastMakeready_17)
  · refine lv_i2l (v := x3.toInt64) hx hb dL_leastMakeready_7 rfl ?_
    obtain ⟨k6, hw⟩ := hw
    obtain ⟨v7, hw⟩ := hw
    refine r_last X h k6 v7 dL_leastMakeready_8 (fun H locs h => ?_)
    obtain ⟨S8, eS8⟩ : ∃ z : Mem, z = (sJ S1 a2 (nI 0).toNatClampNeg x3.toInt64) := ⟨_, rfl⟩
    rw [← eS8] at h
    have hw := hw S8 eS8
    refine lv_goto (tgt := 18) hx hb dL_leastMakeready_9 (by decide) ?_
    refine lv_iconst (v := (nI 0)) hx hb dL_leastMakeready_18 (by decide) ?_
    exact (en_i X h hr hw (Nat.le_of_ble_eq_true rfl) (Nat.le_of_ble_eq_true rfl) dL_leastMakeready_19)
abbrev rmX7_change : Room := { frames := 0, cells := 0, slots := 0, locals := 0 }
def wpX7_change (S : Mem) (a0 : Nat) (p1 : Int32) (p2 : Int32) (post : Int32 → Mem → Prop) : Prop := isK S a0 7 ∧ (∃ o2, mR S a0 19 = some o2 ∧ (isK S o2 8 ∧ (vp_in p1 (mN S o2) ∧ (vp_in p2 (mN S o2) ∧ ((¬ (mI S o2 p1.toNatClampNeg) = (mI S o2 p2.toNatClampNeg) → (∃ o7, mR S a0 20 = some o7 ∧ (isK S o7 8 ∧ (vp_in p1 (mN S o7) ∧ (vp_in p2 (mN S o7) ∧ ((¬ (mI S o7 p1.toNatClampNeg) = (mI S o7 p2.toNatClampNeg) → (post ((nI 20) + (nI 20)) S)) ∧ ((mI S o7 p1.toNatClampNeg) = (mI S o7 p2.toNatClampNeg) → (post ((nI 20) + (nI 0)) S)))))))) ∧ ((mI S o2 p1.toNatClampNeg) = (mI S o2 p2.toNatClampNeg) → (∃ o12, mR S a0 20 = some o12 ∧ (isK S o12 8 ∧ (vp_in p1 (mN S o12) ∧ (vp_in p2 (mN S o12) ∧ ((¬ (mI S o12 p1.toNatClampNeg) = (mI S o12 p2.toNatClampNeg) → (post ((nI 0) + (nI 20)) S)) ∧ ((mI S o12 p1.toNatClampNeg) = (mI S o12 p2.toNatClampNeg) → (post ((nI 0) + (nI 0)) S)))))))))))))
set_option maxHeartbeats 4000000 in
set_option maxRecDepth 100000 in
theorem meX7_change (l : Launch) (G : GT) (S : Mem) (a0 : Nat) (p1 : Int32) (p2 : Int32) (post : Int32 → Mem → Prop) (hw : wpX7_change S a0 p1 p2 post) : CN emI l yX7_change (wsU yX7_change cX7_change 3 (some .int)) rmX7_change 0 0 G [.ref a0, .int p1, .int p2] S post := by
  refine cn_open RX7 rfl (by decide +kernel) (Nat.le_of_ble_eq_true rfl) ?_
  intro p e s m args below meth c A X h hr hin ls hl
  have hl : lv_has ls 3 [(0, .ref a0), (1, .int p1), (2, .int p2)] := hl
  have hx := X.1
  have hb := X.2.1
  have hown := X.2.2.2.1
  unfold wpX7_change at hw
  refine lv_aload_n hx hb dX7_change_0 rfl (lv_at hl 0 rfl) ?_
  obtain ⟨k1, hw⟩ := hw
  obtain ⟨o2, eo2, hw⟩ := hw
  refine r_getR X h k1 19 eo2  (by decide) rfl inX7 (by decide) rfl q867 rfl dX7_change_1 ?_
  refine lv_iload_n hx hb dX7_change_4 rfl (lv_at hl 1 rfl) ?_
  obtain ⟨k3, hw⟩ := hw
  obtain ⟨v4, hw⟩ := hw
  refine r_iald X h k3 v4 dX7_change_5 ?_
  refine lv_aload_n hx hb dX7_change_6 rfl (lv_at hl 0 rfl) ?_
  refine r_getR X h k1 19 eo2  (by decide) rfl inX7 (by decide) rfl q867 rfl dX7_change_7 ?_
  refine lv_iload_n hx hb dX7_change_10 rfl (lv_at hl 2 rfl) ?_
  obtain ⟨v5, hw⟩ := hw
  refine r_iald X h k3 v5 dX7_change_11 ?_
  refine lv_icmp_ne (tgt := 19) hx hb dX7_change_12 (by decide) (fun c6 => ?_) (fun c6 => ?_)
  · have hw := hw.1 c6
    refine lv_bipush (v := (nI 20)) hx hb dX7_change_19 (by decide) ?_
    refine lv_aload_n hx hb dX7_change_21 rfl (lv_at hl 0 rfl) ?_
    obtain ⟨o7, eo7, hw⟩ := hw
    refine r_getR X h k1 20 eo7  (by decide) rfl inX7 (by decide) rfl q868 rfl dX7_change_22 ?_
    refine lv_iload_n hx hb dX7_change_25 rfl (lv_at hl 1 rfl) ?_
    obtain ⟨k8, hw⟩ := hw
    obtain ⟨v9, hw⟩ := hw
    refine r_iald X h k8 v9 dX7_change_26 ?_
    refine lv_aload_n hx hb dX7_change_27 rfl (lv_at hl 0 rfl) ?_
    refine r_getR X h k1 20 eo7  (by decide) rfl inX7 (by decide) rfl q868 rfl dX7_change_28 ?_
    refine lv_iload_n hx hb dX7_change_31 rfl (lv_at hl 2 rfl) ?_
    obtain ⟨v10, hw⟩ := hw
    refine r_iald X h k8 v10 dX7_change_32 ?_
    refine lv_icmp_ne (tgt := 40) hx hb dX7_change_33 (by decide) (fun c11 => ?_) (fun c11 => ?_)
    · have hw := hw.1 c11
      refine lv_bipush (v := (nI 20)) hx hb dX7_change_40 (by decide) ?_
      refine lv_iadd hx hb dX7_change_42 ?_
      exact (en_i X h hr hw (Nat.le_of_ble_eq_true rfl) (Nat.le_of_ble_eq_true rfl) dX7_change_43)
    · have hw := hw.2 c11
      refine lv_iconst (v := (nI 0)) hx hb dX7_change_36 (by decide) ?_
      refine lv_goto (tgt := 42) hx hb dX7_change_37 (by decide) ?_
      refine lv_iadd hx hb dX7_change_42 ?_
      exact (en_i X h hr hw (Nat.le_of_ble_eq_true rfl) (Nat.le_of_ble_eq_true rfl) dX7_change_43)
  · have hw := hw.2 c6
    refine lv_iconst (v := (nI 0)) hx hb dX7_change_15 (by decide) ?_
    refine lv_goto (tgt := 21) hx hb dX7_change_16 (by decide) ?_
    refine lv_aload_n hx hb dX7_change_21 rfl (lv_at hl 0 rfl) ?_
    obtain ⟨o12, eo12, hw⟩ := hw
    refine r_getR X h k1 20 eo12  (by decide) rfl inX7 (by decide) rfl q868 rfl dX7_change_22 ?_
    refine lv_iload_n hx hb dX7_change_25 rfl (lv_at hl 1 rfl) ?_
    obtain ⟨k13, hw⟩ := hw
    obtain ⟨v14, hw⟩ := hw
    refine r_iald X h k13 v14 dX7_change_26 ?_
    refine lv_aload_n hx hb dX7_change_27 rfl (lv_at hl 0 rfl) ?_
    refine r_getR X h k1 20 eo12  (by decide) rfl inX7 (by decide) rfl q868 rfl dX7_change_28 ?_
    refine lv_iload_n hx hb dX7_change_31 rfl (lv_at hl 2 rfl) ?_
    obtain ⟨v15, hw⟩ := hw
    refine r_iald X h k13 v15 dX7_change_32 ?_
    refine lv_icmp_ne (tgt := 40) hx hb dX7_change_33 (by decide) (fun c16 => ?_) (fun c16 => ?_)
    · have hw := hw.1 c16
      refine lv_bipush (v := (nI 20)) hx hb dX7_change_40 (by decide) ?_
      refine lv_iadd hx hb dX7_change_42 ?_
      exact (en_i X h hr hw (Nat.le_of_ble_eq_true rfl) (Nat.le_of_ble_eq_true rfl) dX7_change_43)
    · have hw := hw.2 c16
      refine lv_iconst (v := (nI 0)) hx hb dX7_change_36 (by decide) ?_
      refine lv_goto (tgt := 42) hx hb dX7_change_37 (by decide) ?_
      refine lv_iadd hx hb dX7_change_42 ?_
      exact (en_i X h hr hw (Nat.le_of_ble_eq_true rfl) (Nat.le_of_ble_eq_true rfl) dX7_change_43)
