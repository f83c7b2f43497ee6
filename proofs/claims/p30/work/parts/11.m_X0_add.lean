abbrev rmX0_add : Room := { frames := 0, cells := 0, slots := 0, locals := 0 }
def wpX0_add (S : Mem) (a0 : Nat) (post : Int32 → Mem → Prop) : Prop := isK S a0 0 ∧ (∀ x2 : Int32, x2 = ((mI S a0 3) + (nI 1)) → (∀ S3 : Mem, S3 = (sI S a0 3 x2) → (post ((mI S3 a0 3) - (nI 1)) S3)))
set_option maxHeartbeats 4000000 in
set_option maxRecDepth 100000 in
theorem meX0_add (l : Launch) (G : GT) (S : Mem) (a0 : Nat) (post : Int32 → Mem → Prop) (hw : wpX0_add S a0 post) : CN emI l yX0_add (wsU yX0_add cX0_add 1 (some .int)) rmX0_add 0 0 G [.ref a0] S post := by
  refine cn_open RX0 rfl (by decide +kernel) (Nat.le_of_ble_eq_true rfl) ?_
  intro p e s m args below meth c A X h hr hin ls hl
  have hl : lv_has ls 1 [(0, .ref a0)] := hl
  have hx := X.1
  have hb := X.2.1
  have hown := X.2.2.2.1
  unfold wpX0_add at hw
  refine lv_aload_n hx hb dX0_add_0 rfl (lv_at hl 0 rfl) ?_
  refine lv_dup hx hb dX0_add_1 rfl ?_
  obtain ⟨k1, hw⟩ := hw
  refine r_getI X h k1 3  (by decide) rfl inX0 (by decide) rfl q49 rfl dX0_add_2 ?_
  refine lv_iconst (v := (nI 1)) hx hb dX0_add_5 (by decide) ?_
  refine lv_iadd hx hb dX0_add_6 ?_
  refine lv_topi (fun x2 ex2 => ?_)
  have hw := hw x2 ex2
  refine r_putI X h k1 3 (by decide) rfl inX0 tyX0 tyX0_ok nmX0 (by decide) rfl (Nat.le_of_ble_eq_true rfl) q49 rfl rfl (tyX0_ok 3 (by decide)) rfl rfl dX0_add_7 (fun H locs h => ?_)
  obtain ⟨S3, eS3⟩ : ∃ z : Mem, z = (sI S a0 3 x2) := ⟨_, rfl⟩
  rw [← eS3] at h
  have hw := hw S3 eS3
  refine lv_aload_n hx hb dX0_add_10 rfl (lv_at hl 0 rfl) ?_
  refine r_getI X h (kI eS3 k1) 3  (by decide) rfl inX0 (by decide) rfl q49 rfl dX0_add_11 ?_
  refine lv_iconst (v := (nI 1)) hx hb dX0_add_14 (by decide) ?_
  refine lv_isub hx hb dX0_add_15 ?_
  exact (en_i X h hr hw (Nat.le_of_ble_eq_true rfl) (Nat.le_of_ble_eq_true rfl) dX0_add_16)
abbrev rmX6_addContent : Room := { frames := 6, cells := 1, slots := 6, locals := 90 }
def wpX6_addContent (S : Mem) (a0 : Nat) (post : Int32 → Mem → Prop) (px : Nat → Mem → Prop) : Prop := isK S a0 6 ∧ (∃ o2, mR S a0 0 = some o2 ∧ (isK S o2 0 ∧ (((mI S o2 3) < (nI 12) → (wpX0_add S o2 (fun x6 S5 => post x6 S5))) ∧ (¬ (mI S o2 3) < (nI 12) → (px 2 S)))))
set_option maxHeartbeats 4000000 in
set_option maxRecDepth 100000 in
theorem meX6_addContent (l : Launch) (hl9 : l.stackTraces = false) (G : GT) (S : Mem) (a0 : Nat) (post : Int32 → Mem → Prop) (px : Nat → Mem → Prop) (hw : wpX6_addContent S a0 post px) : CX emI l yX6_addContent (wsU yX6_addContent cX6_addContent 1 (some .int)) rmX6_addContent 1 6 G [.ref a0] S post px := by
  refine cx_open RX6 rfl (by decide +kernel) (Nat.le_of_ble_eq_true rfl) ?_
  intro p e s m args below meth c A X h hr hno ls hl
  have hl : lv_has ls 1 [(0, .ref a0)] := hl
  have hx := X.1
  have hb := X.2.1
  have hown := X.2.2.2.1
  unfold wpX6_addContent at hw
  refine lv_aload_n hx hb dX6_addContent_0 rfl (lv_at hl 0 rfl) ?_
  obtain ⟨k1, hw⟩ := hw
  obtain ⟨o2, eo2, hw⟩ := hw
  refine r_getR X h k1 0 eo2  (by decide) rfl inX6 (by decide) rfl q120 rfl dX6_addContent_1 ?_
  obtain ⟨k3, hw⟩ := hw
  refine r_getIN X h k3 3  (by decide) rfl inX0 (by decide) rfl q50 rfl dX6_addContent_4 ?_
  refine lv_bipush (v := (nI 12)) hx hb dX6_addContent_7 (by decide) ?_
  refine lv_icmp_lt (tgt := 22) hx hb dX6_addContent_9 (by decide) (fun c4 => ?_) (fun c4 => ?_)
  · have hw := hw.1 c4
    refine lv_aload_n hx hb dX6_addContent_22 rfl (lv_at hl 0 rfl) ?_
    refine r_getR X h k1 0 eo2  (by decide) rfl inX6 (by decide) rfl q120 rfl dX6_addContent_23 ?_
    refine rc_V (As := []) (rest := []) X h k3 (by decide) rfl (meX0_add l G _ _ _ hw) gV_X6_60 rfl rfl hdV_X0_add rfl ⟨Nat.le_of_ble_eq_true rfl, Nat.le_of_ble_eq_true rfl⟩ hl.1 rfl (Nat.le_of_ble_eq_true rfl) ⟨Nat.le_of_ble_eq_true rfl, Nat.le_of_ble_eq_true rfl⟩ dX6_addContent_26 (fun x6 S5 H locs hw h => ?_)
    exact vx_ret (en_i X h hr hw (Nat.le_of_ble_eq_true rfl) (Nat.le_of_ble_eq_true rfl) dX6_addContent_29)
  · have hw := hw.2 c4
    exact en_x 2 X h hl9 th_X6_55 hl.1 hno dX6_addContent_12 dX6_addContent_15 dX6_addContent_16 dX6_addContent_18 dX6_addContent_21 ⟨Nat.le_of_ble_eq_true rfl, Nat.le_of_ble_eq_true rfl⟩ ⟨Nat.le_of_ble_eq_true rfl, Nat.le_of_ble_eq_true rfl⟩ ⟨Nat.le_of_ble_eq_true rfl, Nat.le_of_ble_eq_true rfl⟩ hw
abbrev rmL_addContent : Room := { frames := 7, cells := 1, slots := 6, locals := 110 }
def wpL_addContent (S : Mem) (a0 : Nat) (post : Int32 → Mem → Prop) : Prop := isK S a0 6 ∧ (wpX6_addContent S a0 (fun x3 S1 => post x3 S1) (fun k4 S5 => (k4 = 2 → (post (-79 : Int32) S5)) ∧ (k4 = 2)))
set_option maxHeartbeats 4000000 in
set_option maxRecDepth 100000 in
theorem meL_addContent (l : Launch) (hl9 : l.stackTraces = false) (G : GT) (S : Mem) (a0 : Nat) (post : Int32 → Mem → Prop) (hw : wpL_addContent S a0 post) : CN emI l yL_addContent (wsH yL_addContent cL_addContent 2 (some .int) [(0, 4, 5, 20)]) rmL_addContent 1 6 G [.ref a0] S post := by
  refine ch_open RL rfl (by decide +kernel) (Nat.le_of_ble_eq_true rfl) ?_
  intro p e s m args below meth c A X h hr hTab ls hl
  have hl : lv_has ls 2 [(0, .ref a0)] := hl
  have hx := X.1
  have hb := X.2.1
  have hown := X.2.2.2.1
  unfold wpL_addContent at hw
  refine lv_aload_n hx hb dL_addContent_0 rfl (lv_at hl 0 rfl) ?_
  obtain ⟨k2, hw⟩ := hw
  refine rx_VH (As := []) (rest := []) X h k2 (by decide) rfl (meX6_addContent l hl9 G _ _ _ _ hw) gV_L_14 rfl rfl hdV_X6_addContent rfl ⟨Nat.le_of_ble_eq_true rfl, Nat.le_of_ble_eq_true rfl⟩ hl.1 rfl (Nat.le_of_ble_eq_true rfl) ⟨Nat.le_of_ble_eq_true rfl, Nat.le_of_ble_eq_true rfl⟩ dL_addContent_1 (fun k4 S5 H locs q9 ce hw h hce hcv hcl => ?_) (fun x3 S1 H locs hw h => ?_)
  · rcases hw.2 with hk9
    · subst hk9
      have hw := hw.1 rfl
      refine vx_catch (own := RL) (name := "java/lang/IllegalStateException") (E := xn 2) hown [] ⟨0, 4, 5, 20⟩ [] (by rw [hTab]; rfl) (fun z hz => nomatch hz) (by decide) (by decide) (X.hts q179) (va_Nw.use (by rfl) (X.nw q186)) hce hcv hcl ?_
      refine lv_astore_n (lv' := [(1, .ref q9), (0, .ref a0)]) hx hb dL_addContent_5 rfl hl (by decide) rfl (fun ls hl => ?_)
      refine lv_bipush (v := (-79 : Int32)) hx hb dL_addContent_6 (by decide) ?_
      exact (en_i X h hr hw (Nat.le_of_ble_eq_true rfl) (Nat.le_of_ble_eq_true rfl) dL_addContent_8)
  · exact (en_i X h hr hw (Nat.le_of_ble_eq_true rfl) (Nat.le_of_ble_eq_true rfl) dL_addContent_4)
abbrev rmX1_init : Room := { frames := 1, cells := 2, slots := 24, locals := 20 }
def wpX1_init (S : Mem) (a0 : Nat) (p1 : Int32) (post : Unit → Mem → Prop) : Prop := isK S a0 1 ∧ (vz_chr p1 ∧ (∀ S3 : Mem, S3 = (sI S a0 0 p1) → (∀ o4 : Nat, o4 ∉ mL S3 → (∀ S5 : Mem, S5 = (nA S3 o4 8 16) → (∀ S6 : Mem, S6 = (sR S5 a0 1 (some o4)) → (∀ o7 : Nat, o7 ∉ mL S6 → (∀ S8 : Mem, S8 = (nA S6 o7 8 8) → (∀ S9 : Mem, S9 = (sR S8 a0 2 (some o7)) → (post () S9)))))))))
set_option maxHeartbeats 4000000 in
set_option maxRecDepth 100000 in
theorem meX1_init (l : Launch) (G : GT) (S : Mem) (a0 : Nat) (p1 : Int32) (post : Unit → Mem → Prop) (hw : wpX1_init S a0 p1 post) : CN emV l yX1_init (wsU yX1_init cX1_init 2 none) rmX1_init 2 24 G [.ref a0, .int p1] S post := by
  refine cn_open RX1 rfl (by decide +kernel) (Nat.le_of_ble_eq_true rfl) ?_
  intro p e s m args below meth c A X h hr hin ls hl
  have hl : lv_has ls 2 [(0, .ref a0), (1, .int p1)] := hl
  have hx := X.1
  have hb := X.2.1
  have hown := X.2.2.2.1
  unfold wpX1_init at hw
  refine lv_aload_n hx hb dX1_init_0 rfl (lv_at hl 0 rfl) ?_
  refine r_obj X hl.1 q413 q38 q39 ⟨Nat.le_of_ble_eq_true rfl, Nat.le_of_ble_eq_true rfl⟩ ⟨Nat.le_of_ble_eq_true rfl, Nat.le_of_ble_eq_true rfl⟩ dX1_init_1 ?_
  refine lv_aload_n hx hb dX1_init_4 rfl (lv_at hl 0 rfl) ?_
  refine lv_iload_n hx hb dX1_init_5 rfl (lv_at hl 1 rfl) ?_
  obtain ⟨k1, hw⟩ := hw
  obtain ⟨b2, hw⟩ := hw
  refine r_putIF X h k1 0 (by decide) rfl inX1 tyX1 tyX1_ok nmX1 (by decide) rfl (Nat.le_of_ble_eq_true rfl) q414 rfl rfl hin rfl (tyX1_ok 0 (by decide)) b2.1 b2.2 dX1_init_6 (fun H locs h => ?_)
  obtain ⟨S3, eS3⟩ : ∃ z : Mem, z = (sI S a0 0 p1) := ⟨_, rfl⟩
  rw [← eS3] at h
  have hw := hw S3 eS3
  refine lv_aload_n hx hb dX1_init_9 rfl (lv_at hl 0 rfl) ?_
  refine lv_bipush (v := (nI 16)) hx hb dX1_init_10 (by decide) ?_
  refine r_newI X h 16 q64 (by decide) ⟨Nat.le_of_ble_eq_true rfl, Nat.le_of_ble_eq_true rfl⟩ dX1_init_12 (fun o4 H ho4 h => ?_)
  have hw := hw o4 ho4
  obtain ⟨S5, eS5⟩ : ∃ z : Mem, z = (nA S3 o4 8 16) := ⟨_, rfl⟩
  rw [← eS5] at h
  have hw := hw S5 eS5
  refine r_putRF X h (kE eS5 (nA_keep (kI eS3 k1) ho4)) 1 (by decide) rfl inX1 tyX1 tyX1_ok nmX1 (by decide) rfl (Nat.le_of_ble_eq_true rfl) q416 rfl rfl hin rfl (tyX1_ok 1 (by decide)) rfl rfl dX1_init_14 (fun H locs h => ?_)
  obtain ⟨S6, eS6⟩ : ∃ z : Mem, z = (sR S5 a0 1 (some o4)) := ⟨_, rfl⟩
  rw [← eS6] at h
  have hw := hw S6 eS6
  refine lv_aload_n hx hb dX1_init_17 rfl (lv_at hl 0 rfl) ?_
  refine lv_bipush (v := (nI 8)) hx hb dX1_init_18 (by decide) ?_
  refine r_newI X h 8 q64 (by decide) ⟨Nat.le_of_ble_eq_true rfl, Nat.le_of_ble_eq_true rfl⟩ dX1_init_20 (fun o7 H ho7 h => ?_)
  have hw := hw o7 ho7
  obtain ⟨S8, eS8⟩ : ∃ z : Mem, z = (nA S6 o7 8 8) := ⟨_, rfl⟩
  rw [← eS8] at h
  have hw := hw S8 eS8
  refine r_putRF X h (kE eS8 (nA_keep (kR eS6 (kE eS5 (nA_keep (kI eS3 k1) ho4))) ho7)) 2 (by decide) rfl inX1 tyX1 tyX1_ok nmX1 (by decide) rfl (Nat.le_of_ble_eq_true rfl) q417 rfl rfl hin rfl (tyX1_ok 2 (by decide)) rfl rfl dX1_init_22 (fun H locs h => ?_)
  obtain ⟨S9, eS9⟩ : ∃ z : Mem, z = (sR S8 a0 2 (some o7)) := ⟨_, rfl⟩
  rw [← eS9] at h
  have hw := hw S9 eS9
  exact (en_v X h hr hw (Nat.le_of_ble_eq_true rfl) (Nat.le_of_ble_eq_true rfl) dX1_init_25)
abbrev rmX6_addJob : Room := { frames := 6, cells := 3, slots := 28, locals := 90 }
def wpX6_addJob (S : Mem) (a0 : Nat) (p1 : Int32) (post : Int32 → Mem → Prop) (px : Nat → Mem → Prop) : Prop := (p1 = (nI 115) → (isK S a0 6 ∧ (((mI S a0 6) < 0 → (px 2 S)) ∧ (¬ (mI S a0 6) < 0 → (∃ o4, mR S a0 1 = some o4 ∧ (isK S o4 10 ∧ (((mI S a0 6) < (nI (mN S o4)) → (∀ o7 : Nat, o7 ∉ mL S → (∀ S8 : Mem, S8 = (nA S o7 1 0) → (wpX1_init S8 o7 p1 (fun u10 S9 => isK S9 o4 10 ∧ (isK S9 o7 1 ∧ (vp_in (mI S a0 6) (mN S9 o4) ∧ (∀ S14 : Mem, S14 = (sR S9 o4 (mI S a0 6).toNatClampNeg (some o7)) → (isK S14 a0 6 ∧ (∀ x16 : Int32, x16 = ((mI S14 a0 6) + (nI 1)) → (∀ S17 : Mem, S17 = (sI S14 a0 6 x16) → (post ((mI S17 a0 6) - (nI 1)) S17)))))))))))) ∧ (¬ (mI S a0 6) < (nI (mN S o4)) → (px 2 S))))))))) ∧ (¬ p1 = (nI 115) → ((p1 = (nI 112) → (isK S a0 6 ∧ (((mI S a0 6) < 0 → (px 2 S)) ∧ (¬ (mI S a0 6) < 0 → (∃ o21, mR S a0 1 = some o21 ∧ (isK S o21 10 ∧ (((mI S a0 6) < (nI (mN S o21)) → (∀ o24 : Nat, o24 ∉ mL S → (∀ S25 : Mem, S25 = (nA S o24 1 0) → (wpX1_init S25 o24 p1 (fun u27 S26 => isK S26 o21 10 ∧ (isK S26 o24 1 ∧ (vp_in (mI S a0 6) (mN S26 o21) ∧ (∀ S31 : Mem, S31 = (sR S26 o21 (mI S a0 6).toNatClampNeg (some o24)) → (isK S31 a0 6 ∧ (∀ x33 : Int32, x33 = ((mI S31 a0 6) + (nI 1)) → (∀ S34 : Mem, S34 = (sI S31 a0 6 x33) → (post ((mI S34 a0 6) - (nI 1)) S34)))))))))))) ∧ (¬ (mI S a0 6) < (nI (mN S o21)) → (px 2 S))))))))) ∧ (¬ p1 = (nI 112) → ((p1 = (nI 119) → (isK S a0 6 ∧ (((mI S a0 6) < 0 → (px 2 S)) ∧ (¬ (mI S a0 6) < 0 → (∃ o38, mR S a0 1 = some o38 ∧ (isK S o38 10 ∧ (((mI S a0 6) < (nI (mN S o38)) → (∀ o41 : Nat, o41 ∉ mL S → (∀ S42 : Mem, S42 = (nA S o41 1 0) → (wpX1_init S42 o41 p1 (fun u44 S43 => isK S43 o38 10 ∧ (isK S43 o41 1 ∧ (vp_in (mI S a0 6) (mN S43 o38) ∧ (∀ S48 : Mem, S48 = (sR S43 o38 (mI S a0 6).toNatClampNeg (some o41)) → (isK S48 a0 6 ∧ (∀ x50 : Int32, x50 = ((mI S48 a0 6) + (nI 1)) → (∀ S51 : Mem, S51 = (sI S48 a0 6 x50) → (post ((mI S51 a0 6) - (nI 1)) S51)))))))))))) ∧ (¬ (mI S a0 6) < (nI (mN S o38)) → (px 2 S))))))))) ∧ (¬ p1 = (nI 119) → (px 4 S))))))
set_option maxHeartbeats 4000000 in
set_option maxRecDepth 100000 in
theorem meX6_addJob (l : Launch) (hl9 : l.stackTraces = false) (G : GT) (S : Mem) (a0 : Nat) (p1 : Int32) (post : Int32 → Mem → Prop) (px : Nat → Mem → Prop) (hw : wpX6_addJob S a0 p1 post px) : CX emI l yX6_addJob (wsU yX6_addJob cX6_addJob 2 (some .int)) rmX6_addJob 3 28 G [.ref a0, .int p1] S post px := by
  refine cx_open RX6 rfl (by decide +kernel) (Nat.le_of_ble_eq_true rfl) ?_
  intro p e s m args below meth c A X h hr hno ls hl
  have hl : lv_has ls 2 [(0, .ref a0), (1, .int p1)] := hl
  have hx := X.1
  have hb := X.2.1
  have hown := X.2.2.2.1
  unfold wpX6_addJob at hw
  refine lv_iload_n hx hb dX6_addJob_0 rfl (lv_at hl 1 rfl) ?_
  refine lv_bipush (v := (nI 115)) hx hb dX6_addJob_1 (by decide) ?_
  refine lv_icmp_eq (tgt := 28) hx hb dX6_addJob_3 (by decide) (fun c1 => ?_) (fun c1 => ?_)
  · have hw := hw.1 c1
    refine lv_aload_n hx hb dX6_addJob_28 rfl (lv_at hl 0 rfl) ?_
    obtain ⟨k2, hw⟩ := hw
    refine r_getI X h k2 6  (by decide) rfl inX6 (by decide) rfl q126 rfl dX6_addJob_29 ?_
    refine lv_if_lt (tgt := 47) hx hb dX6_addJob_32 (by decide) (fun c3 => ?_) (fun c3 => ?_)
    · have hw := hw.1 c3
      exact en_x 2 X h hl9 th_X6_104 hl.1 hno dX6_addJob_47 dX6_addJob_50 dX6_addJob_51 dX6_addJob_53 dX6_addJob_56 ⟨Nat.le_of_ble_eq_true rfl, Nat.le_of_ble_eq_true rfl⟩ ⟨Nat.le_of_ble_eq_true rfl, Nat.le_of_ble_eq_true rfl⟩ ⟨Nat.le_of_ble_eq_true rfl, Nat.le_of_ble_eq_true rfl⟩ hw
    · have hw := hw.2 c3
      refine lv_aload_n hx hb dX6_addJob_35 rfl (lv_at hl 0 rfl) ?_
      refine r_getI X h k2 6  (by decide) rfl inX6 (by decide) rfl q126 rfl dX6_addJob_36 ?_
      refine lv_aload_n hx hb dX6_addJob_39 rfl (lv_at hl 0 rfl) ?_
      obtain ⟨o4, eo4, hw⟩ := hw
      refine r_getR X h k2 1 eo4  (by decide) rfl inX6 (by decide) rfl q121 rfl dX6_addJob_40 ?_
      obtain ⟨k5, hw⟩ := hw
      refine r_alen X h k5 (by decide) dX6_addJob_43 ?_
      refine lv_icmp_lt (tgt := 57) hx hb dX6_addJob_44 (by decide) (fun c6 => ?_) (fun c6 => ?_)
      · have hw := hw.1 c6
        refine lv_aload_n hx hb dX6_addJob_57 rfl (lv_at hl 0 rfl) ?_
        refine r_getR X h k2 1 eo4  (by decide) rfl inX6 (by decide) rfl q121 rfl dX6_addJob_58 ?_
        refine lv_aload_n hx hb dX6_addJob_61 rfl (lv_at hl 0 rfl) ?_
        refine r_getI X h k2 6  (by decide) rfl inX6 (by decide) rfl q126 rfl dX6_addJob_62 ?_
        refine r_new X h 1 (by decide) rfl inX1 tyX1 tyX1_ok q65 q409 q24 (by decide +kernel) ⟨Nat.le_of_ble_eq_true rfl, Nat.le_of_ble_eq_true rfl⟩ dX6_addJob_65 (fun o7 H ho7 h => ?_)
        have hw := hw o7 ho7
        obtain ⟨S8, eS8⟩ : ∃ z : Mem, z = (nA S o7 1 0) := ⟨_, rfl⟩
        rw [← eS8] at h
        have hw := hw S8 eS8
        refine lv_dup hx hb dX6_addJob_68 rfl ?_
        refine lv_iload_n hx hb dX6_addJob_69 rfl (lv_at hl 1 rfl) ?_
        refine rc_I (As := [.int p1]) (rest := [.ref o7, .int (mI S a0 6), .ref o4]) X h (meX1_init l G _ _ _ _ hw) gU_X6_106 q24 q410 q411 rfl rfl rfl hdS_X1_init rfl ⟨Nat.le_of_ble_eq_true rfl, Nat.le_of_ble_eq_true rfl⟩ hl.1 rfl (Nat.le_of_ble_eq_true rfl) ⟨Nat.le_of_ble_eq_true rfl, Nat.le_of_ble_eq_true rfl⟩ dX6_addJob_70 (fun u10 S9 H locs hw h => ?_)
        obtain ⟨k11, hw⟩ := hw
        obtain ⟨k12, hw⟩ := hw
        obtain ⟨v13, hw⟩ := hw
        refine r_astJob X h k11 k12 v13 dX6_addJob_73 (fun H locs h => ?_)
        obtain ⟨S14, eS14⟩ : ∃ z : Mem, z = (sR S9 o4 (mI S a0 6).toNatClampNeg (some o7)) := ⟨_, rfl⟩
        rw [← eS14] at h
        have hw := hw S14 eS14
        refine lv_aload_n hx hb dX6_addJob_74 rfl (lv_at hl 0 rfl) ?_
        refine lv_dup hx hb dX6_addJob_75 rfl ?_
        obtain ⟨k15, hw⟩ := hw
        refine r_getI X h k15 6  (by decide) rfl inX6 (by decide) rfl q126 rfl dX6_addJob_76 ?_
        refine lv_iconst (v := (nI 1)) hx hb dX6_addJob_79 (by decide) ?_
        refine lv_iadd hx hb dX6_addJob_80 ?_
        refine lv_topi (fun x16 ex16 => ?_)
        have hw := hw x16 ex16
        refine r_putI X h k15 6 (by decide) rfl inX6 tyX6 tyX6_ok nmX6 (by decide) rfl (Nat.le_of_ble_eq_true rfl) q126 rfl rfl (tyX6_ok 6 (by decide)) rfl rfl dX6_addJob_81 (fun H locs h => ?_)
        obtain ⟨S17, eS17⟩ : ∃ z : Mem, z = (sI S14 a0 6 x16) := ⟨_, rfl⟩
        rw [← eS17] at h
        have hw := hw S17 eS17
        refine lv_aload_n hx hb dX6_addJob_84 rfl (lv_at hl 0 rfl) ?_
        refine r_getI X h (kI eS17 k15) 6  (by decide) rfl inX6 (by decide) rfl q126 rfl dX6_addJob_85 ?_
        refine lv_iconst (v := (nI 1)) hx hb dX6_addJob_88 (by decide) ?_
        refine lv_isub hx hb dX6_addJob_89 ?_
        exact vx_ret (en_i X h hr hw (Nat.le_of_ble_eq_true rfl) (Nat.le_of_ble_eq_true rfl) dX6_addJob_90)
      · have hw := hw.2 c6
        exact en_x 2 X h hl9 th_X6_104 hl.1 hno dX6_addJob_47 dX6_addJob_50 dX6_addJob_51 dX6_addJob_53 dX6_addJob_56 ⟨Nat.le_of_ble_eq_true rfl, Nat.le_of_ble_eq_true rfl⟩ ⟨Nat.le_of_ble_eq_true rfl, Nat.le_of_ble_eq_true rfl⟩ ⟨Nat.le_of_ble_eq_true rfl, Nat.le_of_ble_eq_true rfl⟩ hw
  · have hw := hw.2 c1
    refine lv_iload_n hx hb dX6_addJob_6 rfl (lv_at hl 1 rfl) ?_
    refine lv_bipush (v := (nI 112)) hx hb dX6_addJob_7 (by decide) ?_
    refine lv_icmp_eq (tgt := 28) hx hb dX6_addJob_9 (by decide) (fun c18 => ?_) (fun c18 => ?_)
    · have hw := hw.1 c18
      refine lv_aload_n hx hb dX6_addJob_28 rfl (lv_at hl 0 rfl) ?_
      obtain ⟨k19, hw⟩ := hw
      refine r_getI X h k19 6  (by decide) rfl inX6 (by decide) rfl q126 rfl dX6_addJob_29 ?_
      refine lv_if_lt (tgt := 47) hx hb dX6_addJob_32 (by decide) (fun c20 => ?_) (fun c20 => ?_)
      · have hw := hw.1 c20
        exact en_x 2 X h hl9 th_X6_104 hl.1 hno dX6_addJob_47 dX6_addJob_50 dX6_addJob_51 dX6_addJob_53 dX6_addJob_56 ⟨Nat.le_of_ble_eq_true rfl, Nat.le_of_ble_eq_true rfl⟩ ⟨Nat.le_of_ble_eq_true rfl, Nat.le_of_ble_eq_true rfl⟩ ⟨Nat.le_of_ble_eq_true rfl, Nat.le_of_ble_eq_true rfl⟩ hw
      · have hw := hw.2 c20
        refine lv_aload_n hx hb dX6_addJob_35 rfl (lv_at hl 0 rfl) ?_
        refine r_getI X h k19 6  (by decide) rfl inX6 (by decide) rfl q126 rfl dX6_addJob_36 ?_
        refine lv_aload_n hx hb dX6_addJob_39 rfl (lv_at hl 0 rfl) ?_
        obtain ⟨o21, eo21, hw⟩ := hw
        refine r_getR X h k19 1 eo21  (by decide) rfl inX6 (by decide) rfl q121 rfl dX6_addJob_40 ?_
        obtain ⟨k22, hw⟩ := hw
        refine r_alen X h k22 (by decide) dX6_addJob_43 ?_
        refine lv_icmp_lt (tgt := 57) hx hb dX6_addJob_44 (by decide) (fun c23 => ?_) (fun c23 => ?_)
        · have hw := hw.1 c23
          refine lv_aload_n hx hb dX6_addJob_57 rfl (lv_at hl 0 rfl) ?_
          refine r_getR X h k19 1 eo21  (by decide) rfl inX6 (by decide) rfl q121 rfl dX6_addJob_58 ?_
          refine lv_aload_n hx hb dX6_addJob_61 rfl (lv_at hl 0 rfl) ?_
          refine r_getI X h k19 6  (by decide) rfl inX6 (by decide) rfl q126 rfl dX6_addJob_62 ?_
          refine r_new X h 1 (by decide) rfl inX1 tyX1 tyX1_ok q65 q409 q24 (by decide +kernel) ⟨Nat.le_of_ble_eq_true rfl, Nat.le_of_ble_eq_true rfl⟩ dX6_addJob_65 (fun o24 H ho24 h => ?_)
          have hw := hw o24 ho24
          obtain ⟨S25, eS25⟩ : ∃ z : Mem, z = (nA S o24 1 0) := ⟨_, rfl⟩
          rw [← eS25] at h
          have hw := hw S25 eS25
          refine lv_dup hx hb dX6_addJob_68 rfl ?_
          refine lv_iload_n hx hb dX6_addJob_69 rfl (lv_at hl 1 rfl) ?_
          refine rc_I (As := [.int p1]) (rest := [.ref o24, .int (mI S a0 6), .ref o21]) X h (meX1_init l G _ _ _ _ hw) gU_X6_106 q24 q410 q411 rfl rfl rfl hdS_X1_init rfl ⟨Nat.le_of_ble_eq_true rfl, Nat.le_of_ble_eq_true rfl⟩ hl.1 rfl (Nat.le_of_ble_eq_true rfl) ⟨Nat.le_of_ble_eq_true rfl, Nat.le_of_ble_eq_true rfl⟩ dX6_addJob_70 (fun u27 S26 H locs hw h => ?_)
          obtain ⟨k28, hw⟩ := hw
          obtain ⟨k29, hw⟩ := hw
          obtain ⟨v30, hw⟩ := hw
          refine r_astJob X h k28 k29 v30 dX6_addJob_73 (fun H locs h => ?_)
          obtain ⟨S31, eS31⟩ : ∃ z : Mem, z = (sR S26 o21 (mI S a0 6).toNatClampNeg (some o24)) := ⟨_, rfl⟩
          rw [← eS31] at h
          have hw := hw S31 eS31
          refine lv_aload_n hx hb dX6_addJob_74 rfl (lv_at hl 0 rfl) ?_
          refine lv_dup hx hb dX6_addJob_75 rfl ?_
          obtain ⟨k32, hw⟩ := hw
          refine r_getI X h k32 6  (by decide) rfl inX6 (by decide) rfl q126 rfl dX6_addJob_76 ?_
          refine lv_iconst (v := (nI 1)) hx hb dX6_addJob_79 (by decide) ?_
          refine lv_iadd hx hb dX6_addJob_80 ?_
          refine lv_topi (fun x33 ex33 => ?_)
          have hw := hw x33 ex33
          refine r_putI X h k32 6 (by decide) rfl inX6 tyX6 tyX6_ok nmX6 (by decide) rfl (Nat.le_of_ble_eq_true rfl) q126 rfl rfl (tyX6_ok 6 (by decide)) rfl rfl dX6_addJob_81 (fun H locs h => ?_)
          obtain ⟨S34, eS34⟩ : ∃ z : Mem, z = (sI S31 a0 6 x33) := ⟨_, rfl⟩
          rw [← eS34] at h
          have hw := hw S34 eS34
          refine lv_aload_n hx hb dX6_addJob_84 rfl (lv_at hl 0 rfl) ?_
          refine r_getI X h (kI eS34 k32) 6  (by decide) rfl inX6 (by decide) rfl q126 rfl dX6_addJob_85 ?_
          refine lv_iconst (v := (nI 1)) hx hb dX6_addJob_88 (by decide) ?_
          refine lv_isub hx hb dX6_addJob_89 ?_
          exact vx_ret (en_i X h hr hw (Nat.le_of_ble_eq_true rfl) (Nat.le_of_ble_eq_true rfl) dX6_addJob_90)
        · have hw := hw.2 c23
          exact en_x 2 X h hl9 th_X6_104 hl.1 hno dX6_addJob_47 dX6_addJob_50 dX6_addJob_51 dX6_addJob_53 dX6_addJob_56 ⟨Nat.le_of_ble_eq_true rfl, Nat.le_of_ble_eq_true rfl⟩ ⟨Nat.le_of_ble_eq_true rfl, Nat.le_of_ble_eq_true rfl⟩ ⟨Nat.le_of_ble_eq_true rfl, Nat.le_of_ble_eq_true rfl⟩ hw
    · have hw := hw.2 c18
      refine lv_iload_n hx hb dX6_addJob_12 rfl (lv_at hl 1 rfl) ?_
      refine lv_bipush (v := (nI 119)) hx hb dX6_addJob_13 (by decide) ?_
      refine lv_icmp_eq (tgt := 28) hx hb dX6_addJob_15 (by decide) (fun c35 => ?_) (fun c35 => ?_)
      · have hw := hw.1 c35
        refine lv_aload_n hx hb dX6_addJob_28 rfl (lv_at hl 0 rfl) ?_
        obtain ⟨k36, hw⟩ := hw
        refine r_getI X h k36 6  (by decide) rfl inX6 (by decide) rfl q126 rfl dX6_addJob_29 ?_
        refine lv_if_lt (tgt := 47) hx hb dX6_addJob_32 (by decide) (fun c37 => ?_) (fun c37 => ?_)
        · have hw := hw.1 c37
          exact en_x 2 X h hl9 th_X6_104 hl.1 hno dX6_addJob_47 dX6_addJob_50 dX6_addJob_51 dX6_addJob_53 dX6_addJob_56 ⟨Nat.le_of_ble_eq_true rfl, Nat.le_of_ble_eq_true rfl⟩ ⟨Nat.le_of_ble_eq_true rfl, Nat.le_of_ble_eq_true rfl⟩ ⟨Nat.le_of_ble_eq_true rfl, Nat.le_of_ble_eq_true rfl⟩ hw
        · have hw := hw.2 c37
          refine lv_aload_n hx hb dX6_addJob_35 rfl (lv_at hl 0 rfl) ?_
          refine r_getI X h k36 6  (by decide) rfl inX6 (by decide) rfl q126 rfl dX6_addJob_36 ?_
          refine lv_aload_n hx hb dX6_addJob_39 rfl (lv_at hl 0 rfl) ?_
          obtain ⟨o38, eo38, hw⟩ := hw
          refine r_getR X h k36 1 eo38  (by decide) rfl inX6 (by decide) rfl q121 rfl dX6_addJob_40 ?_
          obtain ⟨k39, hw⟩ := hw
          refine r_alen X h k39 (by decide) dX6_addJob_43 ?_
          refine lv_icmp_lt (tgt := 57) hx hb dX6_addJob_44 (by decide) (fun c40 => ?_) (fun c40 => ?_)
          · have hw := hw.1 c40
            refine lv_aload_n hx hb dX6_addJob_57 rfl (lv_at hl 0 rfl) ?_
            refine r_getR X h k36 1 eo38  (by decide) rfl inX6 (by decide) rfl q121 rfl dX6_addJob_58 ?_
            refine lv_aload_n hx hb dX6_addJob_61 rfl (lv_at hl 0 rfl) ?_
            refine r_getI X h k36 6  (by decide) rfl inX6 (by decide) rfl q126 rfl dX6_addJob_62 ?_
            refine r_new X h 1 (by decide) rfl inX1 tyX1 tyX1_ok q65 q409 q24 (by decide +kernel) ⟨Nat.le_of_ble_eq_true rfl, Nat.le_of_ble_eq_true rfl⟩ dX6_addJob_65 (fun o41 H ho41 h => ?_)
            have hw := hw o41 ho41
            obtain ⟨S42, eS42⟩ : ∃ z : Mem, z = (nA S o41 1 0) := ⟨_, rfl⟩
            rw [← eS42] at h
            have hw := hw S42 eS42
            refine lv_dup hx hb dX6_addJob_68 rfl ?_
            refine lv_iload_n hx hb dX6_addJob_69 rfl (lv_at hl 1 rfl) ?_
            refine rc_I (As := [.int p1]) (rest := [.ref o41, .int (mI S a0 6), .ref o38]) X h (meX1_init l G _ _ _ _ hw) gU_X6_106 q24 q410 q411 rfl rfl rfl hdS_X1_init rfl ⟨Nat.le_of_ble_eq_true rfl, Nat.le_of_ble_eq_true rfl⟩ hl.1 rfl (Nat.le_of_ble_eq_true rfl) ⟨Nat.le_of_ble_eq_true rfl, Nat.le_of_ble_eq_true rfl⟩ dX6_addJob_70 (fun u44 S43 H locs hw h => ?_)
            obtain ⟨k45, hw⟩ := hw
            obtain ⟨k46, hw⟩ := hw
            obtain ⟨v47, hw⟩ := hw
            refine r_astJob X h k45 k46 v47 dX6_addJob_73 (fun H locs h => ?_)
            obtain ⟨S48, eS48⟩ : ∃ z : Mem, z = (sR S43 o38 (mI S a0 6).toNatClampNeg (some o41)) := ⟨_, rfl⟩
            rw [← eS48] at h
            have hw := hw S48 eS48
            refine lv_aload_n hx hb dX6_addJob_74 rfl (lv_at hl 0 rfl) ?_
            refine lv_dup hx hb dX6_addJob_75 rfl ?_
            obtain ⟨k49, hw⟩ := hw
            refine r_getI X h k49 6  (by decide) rfl inX6 (by decide) rfl q126 rfl dX6_addJob_76 ?_
            refine lv_iconst (v := (nI 1)) hx hb dX6_addJob_79 (by decide) ?_
            refine lv_iadd hx hb dX6_addJob_80 ?_
            refine lv_topi (fun x50 ex50 => ?_)
            have hw := hw x50 ex50
            refine r_putI X h k49 6 (by decide) rfl inX6 tyX6 tyX6_ok nmX6 (by decide) rfl (Nat.le_of_ble_eq_true rfl) q126 rfl rfl (tyX6_ok 6 (by decide)) rfl rfl dX6_addJob_81 (fun H locs h => ?_)
            obtain ⟨S51, eS51⟩ : ∃ z : Mem, z = (sI S48 a0 6 x50) := ⟨_, rfl⟩
            rw [← eS51] at h
            have hw := hw S51 eS51
            refine lv_aload_n hx hb dX6_addJob_84 rfl (lv_at hl 0 rfl) ?_
            refine r_getI X h (kI eS51 k49) 6  (by decide) rfl inX6 (by decide) rfl q126 rfl dX6_addJob_85 ?_
            refine lv_iconst (v := (nI 1)) hx hb dX6_addJob_88 (by decide) ?_
            refine lv_isub hx hb dX6_addJob_89 ?_
            exact vx_ret (en_i X h hr hw (Nat.le_of_ble_eq_true rfl) (Nat.le_of_ble_eq_true rfl) dX6_addJob_90)
          · have hw := hw.2 c40
            exact en_x 2 X h hl9 th_X6_104 hl.1 hno dX6_addJob_47 dX6_addJob_50 dX6_addJob_51 dX6_addJob_53 dX6_addJob_56 ⟨Nat.le_of_ble_eq_true rfl, Nat.le_of_ble_eq_true rfl⟩ ⟨Nat.le_of_ble_eq_true rfl, Nat.le_of_ble_eq_true rfl⟩ ⟨Nat.le_of_ble_eq_true rfl, Nat.le_of_ble_eq_true rfl⟩ hw
      · have hw := hw.2 c35
        exact en_x 4 X h hl9 th_X6_98 hl.1 hno dX6_addJob_18 dX6_addJob_21 dX6_addJob_22 dX6_addJob_24 dX6_addJob_27 ⟨Nat.le_of_ble_eq_true rfl, Nat.le_of_ble_eq_true rfl⟩ ⟨Nat.le_of_ble_eq_true rfl, Nat.le_of_ble_eq_true rfl⟩ ⟨Nat.le_of_ble_eq_true rfl, Nat.le_of_ble_eq_true rfl⟩ hw
abbrev rmL_addJob : Room := { frames := 7, cells := 3, slots := 28, locals := 111 }
def wpL_addJob (S : Mem) (a0 : Nat) (p1 : Int32) (post : Int32 → Mem → Prop) : Prop := isK S a0 6 ∧ (wpX6_addJob S a0 p1 (fun x3 S1 => post x3 S1) (fun k4 S5 => (k4 = 2 → (post (-79 : Int32) S5)) ∧ (k4 = 4 → (post (-78 : Int32) S5)) ∧ (k4 = 2 ∨ k4 = 4)))
set_option maxHeartbeats 4000000 in
set_option maxRecDepth 100000 in
theorem meL_addJob (l : Launch) (hl9 : l.stackTraces = false) (G : GT) (S : Mem) (a0 : Nat) (p1 : Int32) (post : Int32 → Mem → Prop) (hw : wpL_addJob S a0 p1 post) : CN emI l yL_addJob (wsH yL_addJob cL_addJob 3 (some .int) [(0, 5, 6, 39), (0, 5, 10, 20)]) rmL_addJob 3 28 G [.ref a0, .int p1] S post := by
  refine ch_open RL rfl (by decide +kernel) (Nat.le_of_ble_eq_true rfl) ?_
  intro p e s m args below meth c A X h hr hTab ls hl
  have hl : lv_has ls 3 [(0, .ref a0), (1, .int p1)] := hl
  have hx := X.1
  have hb := X.2.1
  have hown := X.2.2.2.1
  unfold wpL_addJob at hw
  refine lv_aload_n hx hb dL_addJob_0 rfl (lv_at hl 0 rfl) ?_
  refine lv_iload_n hx hb dL_addJob_1 rfl (lv_at hl 1 rfl) ?_
  obtain ⟨k2, hw⟩ := hw
  refine rx_VH (As := [.int p1]) (rest := []) X h k2 (by decide) rfl (meX6_addJob l hl9 G _ _ _ _ _ hw) gV_L_35 rfl rfl hdV_X6_addJob rfl ⟨Nat.le_of_ble_eq_true rfl, Nat.le_of_ble_eq_true rfl⟩ hl.1 rfl (Nat.le_of_ble_eq_true rfl) ⟨Nat.le_of_ble_eq_true rfl, Nat.le_of_ble_eq_true rfl⟩ dL_addJob_2 (fun k4 S5 H locs q9 ce hw h hce hcv hcl => ?_) (fun x3 S1 H locs hw h => ?_)
  · rcases hw.2.2 with hk9 | hk9
    · subst hk9
      have hw := hw.1 rfl
      have hpass2 : ∀ z ∈ ([⟨0, 5, 6, 39⟩] : List ExceptionTableEntry), covers z 2 = false ∨ (z.catchType ≠ 0 ∧ ∃ nm : String, (Cond.classLink RL z.catchType nm).before args s = true ∧ va_Nc (xn 2) nm s) := by
        intro z hz
        rcases List.mem_cons.mp hz with rfl | hz
        · exact Or.inr ⟨by decide, "java/lang/IllegalArgumentException", X.hts q387, X.2.2.2.2.2.2.1.2.2.2.2.1 ("java/lang/IllegalStateException", "java/lang/IllegalArgumentException") (by decide +kernel)⟩
        cases hz
      refine vx_catch (own := RL) (name := "java/lang/IllegalStateException") (E := xn 2) hown [⟨0, 5, 6, 39⟩] ⟨0, 5, 10, 20⟩ [] (by rw [hTab]; rfl) (hpass2) (by decide) (by decide) (X.hts q179) (va_Nw.use (by rfl) (X.nw q186)) hce hcv hcl ?_
      refine lv_astore_n (lv' := [(2, .ref q9), (0, .ref a0), (1, .int p1)]) hx hb dL_addJob_10 rfl hl (by decide) rfl (fun ls hl => ?_)
      refine lv_bipush (v := (-79 : Int32)) hx hb dL_addJob_11 (by decide) ?_
      exact (en_i X h hr hw (Nat.le_of_ble_eq_true rfl) (Nat.le_of_ble_eq_true rfl) dL_addJob_13)
    · subst hk9
      have hw := hw.2.1 rfl
      refine vx_catch (own := RL) (name := "java/lang/IllegalArgumentException") (E := xn 4) hown [] ⟨0, 5, 6, 39⟩ [⟨0, 5, 10, 20⟩] (by rw [hTab]; rfl) (fun z hz => nomatch hz) (by decide) (by decide) (X.hts q387) (va_Nw.use (by rfl) (X.nw q394)) hce hcv hcl ?_
      refine lv_astore_n (lv' := [(2, .ref q9), (0, .ref a0), (1, .int p1)]) hx hb dL_addJob_6 rfl hl (by decide) rfl (fun ls hl => ?_)
      refine lv_bipush (v := (-78 : Int32)) hx hb dL_addJob_7 (by decide) ?_
      exact (en_i X h hr hw (Nat.le_of_ble_eq_true rfl) (Nat.le_of_ble_eq_true rfl) dL_addJob_9)
  · exact (en_i X h hr hw (Nat.le_of_ble_eq_true rfl) (Nat.le_of_ble_eq_true rfl) dL_addJob_5)
abbrev rmX6_findJob : Room := { frames := 0, cells := 0, slots := 0, locals := 0 }
def wpX6_findJob (S : Mem) (a0 : Nat) (p1 : Int32) (post : Option Nat → Mem → Prop) : Prop := (p1 < 0 → (post none S)) ∧ (¬ p1 < 0 → (isK S a0 6 ∧ (((mI S a0 6) ≤ p1 → (post none S)) ∧ (¬ (mI S a0 6) ≤ p1 → (∃ o4, mR S a0 1 = some o4 ∧ (isK S o4 10 ∧ (((nI (mN S o4)) ≤ p1 → (post none S)) ∧ (¬ (nI (mN S o4)) ≤ p1 → (vp_in p1 (mN S o4) ∧ ((mR S o4 p1.toNatClampNeg = none → (post none S)) ∧ (∀ o8, mR S o4 p1.toNatClampNeg = some o8 → (post (some o8) S))))))))))))
set_option maxHeartbeats 4000000 in
set_option maxRecDepth 100000 in
theorem meX6_findJob (l : Launch) (G : GT) (S : Mem) (a0 : Nat) (p1 : Int32) (post : Option Nat → Mem → Prop) (hw : wpX6_findJob S a0 p1 post) : CN emR l yX6_findJob (wsU yX6_findJob cX6_findJob 2 (some (.object "BinderyDesk$Job"))) rmX6_findJob 0 0 G [.ref a0, .int p1] S post := by
  refine cn_open RX6 rfl (by decide +kernel) (Nat.le_of_ble_eq_true rfl) ?_
  intro p e s m args below meth c A X h hr hin ls hl
  have hl : lv_has ls 2 [(0, .ref a0), (1, .int p1)] := hl
  have hx := X.1
  have hb := X.2.1
  have hown := X.2.2.2.1
  unfold wpX6_findJob at hw
  refine lv_iload_n hx hb dX6_findJob_0 rfl (lv_at hl 1 rfl) ?_
  refine lv_if_lt (tgt := 30) hx hb dX6_findJob_1 (by decide) (fun c1 => ?_) (fun c1 => ?_)
  · have hw := hw.1 c1
    refine lv_null hx hb dX6_findJob_30 ?_
    exact (en_r (r := none) X h rfl hr hw (Nat.le_of_ble_eq_true rfl) (Nat.le_of_ble_eq_true rfl) dX6_findJob_31)
  · have hw := hw.2 c1
    refine lv_iload_n hx hb dX6_findJob_4 rfl (lv_at hl 1 rfl) ?_
    refine lv_aload_n hx hb dX6_findJob_5 rfl (lv_at hl 0 rfl) ?_
    obtain ⟨k2, hw⟩ := hw
    refine r_getI X h k2 6  (by decide) rfl inX6 (by decide) rfl q126 rfl dX6_findJob_6 ?_
    refine lv_icmp_ge (tgt := 30) hx hb dX6_findJob_9 (by decide) (fun c3 => ?_) (fun c3 => ?_)
    · have hw := hw.1 c3
      refine lv_null hx hb dX6_findJob_30 ?_
      exact (en_r (r := none) X h rfl hr hw (Nat.le_of_ble_eq_true rfl) (Nat.le_of_ble_eq_true rfl) dX6_findJob_31)
    · have hw := hw.2 c3
      refine lv_iload_n hx hb dX6_findJob_12 rfl (lv_at hl 1 rfl) ?_
      refine lv_aload_n hx hb dX6_findJob_13 rfl (lv_at hl 0 rfl) ?_
      obtain ⟨o4, eo4, hw⟩ := hw
      refine r_getR X h k2 1 eo4  (by decide) rfl inX6 (by decide) rfl q121 rfl dX6_findJob_14 ?_
      obtain ⟨k5, hw⟩ := hw
      refine r_alen X h k5 (by decide) dX6_findJob_17 ?_
      refine lv_icmp_ge (tgt := 30) hx hb dX6_findJob_18 (by decide) (fun c6 => ?_) (fun c6 => ?_)
      · have hw := hw.1 c6
        refine lv_null hx hb dX6_findJob_30 ?_
        exact (en_r (r := none) X h rfl hr hw (Nat.le_of_ble_eq_true rfl) (Nat.le_of_ble_eq_true rfl) dX6_findJob_31)
      · have hw := hw.2 c6
        refine lv_aload_n hx hb dX6_findJob_21 rfl (lv_at hl 0 rfl) ?_
        refine r_getR X h k2 1 eo4  (by decide) rfl inX6 (by decide) rfl q121 rfl dX6_findJob_22 ?_
        refine lv_iload_n hx hb dX6_findJob_25 rfl (lv_at hl 1 rfl) ?_
        obtain ⟨v7, hw⟩ := hw
        rcases hqo8 : mR S o4 p1.toNatClampNeg with _ | o8
        · have hw := hw.1 hqo8
          refine r_aldJob (r := none) X h k5 v7 hqo8 dX6_findJob_26 ?_
          refine lv_goto (tgt := 31) hx hb dX6_findJob_27 (by decide) ?_
          exact (en_r (r := none) X h rfl hr hw (Nat.le_of_ble_eq_true rfl) (Nat.le_of_ble_eq_true rfl) dX6_findJob_31)
        · have hw := hw.2 o8 hqo8
          refine r_aldJob (r := some o8) X h k5 v7 hqo8 dX6_findJob_26 ?_
          refine lv_goto (tgt := 31) hx hb dX6_findJob_27 (by decide) ?_
          exact (en_r (r := (some o8)) X h rfl hr hw (Nat.le_of_ble_eq_true rfl) (Nat.le_of_ble_eq_true rfl) dX6_findJob_31)
abbrev rmX6_existingJob : Room := { frames := 6, cells := 1, slots := 6, locals := 90 }
def wpX6_existingJob (S : Mem) (a0 : Nat) (p1 : Int32) (post : Option Nat → Mem → Prop) (px : Nat → Mem → Prop) : Prop := isK S a0 6 ∧ (wpX6_findJob S a0 p1 (fun r3 S1 => (r3 = none → (px 1 S1)) ∧ (∀ o4, r3 = some o4 → (post (some o4) S1))))
set_option maxHeartbeats 4000000 in
set_option maxRecDepth 100000 in
theorem meX6_existingJob (l : Launch) (hl9 : l.stackTraces = false) (G : GT) (S : Mem) (a0 : Nat) (p1 : Int32) (post : Option Nat → Mem → Prop) (px : Nat → Mem → Prop) (hw : wpX6_existingJob S a0 p1 post px) : CX emR l yX6_existingJob (wsU yX6_existingJob cX6_existingJob 3 (some (.object "BinderyDesk$Job"))) rmX6_existingJob 1 6 G [.ref a0, .int p1] S post px := by
  refine cx_open RX6 rfl (by decide +kernel) (Nat.le_of_ble_eq_true rfl) ?_
  intro p e s m args below meth c A X h hr hno ls hl
  have hl : lv_has ls 3 [(0, .ref a0), (1, .int p1)] := hl
  have hx := X.1
  have hb := X.2.1
  have hown := X.2.2.2.1
  unfold wpX6_existingJob at hw
  refine lv_aload_n hx hb dX6_existingJob_0 rfl (lv_at hl 0 rfl) ?_
  refine lv_iload_n hx hb dX6_existingJob_1 rfl (lv_at hl 1 rfl) ?_
  obtain ⟨k2, hw⟩ := hw
  refine rc_V (As := [.int p1]) (rest := []) X h k2 (by decide) rfl (meX6_findJob l G _ _ _ _ hw) gV_X6_82 rfl rfl hdV_X6_findJob rfl ⟨Nat.le_of_ble_eq_true rfl, Nat.le_of_ble_eq_true rfl⟩ hl.1 rfl (Nat.le_of_ble_eq_true rfl) ⟨Nat.le_of_ble_eq_true rfl, Nat.le_of_ble_eq_true rfl⟩ dX6_existingJob_2 (fun r3 S1 H locs hw h => ?_)
  rcases r3 with _ | o4
  · have hw := hw.1 rfl
    refine lv_astore_nN (lv' := [(2, .null), (0, .ref a0), (1, .int p1)]) hx hb dX6_existingJob_5 rfl hl (by decide) rfl (fun ls hl => ?_)
    refine lv_aload_nN hx hb dX6_existingJob_6 rfl (lv_at hl 0 rfl) ?_
    refine lv_ifnonnullN hx hb dX6_existingJob_7 ?_
    exact en_xW 1 X h hl9 th_X6_283 hl.1 hno dX6_existingJob_10 dX6_existingJob_13 dX6_existingJob_14 dX6_existingJob_17 dX6_existingJob_20 ⟨Nat.le_of_ble_eq_true rfl, Nat.le_of_ble_eq_true rfl⟩ ⟨Nat.le_of_ble_eq_true rfl, Nat.le_of_ble_eq_true rfl⟩ ⟨Nat.le_of_ble_eq_true rfl, Nat.le_of_ble_eq_true rfl⟩ hw
  · have hw := hw.2 o4 rfl
    refine lv_astore_n (lv' := [(2, .ref o4), (0, .ref a0), (1, .int p1)]) hx hb dX6_existingJob_5 rfl hl (by decide) rfl (fun ls hl => ?_)
    refine lv_aload_n hx hb dX6_existingJob_6 rfl (lv_at hl 0 rfl) ?_
    refine lv_ifnonnull (tgt := 21) hx hb dX6_existingJob_7 (by decide) ?_
    refine lv_aload_n hx hb dX6_existingJob_21 rfl (lv_at hl 0 rfl) ?_
    exact vx_ret (en_r (r := (some o4)) X h rfl hr hw (Nat.le_of_ble_eq_true rfl) (Nat.le_of_ble_eq_true rfl) dX6_existingJob_22)
abbrev rmX6_requireContent : Room := { frames := 6, cells := 1, slots := 6, locals := 90 }
def wpX6_requireContent (S : Mem) (a0 : Nat) (p1 : Int32) (post : Unit → Mem → Prop) (px : Nat → Mem → Prop) : Prop := (p1 < 0 → (px 1 S)) ∧ (¬ p1 < 0 → (isK S a0 6 ∧ (∃ o3, mR S a0 0 = some o3 ∧ (isK S o3 0 ∧ ((p1 < (mI S o3 3) → (post () S)) ∧ (¬ p1 < (mI S o3 3) → (px 1 S)))))))
set_option maxHeartbeats 4000000 in
set_option maxRecDepth 100000 in
theorem meX6_requireContent (l : Launch) (hl9 : l.stackTraces = false) (G : GT) (S : Mem) (a0 : Nat) (p1 : Int32) (post : Unit → Mem → Prop) (px : Nat → Mem → Prop) (hw : wpX6_requireContent S a0 p1 post px) : CX emV l yX6_requireContent (wsU yX6_requireContent cX6_requireContent 2 none) rmX6_requireContent 1 6 G [.ref a0, .int p1] S post px := by
  refine cx_open RX6 rfl (by decide +kernel) (Nat.le_of_ble_eq_true rfl) ?_
  intro p e s m args below meth c A X h hr hno ls hl
  have hl : lv_has ls 2 [(0, .ref a0), (1, .int p1)] := hl
  have hx := X.1
  have hb := X.2.1
  have hown := X.2.2.2.1
  unfold wpX6_requireContent at hw
  refine lv_iload_n hx hb dX6_requireContent_0 rfl (lv_at hl 1 rfl) ?_
  refine lv_if_lt (tgt := 15) hx hb dX6_requireContent_1 (by decide) (fun c1 => ?_) (fun c1 => ?_)
  · have hw := hw.1 c1
    exact en_xW 1 X h hl9 th_X6_280 hl.1 hno dX6_requireContent_15 dX6_requireContent_18 dX6_requireContent_19 dX6_requireContent_22 dX6_requireContent_25 ⟨Nat.le_of_ble_eq_true rfl, Nat.le_of_ble_eq_true rfl⟩ ⟨Nat.le_of_ble_eq_true rfl, Nat.le_of_ble_eq_true rfl⟩ ⟨Nat.le_of_ble_eq_true rfl, Nat.le_of_ble_eq_true rfl⟩ hw
  · have hw := hw.2 c1
    refine lv_iload_n hx hb dX6_requireContent_4 rfl (lv_at hl 1 rfl) ?_
    refine lv_aload_n hx hb dX6_requireContent_5 rfl (lv_at hl 0 rfl) ?_
    obtain ⟨k2, hw⟩ := hw
    obtain ⟨o3, eo3, hw⟩ := hw
    refine r_getR X h k2 0 eo3  (by decide) rfl inX6 (by decide) rfl q120 rfl dX6_requireContent_6 ?_
    obtain ⟨k4, hw⟩ := hw
    refine r_getIN X h k4 3  (by decide) rfl inX0 (by decide) rfl q50 rfl dX6_requireContent_9 ?_
    refine lv_icmp_lt (tgt := 26) hx hb dX6_requireContent_12 (by decide) (fun c5 => ?_) (fun c5 => ?_)
    · have hw := hw.1 c5
      exact vx_ret (en_v X h hr hw (Nat.le_of_ble_eq_true rfl) (Nat.le_of_ble_eq_true rfl) dX6_requireContent_26)
    · have hw := hw.2 c5
      exact en_xW 1 X h hl9 th_X6_280 hl.1 hno dX6_requireContent_15 dX6_requireContent_18 dX6_requireContent_19 dX6_requireContent_22 dX6_requireContent_25 ⟨Nat.le_of_ble_eq_true rfl, Nat.le_of_ble_eq_true rfl⟩ ⟨Nat.le_of_ble_eq_true rfl, Nat.le_of_ble_eq_true rfl⟩ ⟨Nat.le_of_ble_eq_true rfl, Nat.le_of_ble_eq_true rfl⟩ hw
abbrev rmX6_requireContentn : Room := { frames := 0, cells := 0, slots := 0, locals := 0 }
def wpX6_requireContentn (S : Mem) (a0 : Nat) (p1 : Int32) (post : Unit → Mem → Prop) : Prop := (p1 < 0 → (False)) ∧ (¬ p1 < 0 → (isK S a0 6 ∧ (∃ o3, mR S a0 0 = some o3 ∧ (isK S o3 0 ∧ ((p1 < (mI S o3 3) → (post () S)) ∧ (¬ p1 < (mI S o3 3) → (False)))))))
set_option maxHeartbeats 4000000 in
set_option maxRecDepth 100000 in
theorem meX6_requireContentn (l : Launch) (G : GT) (S : Mem) (a0 : Nat) (p1 : Int32) (post : Unit → Mem → Prop) (hw : wpX6_requireContentn S a0 p1 post) : CN emV l yX6_requireContent (wsU yX6_requireContent cX6_requireContent 2 none) rmX6_requireContentn 0 0 G [.ref a0, .int p1] S post := by
  refine cn_open RX6 rfl (by decide +kernel) (Nat.le_of_ble_eq_true rfl) ?_
  intro p e s m args below meth c A X h hr hin ls hl
  have hl : lv_has ls 2 [(0, .ref a0), (1, .int p1)] := hl
  have hx := X.1
  have hb := X.2.1
  have hown := X.2.2.2.1
  unfold wpX6_requireContentn at hw
  refine lv_iload_n hx hb dX6_requireContent_0 rfl (lv_at hl 1 rfl) ?_
  refine lv_if_lt (tgt := 15) hx hb dX6_requireContent_1 (by decide) (fun c1 => ?_) (fun c1 => ?_)
  · have hw := hw.1 c1
    exact hw.elim
  · have hw := hw.2 c1
    refine lv_iload_n hx hb dX6_requireContent_4 rfl (lv_at hl 1 rfl) ?_
    refine lv_aload_n hx hb dX6_requireContent_5 rfl (lv_at hl 0 rfl) ?_
    obtain ⟨k2, hw⟩ := hw
    obtain ⟨o3, eo3, hw⟩ := hw
    refine r_getR X h k2 0 eo3  (by decide) rfl inX6 (by decide) rfl q120 rfl dX6_requireContent_6 ?_
    obtain ⟨k4, hw⟩ := hw
    refine r_getIN X h k4 3  (by decide) rfl inX0 (by decide) rfl q50 rfl dX6_requireContent_9 ?_
    refine lv_icmp_lt (tgt := 26) hx hb dX6_requireContent_12 (by decide) (fun c5 => ?_) (fun c5 => ?_)
    · have hw := hw.1 c5
      exact (en_v X h hr hw (Nat.le_of_ble_eq_true rfl) (Nat.le_of_ble_eq_true rfl) dX6_requireContent_26)
    · have hw := hw.2 c5
      exact hw.elim
abbrev rmX6_at : Room := { frames := 0, cells := 0, slots := 0, locals := 0 }
def wpX6_at (S : Mem) (a0 : Nat) (p1 : Int32) (post : Int32 → Mem → Prop) : Prop := (p1 < 0 → (post (nI 0) S)) ∧ (¬ p1 < 0 → (isK S a0 8 ∧ (((nI (mN S a0)) ≤ p1 → (post (nI 0) S)) ∧ (¬ (nI (mN S a0)) ≤ p1 → (vp_in p1 (mN S a0) ∧ (post (mI S a0 p1.toNatClampNeg) S))))))
set_option maxHeartbeats 4000000 in
set_option maxRecDepth 100000 in
theorem meX6_at (l : Launch) (G : GT) (S : Mem) (a0 : Nat) (p1 : Int32) (post : Int32 → Mem → Prop) (hw : wpX6_at S a0 p1 post) : CN emI l yX6_at (wsU yX6_at cX6_at 2 (some .int)) rmX6_at 0 0 G [.ref a0, .int p1] S post := by
  refine cn_open RX6 rfl (by decide +kernel) (Nat.le_of_ble_eq_true rfl) ?_
  intro p e s m args below meth c A X h hr hin ls hl
  have hl : lv_has ls 2 [(0, .ref a0), (1, .int p1)] := hl
  have hx := X.1
  have hb := X.2.1
  have hown := X.2.2.2.1
  unfold wpX6_at at hw
  refine lv_iload_n hx hb dX6_at_0 rfl (lv_at hl 1 rfl) ?_
  refine lv_if_lt (tgt := 16) hx hb dX6_at_1 (by decide) (fun c1 => ?_) (fun c1 => ?_)
  · have hw := hw.1 c1
    refine lv_iconst (v := (nI 0)) hx hb dX6_at_16 (by decide) ?_
    exact (en_i X h hr hw (Nat.le_of_ble_eq_true rfl) (Nat.le_of_ble_eq_true rfl) dX6_at_17)
  · have hw := hw.2 c1
    refine lv_iload_n hx hb dX6_at_4 rfl (lv_at hl 1 rfl) ?_
    refine lv_aload_n hx hb dX6_at_5 rfl (lv_at hl 0 rfl) ?_
    obtain ⟨k2, hw⟩ := hw
    refine r_alen X h k2 (by decide) dX6_at_6 ?_
    refine lv_icmp_ge (tgt := 16) hx hb dX6_at_7 (by decide) (fun c3 => ?_) (fun c3 => ?_)
    · have hw := hw.1 c3
      refine lv_iconst (v := (nI 0)) hx hb dX6_at_16 (by decide) ?_
      exact (en_i X h hr hw (Nat.le_of_ble_eq_true rfl) (Nat.le_of_ble_eq_true rfl) dX6_at_17)
    · have hw := hw.2 c3
      refine lv_aload_n hx hb dX6_at_10 rfl (lv_at hl 0 rfl) ?_
      refine lv_iload_n hx hb dX6_at_11 rfl (lv_at hl 1 rfl) ?_
      obtain ⟨v4, hw⟩ := hw
      refine r_iald X h k2 v4 dX6_at_12 ?_
      refine lv_goto (tgt := 17) hx hb dX6_at_13 (by decide) ?_
      exact (en_i X h hr hw (Nat.le_of_ble_eq_true rfl) (Nat.le_of_ble_eq_true rfl) dX6_at_17)
abbrev rmX6_put : Room := { frames := 0, cells := 0, slots := 0, locals := 0 }
def wpX6_put (S : Mem) (a0 : Nat) (p1 : Int32) (p2 : Int32) (post : Unit → Mem → Prop) : Prop := (p1 < 0 → (post () S)) ∧ (¬ p1 < 0 → (isK S a0 8 ∧ (((nI (mN S a0)) ≤ p1 → (post () S)) ∧ (¬ (nI (mN S a0)) ≤ p1 → (vp_in p1 (mN S a0) ∧ (∀ S5 : Mem, S5 = (sI S a0 p1.toNatClampNeg p2) → (post () S5)))))))
set_option maxHeartbeats 4000000 in
set_option maxRecDepth 100000 in
theorem meX6_put (l : Launch) (G : GT) (S : Mem) (a0 : Nat) (p1 : Int32) (p2 : Int32) (post : Unit → Mem → Prop) (hw : wpX6_put S a0 p1 p2 post) : CN emV l yX6_put (wsU yX6_put cX6_put 3 none) rmX6_put 0 0 G [.ref a0, .int p1, .int p2] S post := by
  refine cn_open RX6 rfl (by decide +kernel) (Nat.le_of_ble_eq_true rfl) ?_
  intro p e s m args below meth c A X h hr hin ls hl
  have hl : lv_has ls 3 [(0, .ref a0), (1, .int p1), (2, .int p2)] := hl
  have hx := X.1
  have hb := X.2.1
  have hown := X.2.2.2.1
  unfold wpX6_put at hw
  refine lv_iload_n hx hb dX6_put_0 rfl (lv_at hl 1 rfl) ?_
  refine lv_if_lt (tgt := 14) hx hb dX6_put_1 (by decide) (fun c1 => ?_) (fun c1 => ?_)
  · have hw := hw.1 c1
    exact (en_v X h hr hw (Nat.le_of_ble_eq_true rfl) (Nat.le_of_ble_eq_true rfl) dX6_put_14)
  · have hw := hw.2 c1
    refine lv_iload_n hx hb dX6_put_4 rfl (lv_at hl 1 rfl) ?_
    refine lv_aload_n hx hb dX6_put_5 rfl (lv_at hl 0 rfl) ?_
    obtain ⟨k2, hw⟩ := hw
    refine r_alen X h k2 (by decide) dX6_put_6 ?_
    refine lv_icmp_ge (tgt := 14) hx hb dX6_put_7 (by decide) (fun c3 => ?_) (fun c3 => ?_)
    · have hw := hw.1 c3
      exact (en_v X h hr hw (Nat.le_of_ble_eq_true rfl) (Nat.le_of_ble_eq_true rfl) dX6_put_14)
    · have hw := hw.2 c3
      refine lv_aload_n hx hb dX6_put_10 rfl (lv_at hl 0 rfl) ?_
      refine lv_iload_n hx hb dX6_put_11 rfl (lv_at hl 1 rfl) ?_
      refine lv_iload_n hx hb dX6_put_12 rfl (lv_at hl 2 rfl) ?_
      obtain ⟨v4, hw⟩ := hw
      refine r_iast X h k2 v4 dX6_put_13 (fun H locs h => ?_)
      obtain ⟨S5, eS5⟩ : ∃ z : Mem, z = (sI S a0 p1.toNatClampNeg p2) := ⟨_, rfl⟩
      rw [← eS5] at h
      have hw := hw S5 eS5
      exact (en_v X h hr hw (Nat.le_of_ble_eq_true rfl) (Nat.le_of_ble_eq_true rfl) dX6_put_14)
abbrev rmX1_takeSheets : Room := { frames := 1, cells := 0, slots := 0, locals := 22 }
def wpX1_takeSheets (S : Mem) (a0 : Nat) (p1 : Int32) (post : Int32 → Mem → Prop) : Prop := isK S a0 1 ∧ (∃ o2, mR S a0 2 = some o2 ∧ (wpX6_at S o2 p1 (fun x4 S3 => isK S3 a0 1 ∧ (∃ o6, mR S3 a0 2 = some o6 ∧ (wpX6_put S3 o6 p1 (nI 0) (fun u8 S7 => post x4 S7))))))
set_option maxHeartbeats 4000000 in
set_option maxRecDepth 100000 in
theorem meX1_takeSheets (l : Launch) (G : GT) (S : Mem) (a0 : Nat) (p1 : Int32) (post : Int32 → Mem → Prop) (hw : wpX1_takeSheets S a0 p1 post) : CN emI l yX1_takeSheets (wsU yX1_takeSheets cX1_takeSheets 3 (some .int)) rmX1_takeSheets 0 0 G [.ref a0, .int p1] S post := by
  refine cn_open RX1 rfl (by decide +kernel) (Nat.le_of_ble_eq_true rfl) ?_
  intro p e s m args below meth c A X h hr hin ls hl
  have hl : lv_has ls 3 [(0, .ref a0), (1, .int p1)] := hl
  have hx := X.1
  have hb := X.2.1
  have hown := X.2.2.2.1
  unfold wpX1_takeSheets at hw
  refine lv_aload_n hx hb dX1_takeSheets_0 rfl (lv_at hl 0 rfl) ?_
  obtain ⟨k1, hw⟩ := hw
  obtain ⟨o2, eo2, hw⟩ := hw
  refine r_getR X h k1 2 eo2  (by decide) rfl inX1 (by decide) rfl q417 rfl dX1_takeSheets_1 ?_
  refine lv_iload_n hx hb dX1_takeSheets_4 rfl (lv_at hl 1 rfl) ?_
  refine rc_SN (As := [.ref o2, .int p1]) (rest := []) X h (meX6_at l G _ _ _ _ hw) gU_X1_30 q365 q14 q312 rfl rfl hdS_X6_at rfl ⟨Nat.le_of_ble_eq_true rfl, Nat.le_of_ble_eq_true rfl⟩ hl.1 rfl (Nat.le_of_ble_eq_true rfl) ⟨Nat.le_of_ble_eq_true rfl, Nat.le_of_ble_eq_true rfl⟩ dX1_takeSheets_5 (fun x4 S3 H locs hw h => ?_)
  refine lv_istore_n (lv' := [(2, .int x4), (0, .ref a0), (1, .int p1)]) hx hb dX1_takeSheets_8 rfl hl (by decide) rfl (fun ls hl => ?_)
  refine lv_aload_n hx hb dX1_takeSheets_9 rfl (lv_at hl 1 rfl) ?_
  obtain ⟨k5, hw⟩ := hw
  obtain ⟨o6, eo6, hw⟩ := hw
  refine r_getR X h k5 2 eo6  (by decide) rfl inX1 (by decide) rfl q417 rfl dX1_takeSheets_10 ?_
  refine lv_iload_n hx hb dX1_takeSheets_13 rfl (lv_at hl 2 rfl) ?_
  refine lv_iconst (v := (nI 0)) hx hb dX1_takeSheets_14 (by decide) ?_
  refine rc_SN (As := [.ref o6, .int p1, .int (nI 0)]) (rest := []) X h (meX6_put l G _ _ _ _ _ hw) gU_X1_26 q370 q14 q319 rfl rfl hdS_X6_put rfl ⟨Nat.le_of_ble_eq_true rfl, Nat.le_of_ble_eq_true rfl⟩ hl.1 rfl (Nat.le_of_ble_eq_true rfl) ⟨Nat.le_of_ble_eq_true rfl, Nat.le_of_ble_eq_true rfl⟩ dX1_takeSheets_15 (fun u8 S7 H locs hw h => ?_)
  refine lv_iload_n hx hb dX1_takeSheets_18 rfl (lv_at hl 0 rfl) ?_
  exact (en_i X h hr hw (Nat.le_of_ble_eq_true rfl) (Nat.le_of_ble_eq_true rfl) dX1_takeSheets_19)
abbrev rmX1_takeAllSheets : Room := { frames := 2, cells := 0, slots := 0, locals := 44 }
def wlX1_takeAllSheets_4 (a0 : Nat)  (post : Int32 → Mem → Prop)  : Nat → Int32 → Int32 → Mem → Prop
  | 0 => fun _ _ _ => False
  | n + 1 => fun w1 w2 S => ((nI 8) ≤ w2 → (post w1 S)) ∧ (¬ (nI 8) ≤ w2 → (isK S a0 1 ∧ (wpX1_takeSheets S a0 w2 (fun x4 S2 => ∀ x5 : Int32, x5 = (w1 + x4) → (∀ x6 : Int32, x6 = (w2 + (nI 1)) → (wlX1_takeAllSheets_4 a0 post n x5 x6 S2))))))
set_option maxHeartbeats 4000000 in
set_option maxRecDepth 100000 in
theorem llX1_takeAllSheets_4 {p : Program} {l : Launch} {e : Env} {s : State} {m : MethodId} {args : Array Value} {below : List Frame} {meth : Method} {c : Code} {G : GT} {A : Nat → Prop} (X : Cx p s m args meth c cX1_takeAllSheets 3 RX1 G A) (hr : meth.sig.returnType = (some .int)) (a0 : Nat)  (post : Int32 → Mem → Prop)   : ∀ (n : Nat) (w1 : Int32) (w2 : Int32) (S : Mem), wlX1_takeAllSheets_4 a0 post n w1 w2 S → ∀ (H : Heap) (locs : List Loc) (ls : Array Slot), Hx G A s.heap H locs S → lv_has ls 3 [(0, .ref a0), (1, .int w1), (2, .int w2)] → W p l e rmX1_takeAllSheets s m args below meth c H locs 0 0 (MQ below (QN emI post G A) args s 0 0 A) (F0 m 4 ls []) := by
  have hx := X.1
  have hb := X.2.1
  have hown := X.2.2.2.1
  intro n
  induction n with
  | zero =>
    intro _ _ _ hw
    exact hw.elim
  | succ n ih =>
    intro w1 w2 S hw H locs ls h hl
    refine lv_iload_n hx hb dX1_takeAllSheets_4 rfl (lv_at hl 2 rfl) ?_
    refine lv_bipush (v := (nI 8)) hx hb dX1_takeAllSheets_5 (by decide) ?_
    refine lv_icmp_ge (tgt := 24) hx hb dX1_takeAllSheets_7 (by decide) (fun c1 => ?_) (fun c1 => ?_)
    · have hw := hw.1 c1
      refine lv_iload_n hx hb dX1_takeAllSheets_24 rfl (lv_at hl 1 rfl) ?_
      exact (en_i X h hr hw (Nat.le_of_ble_eq_true rfl) (Nat.le_of_ble_eq_true rfl) dX1_takeAllSheets_25)
    · have hw := hw.2 c1
      refine lv_iload_n hx hb dX1_takeAllSheets_10 rfl (lv_at hl 1 rfl) ?_
      refine lv_aload_n hx hb dX1_takeAllSheets_11 rfl (lv_at hl 0 rfl) ?_
      refine lv_iload_n hx hb dX1_takeAllSheets_12 rfl (lv_at hl 2 rfl) ?_
      obtain ⟨k3, hw⟩ := hw
      refine rc_V (As := [.int w2]) (rest := [.int w1]) X h k3 (by decide) rfl (meX1_takeSheets l G _ _ _ _ hw) gV_X1_56 rfl rfl hdV_X1_takeSheets rfl ⟨Nat.le_of_ble_eq_true rfl, Nat.le_of_ble_eq_true rfl⟩ hl.1 rfl (Nat.le_of_ble_eq_true rfl) ⟨Nat.le_of_ble_eq_true rfl, Nat.le_of_ble_eq_true rfl⟩ dX1_takeAllSheets_13 (fun x4 S2 H locs hw h => ?_)
      refine lv_iadd hx hb dX1_takeAllSheets_16 ?_
      refine lv_topi (fun x5 ex5 => ?_)
      have hw := hw x5 ex5
      refine lv_istore_n (lv' := [(1, .int x5), (0, .ref a0), (2, .int w2)]) hx hb dX1_takeAllSheets_17 rfl hl (by decide) rfl (fun ls hl => ?_)
      obtain ⟨x6, ex6⟩ : ∃ y : Int32, y = (w2 + (nI 1)) := ⟨_, rfl⟩
      have hw := hw x6 ex6
      refine lv_iinc (v := x6) (lv' := [(2, .int x6), (1, .int x5), (0, .ref a0)]) hx hb dX1_takeAllSheets_18 hl (k := 2) rfl (by rw [ex6]; rfl) (by decide) rfl (fun ls hl => ?_)
      refine lv_goto (tgt := 4) hx hb dX1_takeAllSheets_21 (by decide) ?_
      exact ih _ _ _ hw _ _ _ h (lv_sub hl [2, 1, 0] rfl)
def wpX1_takeAllSheets (S : Mem) (a0 : Nat) (post : Int32 → Mem → Prop) : Prop := ∃ m, wlX1_takeAllSheets_4 a0 post m (nI 0) (nI 0) S
set_option maxHeartbeats 4000000 in
set_option maxRecDepth 100000 in
theorem meX1_takeAllSheets (l : Launch) (G : GT) (S : Mem) (a0 : Nat) (post : Int32 → Mem → Prop) (hw : wpX1_takeAllSheets S a0 post) : CN emI l yX1_takeAllSheets (wsU yX1_takeAllSheets cX1_takeAllSheets 3 (some .int)) rmX1_takeAllSheets 0 0 G [.ref a0] S post := by
  refine cn_open RX1 rfl (by decide +kernel) (Nat.le_of_ble_eq_true rfl) ?_
  intro p e s m args below meth c A X h hr hin ls hl
  have hl : lv_has ls 3 [(0, .ref a0)] := hl
  have hx := X.1
  have hb := X.2.1
  have hown := X.2.2.2.1
  unfold wpX1_takeAllSheets at hw
  refine lv_iconst (v := (nI 0)) hx hb dX1_takeAllSheets_0 (by decide) ?_
  refine lv_istore_n (lv' := [(1, .int (nI 0)), (0, .ref a0)]) hx hb dX1_takeAllSheets_1 rfl hl (by decide) rfl (fun ls hl => ?_)
  refine lv_iconst (v := (nI 0)) hx hb dX1_takeAllSheets_2 (by decide) ?_
  refine lv_istore_n (lv' := [(2, .int (nI 0)), (1, .int (nI 0)), (0, .ref a0)]) hx hb dX1_takeAllSheets_3 rfl hl (by decide) rfl (fun ls hl => ?_)
  obtain ⟨n7, hw⟩ := hw
  exact llX1_takeAllSheets_4  X hr _ _ n7 _ _ _ hw _ _ _ h (lv_sub hl [2, 1, 0] rfl)
abbrev rmX1_append : Room := { frames := 1, cells := 0, slots := 0, locals := 22 }
def wpX1_append (S : Mem) (a0 : Nat) (p1 : Int32) (post : Unit → Mem → Prop) : Prop := isK S a0 1 ∧ (∃ o2, mR S a0 1 = some o2 ∧ (wpX6_put S o2 (mI S a0 3) p1 (fun u4 S3 => isK S3 a0 1 ∧ (∀ x6 : Int32, x6 = ((mI S3 a0 3) + (nI 1)) → (∀ S7 : Mem, S7 = (sI S3 a0 3 x6) → (post () S7))))))
set_option maxHeartbeats 4000000 in
set_option maxRecDepth 100000 in
theorem meX1_append (l : Launch) (G : GT) (S : Mem) (a0 : Nat) (p1 : Int32) (post : Unit → Mem → Prop) (hw : wpX1_append S a0 p1 post) : CN emV l yX1_append (wsU yX1_append cX1_append 2 none) rmX1_append 0 0 G [.ref a0, .int p1] S post := by
  refine cn_open RX1 rfl (by decide +kernel) (Nat.le_of_ble_eq_true rfl) ?_
  intro p e s m args below meth c A X h hr hin ls hl
  have hl : lv_has ls 2 [(0, .ref a0), (1, .int p1)] := hl
  have hx := X.1
  have hb := X.2.1
  have hown := X.2.2.2.1
  unfold wpX1_append at hw
  refine lv_aload_n hx hb dX1_append_0 rfl (lv_at hl 0 rfl) ?_
  obtain ⟨k1, hw⟩ := hw
  obtain ⟨o2, eo2, hw⟩ := hw
  refine r_getR X h k1 1 eo2  (by decide) rfl inX1 (by decide) rfl q416 rfl dX1_append_1 ?_
  refine lv_aload_n hx hb dX1_append_4 rfl (lv_at hl 0 rfl) ?_
  refine r_getI X h k1 3  (by decide) rfl inX1 (by decide) rfl q418 rfl dX1_append_5 ?_
  refine lv_iload_n hx hb dX1_append_8 rfl (lv_at hl 1 rfl) ?_
  refine rc_SN (As := [.ref o2, .int (mI S a0 3), .int p1]) (rest := []) X h (meX6_put l G _ _ _ _ _ hw) gU_X1_26 q370 q14 q319 rfl rfl hdS_X6_put rfl ⟨Nat.le_of_ble_eq_true rfl, Nat.le_of_ble_eq_true rfl⟩ hl.1 rfl (Nat.le_of_ble_eq_true rfl) ⟨Nat.le_of_ble_eq_true rfl, Nat.le_of_ble_eq_true rfl⟩ dX1_append_9 (fun u4 S3 H locs hw h => ?_)
  refine lv_aload_n hx hb dX1_append_12 rfl (lv_at hl 0 rfl) ?_
  refine lv_dup hx hb dX1_append_13 rfl ?_
  obtain ⟨k5, hw⟩ := hw
  refine r_getI X h k5 3  (by decide) rfl inX1 (by decide) rfl q418 rfl dX1_append_14 ?_
  refine lv_iconst (v := (nI 1)) hx hb dX1_append_17 (by decide) ?_
  refine lv_iadd hx hb dX1_append_18 ?_
  refine lv_topi (fun x6 ex6 => ?_)
  have hw := hw x6 ex6
  refine r_putI X h k5 3 (by decide) rfl inX1 tyX1 tyX1_ok nmX1 (by decide) rfl (Nat.le_of_ble_eq_true rfl) q418 rfl rfl (tyX1_ok 3 (by decide)) rfl rfl dX1_append_19 (fun H locs h => ?_)
  obtain ⟨S7, eS7⟩ : ∃ z : Mem, z = (sI S3 a0 3 x6) := ⟨_, rfl⟩
  rw [← eS7] at h
  have hw := hw S7 eS7
  exact (en_v X h hr hw (Nat.le_of_ble_eq_true rfl) (Nat.le_of_ble_eq_true rfl) dX1_append_22)
abbrev rmX6_addPage : Room := { frames := 7, cells := 3, slots := 18, locals := 112 }
def wpX6_addPage (S : Mem) (a0 : Nat) (p1 : Int32) (p2 : Int32) (post : Int32 → Mem → Prop) (px : Nat → Mem → Prop) : Prop := isK S a0 6 ∧ (wpX6_existingJob S a0 p1 (fun r3 S1 => ∃ o4, r3 = some o4 ∧ (isK S1 a0 6 ∧ (wpX6_requireContent S1 a0 p2 (fun u7 S5 => isK S5 o4 1 ∧ (((mI S5 o4 3) < (nI 16) → (isK S5 a0 6 ∧ (wpX1_takeAllSheets S5 o4 (fun x12 S11 => isK S11 a0 6 ∧ (∀ S14 : Mem, S14 = (sJ S11 a0 8 ((mJ S5 a0 8) + x12.toInt64)) → (isK S14 o4 1 ∧ (wpX1_append S14 o4 p2 (fun u17 S15 => isK S15 o4 1 ∧ (post (mI S15 o4 3) S15))))))))) ∧ (¬ (mI S5 o4 3) < (nI 16) → (px 2 S5)))) px))) px)
set_option maxHeartbeats 4000000 in
set_option maxRecDepth 100000 in
theorem meX6_addPage (l : Launch) (hl9 : l.stackTraces = false) (G : GT) (S : Mem) (a0 : Nat) (p1 : Int32) (p2 : Int32) (post : Int32 → Mem → Prop) (px : Nat → Mem → Prop) (hw : wpX6_addPage S a0 p1 p2 post px) : CX emI l yX6_addPage (wsU yX6_addPage cX6_addPage 4 (some .int)) rmX6_addPage 3 18 G [.ref a0, .int p1, .int p2] S post px := by
  refine cx_open RX6 rfl (by decide +kernel) (Nat.le_of_ble_eq_true rfl) ?_
  intro p e s m args below meth c A X h hr hno ls hl
  have hl : lv_has ls 4 [(0, .ref a0), (1, .int p1), (2, .int p2)] := hl
  have hx := X.1
  have hb := X.2.1
  have hown := X.2.2.2.1
  unfold wpX6_addPage at hw
  refine lv_aload_n hx hb dX6_addPage_0 rfl (lv_at hl 0 rfl) ?_
  refine lv_iload_n hx hb dX6_addPage_1 rfl (lv_at hl 1 rfl) ?_
  obtain ⟨k2, hw⟩ := hw
  refine rx_V (As := [.int p1]) (rest := []) X h hno k2 (by decide) rfl (meX6_existingJob l hl9 G _ _ _ _ _ hw) gV_X6_109 rfl rfl hdV_X6_existingJob rfl ⟨Nat.le_of_ble_eq_true rfl, Nat.le_of_ble_eq_true rfl⟩ hl.1 rfl (Nat.le_of_ble_eq_true rfl) ⟨Nat.le_of_ble_eq_true rfl, Nat.le_of_ble_eq_true rfl⟩ ⟨Nat.le_of_ble_eq_true rfl, Nat.le_of_ble_eq_true rfl⟩ dX6_addPage_2 (fun r3 S1 H locs hw h => ?_)
  obtain ⟨o4, rfl, hw⟩ := hw
  refine lv_astore_n (lv' := [(3, .ref o4), (0, .ref a0), (1, .int p1), (2, .int p2)]) hx hb dX6_addPage_5 rfl hl (by decide) rfl (fun ls hl => ?_)
  refine lv_aload_n hx hb dX6_addPage_6 rfl (lv_at hl 1 rfl) ?_
  refine lv_iload_n hx hb dX6_addPage_7 rfl (lv_at hl 3 rfl) ?_
  obtain ⟨k6, hw⟩ := hw
  refine rx_V (As := [.int p2]) (rest := []) X h hno k6 (by decide) rfl (meX6_requireContent l hl9 G _ _ _ _ _ hw) gV_X6_64 rfl rfl hdV_X6_requireContent rfl ⟨Nat.le_of_ble_eq_true rfl, Nat.le_of_ble_eq_true rfl⟩ hl.1 rfl (Nat.le_of_ble_eq_true rfl) ⟨Nat.le_of_ble_eq_true rfl, Nat.le_of_ble_eq_true rfl⟩ ⟨Nat.le_of_ble_eq_true rfl, Nat.le_of_ble_eq_true rfl⟩ dX6_addPage_8 (fun u7 S5 H locs hw h => ?_)
  refine lv_aload_n hx hb dX6_addPage_11 rfl (lv_at hl 0 rfl) ?_
  obtain ⟨k8, hw⟩ := hw
  refine r_getIN X h k8 3  (by decide) rfl inX1 (by decide) rfl q419 rfl dX6_addPage_12 ?_
  refine lv_bipush (v := (nI 16)) hx hb dX6_addPage_15 (by decide) ?_
  refine lv_icmp_lt (tgt := 30) hx hb dX6_addPage_17 (by decide) (fun c9 => ?_) (fun c9 => ?_)
  · have hw := hw.1 c9
    refine lv_aload_n hx hb dX6_addPage_30 rfl (lv_at hl 1 rfl) ?_
    refine lv_dup hx hb dX6_addPage_31 rfl ?_
    obtain ⟨k10, hw⟩ := hw
    refine r_getJ X h k10 8  (by decide) rfl inX6 (by decide) rfl q128 rfl dX6_addPage_32 ?_
    refine lv_aload_n hx hb dX6_addPage_35 rfl (lv_at hl 0 rfl) ?_
    refine rc_V (As := []) (rest := [.long (mJ S5 a0 8), .ref a0]) X h k8 (by decide) rfl (meX1_takeAllSheets l G _ _ _ hw) gV_X6_115 rfl rfl hdV_X1_takeAllSheets rfl ⟨Nat.le_of_ble_eq_true rfl, Nat.le_of_ble_eq_true rfl⟩ hl.1 rfl (Nat.le_of_ble_eq_true rfl) ⟨Nat.le_of_ble_eq_true rfl, Nat.le_of_ble_eq_true rfl⟩ dX6_addPage_36 (fun x12 S11 H locs hw h => ?_)
    refine lv_i2l (v := x12.toInt64) hx hb dX6_addPage_39 rfl ?_
    refine lv_ladd hx hb dX6_addPage_40 ?_
    obtain ⟨k13, hw⟩ := hw
    refine r_putJ X h k13 8 (by decide) rfl inX6 tyX6 tyX6_ok nmX6 (by decide) rfl (Nat.le_of_ble_eq_true rfl) q128 rfl rfl (tyX6_ok 8 (by decide)) rfl rfl dX6_addPage_41 (fun H locs h => ?_)
    obtain ⟨S14, eS14⟩ : ∃ z : Mem, z = (sJ S11 a0 8 ((mJ S5 a0 8) + x12.toInt64)) := ⟨_, rfl⟩
    rw [← eS14] at h
    have hw := hw S14 eS14
    refine lv_aload_n hx hb dX6_addPage_44 rfl (lv_at hl 0 rfl) ?_
    refine lv_iload_n hx hb dX6_addPage_45 rfl (lv_at hl 3 rfl) ?_
    obtain ⟨k16, hw⟩ := hw
    refine rc_V (As := [.int p2]) (rest := []) X h k16 (by decide) rfl (meX1_append l G _ _ _ _ hw) gV_X6_118 rfl rfl hdV_X1_append rfl ⟨Nat.le_of_ble_eq_true rfl, Nat.le_of_ble_eq_true rfl⟩ hl.1 rfl (Nat.le_of_ble_eq_true rfl) ⟨Nat.le_of_ble_eq_true rfl, Nat.le_of_ble_eq_true rfl⟩ dX6_addPage_46 (fun u17 S15 H locs hw h => ?_)
    refine lv_aload_n hx hb dX6_addPage_49 rfl (lv_at hl 0 rfl) ?_
    obtain ⟨k18, hw⟩ := hw
    refine r_getIN X h k18 3  (by decide) rfl inX1 (by decide) rfl q419 rfl dX6_addPage_50 ?_
    exact vx_ret (en_i X h hr hw (Nat.le_of_ble_eq_true rfl) (Nat.le_of_ble_eq_true rfl) dX6_addPage_53)
  · have hw := hw.2 c9
    exact en_x 2 X h hl9 th_X6_113 hl.1 hno dX6_addPage_20 dX6_addPage_23 dX6_addPage_24 dX6_addPage_26 dX6_addPage_29 ⟨Nat.le_of_ble_eq_true rfl, Nat.le_of_ble_eq_true rfl⟩ ⟨Nat.le_of_ble_eq_true rfl, Nat.le_of_ble_eq_true rfl⟩ ⟨Nat.le_of_ble_eq_true rfl, Nat.le_of_ble_eq_true rfl⟩ hw
abbrev rmL_addPage : Room := { frames := 8, cells := 3, slots := 18, locals := 135 }
def wpL_addPage (S : Mem) (a0 : Nat) (p1 : Int32) (p2 : Int32) (post : Int32 → Mem → Prop) : Prop := isK S a0 6 ∧ (wpX6_addPage S a0 p1 p2 (fun x3 S1 => post x3 S1) (fun k4 S5 => (k4 = 1 → (post (-77 : Int32) S5)) ∧ (k4 = 2 → (post (-79 : Int32) S5)) ∧ (k4 = 1 ∨ k4 = 2)))
set_option maxHeartbeats 4000000 in
set_option maxRecDepth 100000 in
theorem meL_addPage (l : Launch) (hl9 : l.stackTraces = false) (G : GT) (S : Mem) (a0 : Nat) (p1 : Int32) (p2 : Int32) (post : Int32 → Mem → Prop) (hw : wpL_addPage S a0 p1 p2 post) : CN emI l yL_addPage (wsH yL_addPage cL_addPage 4 (some .int) [(0, 6, 7, 26), (0, 6, 11, 20)]) rmL_addPage 3 18 G [.ref a0, .int p1, .int p2] S post := by
  refine ch_open RL rfl (by decide +kernel) (Nat.le_of_ble_eq_true rfl) ?_
  intro p e s m args below meth c A X h hr hTab ls hl
  have hl : lv_has ls 4 [(0, .ref a0), (1, .int p1), (2, .int p2)] := hl
  have hx := X.1
  have hb := X.2.1
  have hown := X.2.2.2.1
  unfold wpL_addPage at hw
  refine lv_aload_n hx hb dL_addPage_0 rfl (lv_at hl 0 rfl) ?_
  refine lv_iload_n hx hb dL_addPage_1 rfl (lv_at hl 1 rfl) ?_
  refine lv_iload_n hx hb dL_addPage_2 rfl (lv_at hl 2 rfl) ?_
  obtain ⟨k2, hw⟩ := hw
  refine rx_VH (As := [.int p1, .int p2]) (rest := []) X h k2 (by decide) rfl (meX6_addPage l hl9 G _ _ _ _ _ _ hw) gV_L_41 rfl rfl hdV_X6_addPage rfl ⟨Nat.le_of_ble_eq_true rfl, Nat.le_of_ble_eq_true rfl⟩ hl.1 rfl (Nat.le_of_ble_eq_true rfl) ⟨Nat.le_of_ble_eq_true rfl, Nat.le_of_ble_eq_true rfl⟩ dL_addPage_3 (fun k4 S5 H locs q9 ce hw h hce hcv hcl => ?_) (fun x3 S1 H locs hw h => ?_)
  · rcases hw.2.2 with hk9 | hk9
    · subst hk9
      have hw := hw.1 rfl
      refine vx_catch (own := RL) (name := "java/lang/IndexOutOfBoundsException") (E := xn 1) hown [] ⟨0, 6, 7, 26⟩ [⟨0, 6, 11, 20⟩] (by rw [hTab]; rfl) (fun z hz => nomatch hz) (by decide) (by decide) (X.hts q262) (va_Nw.use (by rfl) (X.nw q296)) hce hcv hcl ?_
      refine lv_astore_n (lv' := [(3, .ref q9), (0, .ref a0), (1, .int p1), (2, .int p2)]) hx hb dL_addPage_7 rfl hl (by decide) rfl (fun ls hl => ?_)
      refine lv_bipush (v := (-77 : Int32)) hx hb dL_addPage_8 (by decide) ?_
      exact (en_i X h hr hw (Nat.le_of_ble_eq_true rfl) (Nat.le_of_ble_eq_true rfl) dL_addPage_10)
    · subst hk9
      have hw := hw.2.1 rfl
      have hpass2 : ∀ z ∈ ([⟨0, 6, 7, 26⟩] : List ExceptionTableEntry), covers z 3 = false ∨ (z.catchType ≠ 0 ∧ ∃ nm : String, (Cond.classLink RL z.catchType nm).before args s = true ∧ va_Nc (xn 2) nm s) := by
        intro z hz
        rcases List.mem_cons.mp hz with rfl | hz
        · exact Or.inr ⟨by decide, "java/lang/IndexOutOfBoundsException", X.hts q262, X.2.2.2.2.2.2.1.2.2.2.2.1 ("java/lang/IllegalStateException", "java/lang/IndexOutOfBoundsException") (by decide +kernel)⟩
        cases hz
      refine vx_catch (own := RL) (name := "java/lang/IllegalStateException") (E := xn 2) hown [⟨0, 6, 7, 26⟩] ⟨0, 6, 11, 20⟩ [] (by rw [hTab]; rfl) (hpass2) (by decide) (by decide) (X.hts q179) (va_Nw.use (by rfl) (X.nw q186)) hce hcv hcl ?_
      refine lv_astore_n (lv' := [(3, .ref q9), (0, .ref a0), (1, .int p1), (2, .int p2)]) hx hb dL_addPage_11 rfl hl (by decide) rfl (fun ls hl => ?_)
      refine lv_bipush (v := (-79 : Int32)) hx hb dL_addPage_12 (by decide) ?_
      exact (en_i X h hr hw (Nat.le_of_ble_eq_true rfl) (Nat.le_of_ble_eq_true rfl) dL_addPage_14)
  · exact (en_i X h hr hw (Nat.le_of_ble_eq_true rfl) (Nat.le_of_ble_eq_true rfl) dL_addPage_6)
abbrev rmX0_isApproved : Room := { frames := 1, cells := 0, slots := 0, locals := 21 }
def wpX0_isApproved (S : Mem) (a0 : Nat) (p1 : Int32) (post : Int32 → Mem → Prop) : Prop := isK S a0 0 ∧ (∃ o2, mR S a0 1 = some o2 ∧ (wpX6_at S o2 p1 (fun x4 S3 => (¬ x4 = (nI 1) → (vz_nar (nI 0) ∧ (post (nI 0) S3))) ∧ (x4 = (nI 1) → (vz_nar (nI 1) ∧ (post (nI 1) S3))))))
set_option maxHeartbeats 4000000 in
set_option maxRecDepth 100000 in
theorem meX0_isApproved (l : Launch) (G : GT) (S : Mem) (a0 : Nat) (p1 : Int32) (post : Int32 → Mem → Prop) (hw : wpX0_isApproved S a0 p1 post) : CN emI l yX0_isApproved (wsU yX0_isApproved cX0_isApproved 2 (some .boolean)) rmX0_isApproved 0 0 G [.ref a0, .int p1] S post := by
  refine cn_open RX0 rfl (by decide +kernel) (Nat.le_of_ble_eq_true rfl) ?_
  intro p e s m args below meth c A X h hr hin ls hl
  have hl : lv_has ls 2 [(0, .ref a0), (1, .int p1)] := hl
  have hx := X.1
  have hb := X.2.1
  have hown := X.2.2.2.1
  unfold wpX0_isApproved at hw
  refine lv_aload_n hx hb dX0_isApproved_0 rfl (lv_at hl 0 rfl) ?_
  obtain ⟨k1, hw⟩ := hw
  obtain ⟨o2, eo2, hw⟩ := hw
  refine r_getR X h k1 1 eo2  (by decide) rfl inX0 (by decide) rfl q47 rfl dX0_isApproved_1 ?_
  refine lv_iload_n hx hb dX0_isApproved_4 rfl (lv_at hl 1 rfl) ?_
  refine rc_SN (As := [.ref o2, .int p1]) (rest := []) X h (meX6_at l G _ _ _ _ hw) gU_X0_25 q311 q14 q312 rfl rfl hdS_X6_at rfl ⟨Nat.le_of_ble_eq_true rfl, Nat.le_of_ble_eq_true rfl⟩ hl.1 rfl (Nat.le_of_ble_eq_true rfl) ⟨Nat.le_of_ble_eq_true rfl, Nat.le_of_ble_eq_true rfl⟩ dX0_isApproved_5 (fun x4 S3 H locs hw h => ?_)
  refine lv_iconst (v := (nI 1)) hx hb dX0_isApproved_8 (by decide) ?_
  refine lv_icmp_ne (tgt := 16) hx hb dX0_isApproved_9 (by decide) (fun c5 => ?_) (fun c5 => ?_)
  · have hw := hw.1 c5
    refine lv_iconst (v := (nI 0)) hx hb dX0_isApproved_16 (by decide) ?_
    obtain ⟨b6, hw⟩ := hw
    exact (en_z X h hr b6 hw (Nat.le_of_ble_eq_true rfl) (Nat.le_of_ble_eq_true rfl) dX0_isApproved_17)
  · have hw := hw.2 c5
    refine lv_iconst (v := (nI 1)) hx hb dX0_isApproved_12 (by decide) ?_
    refine lv_goto (tgt := 17) hx hb dX0_isApproved_13 (by decide) ?_
    obtain ⟨b7, hw⟩ := hw
    exact (en_z X h hr b7 hw (Nat.le_of_ble_eq_true rfl) (Nat.le_of_ble_eq_true rfl) dX0_isApproved_17)
abbrev rmX0_setApproved : Room := { frames := 1, cells := 0, slots := 0, locals := 22 }
def wpX0_setApproved (S : Mem) (a0 : Nat) (p1 : Int32) (p2 : Int32) (post : Unit → Mem → Prop) : Prop := isK S a0 0 ∧ (∃ o2, mR S a0 1 = some o2 ∧ ((p2 = 0 → (wpX6_put S o2 p1 (nI 0) (fun u5 S4 => post () S4))) ∧ (¬ p2 = 0 → (wpX6_put S o2 p1 (nI 1) (fun u7 S6 => post () S6)))))
set_option maxHeartbeats 4000000 in
set_option maxRecDepth 100000 in
theorem meX0_setApproved (l : Launch) (G : GT) (S : Mem) (a0 : Nat) (p1 : Int32) (p2 : Int32) (post : Unit → Mem → Prop) (hw : wpX0_setApproved S a0 p1 p2 post) : CN emV l yX0_setApproved (wsU yX0_setApproved cX0_setApproved 3 none) rmX0_setApproved 0 0 G [.ref a0, .int p1, .int p2] S post := by
  refine cn_open RX0 rfl (by decide +kernel) (Nat.le_of_ble_eq_true rfl) ?_
  intro p e s m args below meth c A X h hr hin ls hl
  have hl : lv_has ls 3 [(0, .ref a0), (1, .int p1), (2, .int p2)] := hl
  have hx := X.1
  have hb := X.2.1
  have hown := X.2.2.2.1
  unfold wpX0_setApproved at hw
  refine lv_aload_n hx hb dX0_setApproved_0 rfl (lv_at hl 0 rfl) ?_
  obtain ⟨k1, hw⟩ := hw
  obtain ⟨o2, eo2, hw⟩ := hw
  refine r_getR X h k1 1 eo2  (by decide) rfl inX0 (by decide) rfl q47 rfl dX0_setApproved_1 ?_
  refine lv_iload_n hx hb dX0_setApproved_4 rfl (lv_at hl 1 rfl) ?_
  refine lv_iload_n hx hb dX0_setApproved_5 rfl (lv_at hl 2 rfl) ?_
  refine lv_if_eq (tgt := 13) hx hb dX0_setApproved_6 (by decide) (fun c3 => ?_) (fun c3 => ?_)
  · have hw := hw.1 c3
    refine lv_iconst (v := (nI 0)) hx hb dX0_setApproved_13 (by decide) ?_
    refine rc_SN (As := [.ref o2, .int p1, .int (nI 0)]) (rest := []) X h (meX6_put l G _ _ _ _ _ hw) gU_X0_29 q318 q14 q319 rfl rfl hdS_X6_put rfl ⟨Nat.le_of_ble_eq_true rfl, Nat.le_of_ble_eq_true rfl⟩ hl.1 rfl (Nat.le_of_ble_eq_true rfl) ⟨Nat.le_of_ble_eq_true rfl, Nat.le_of_ble_eq_true rfl⟩ dX0_setApproved_14 (fun u5 S4 H locs hw h => ?_)
    exact (en_v X h hr hw (Nat.le_of_ble_eq_true rfl) (Nat.le_of_ble_eq_true rfl) dX0_setApproved_17)
  · have hw := hw.2 c3
    refine lv_iconst (v := (nI 1)) hx hb dX0_setApproved_9 (by decide) ?_
    refine lv_goto (tgt := 14) hx hb dX0_setApproved_10 (by decide) ?_
    refine rc_SN (As := [.ref o2, .int p1, .int (nI 1)]) (rest := []) X h (meX6_put l G _ _ _ _ _ hw) gU_X0_29 q318 q14 q319 rfl rfl hdS_X6_put rfl ⟨Nat.le_of_ble_eq_true rfl, Nat.le_of_ble_eq_true rfl⟩ hl.1 rfl (Nat.le_of_ble_eq_true rfl) ⟨Nat.le_of_ble_eq_true rfl, Nat.le_of_ble_eq_true rfl⟩ dX0_setApproved_14 (fun u7 S6 H locs hw h => ?_)
    exact (en_v X h hr hw (Nat.le_of_ble_eq_true rfl) (Nat.le_of_ble_eq_true rfl) dX0_setApproved_17)
abbrev rmX6_approve : Room := { frames := 7, cells := 1, slots := 6, locals := 111 }
def wpX6_approve (S : Mem) (a0 : Nat) (p1 : Int32) (post : Int32 → Mem → Prop) (px : Nat → Mem → Prop) : Prop := isK S a0 6 ∧ (wpX6_requireContent S a0 p1 (fun u3 S1 => isK S1 a0 6 ∧ (∃ o5, mR S1 a0 0 = some o5 ∧ (isK S1 o5 0 ∧ (wpX0_isApproved S1 o5 p1 (fun x8 S6 => isK S6 a0 6 ∧ (∃ o10, mR S6 a0 0 = some o10 ∧ (isK S6 o10 0 ∧ (wpX0_setApproved S6 o10 p1 (nI 1) (fun u13 S11 => vz_nar x8 ∧ (post x8 S11)))))))))) px)
set_option maxHeartbeats 4000000 in
set_option maxRecDepth 100000 in
theorem meX6_approve (l : Launch) (hl9 : l.stackTraces = false) (G : GT) (S : Mem) (a0 : Nat) (p1 : Int32) (post : Int32 → Mem → Prop) (px : Nat → Mem → Prop) (hw : wpX6_approve S a0 p1 post px) : CX emI l yX6_approve (wsU yX6_approve cX6_approve 3 (some .boolean)) rmX6_approve 1 6 G [.ref a0, .int p1] S post px := by
  refine cx_open RX6 rfl (by decide +kernel) (Nat.le_of_ble_eq_true rfl) ?_
  intro p e s m args below meth c A X h hr hno ls hl
  have hl : lv_has ls 3 [(0, .ref a0), (1, .int p1)] := hl
  have hx := X.1
  have hb := X.2.1
  have hown := X.2.2.2.1
  unfold wpX6_approve at hw
  refine lv_aload_n hx hb dX6_approve_0 rfl (lv_at hl 0 rfl) ?_
  refine lv_iload_n hx hb dX6_approve_1 rfl (lv_at hl 1 rfl) ?_
  obtain ⟨k2, hw⟩ := hw
  refine rx_V (As := [.int p1]) (rest := []) X h hno k2 (by decide) rfl (meX6_requireContent l hl9 G _ _ _ _ _ hw) gV_X6_64 rfl rfl hdV_X6_requireContent rfl ⟨Nat.le_of_ble_eq_true rfl, Nat.le_of_ble_eq_true rfl⟩ hl.1 rfl (Nat.le_of_ble_eq_true rfl) ⟨Nat.le_of_ble_eq_true rfl, Nat.le_of_ble_eq_true rfl⟩ ⟨Nat.le_of_ble_eq_true rfl, Nat.le_of_ble_eq_true rfl⟩ dX6_approve_2 (fun u3 S1 H locs hw h => ?_)
  refine lv_aload_n hx hb dX6_approve_5 rfl (lv_at hl 0 rfl) ?_
  obtain ⟨k4, hw⟩ := hw
  obtain ⟨o5, eo5, hw⟩ := hw
  refine r_getR X h k4 0 eo5  (by decide) rfl inX6 (by decide) rfl q120 rfl dX6_approve_6 ?_
  refine lv_iload_n hx hb dX6_approve_9 rfl (lv_at hl 1 rfl) ?_
  obtain ⟨k7, hw⟩ := hw
  refine rc_V (As := [.int p1]) (rest := []) X h k7 (by decide) rfl (meX0_isApproved l G _ _ _ _ hw) gV_X6_68 rfl rfl hdV_X0_isApproved rfl ⟨Nat.le_of_ble_eq_true rfl, Nat.le_of_ble_eq_true rfl⟩ hl.1 rfl (Nat.le_of_ble_eq_true rfl) ⟨Nat.le_of_ble_eq_true rfl, Nat.le_of_ble_eq_true rfl⟩ dX6_approve_10 (fun x8 S6 H locs hw h => ?_)
  refine lv_istore_n (lv' := [(2, .int x8), (0, .ref a0), (1, .int p1)]) hx hb dX6_approve_13 rfl hl (by decide) rfl (fun ls hl => ?_)
  refine lv_aload_n hx hb dX6_approve_14 rfl (lv_at hl 1 rfl) ?_
  obtain ⟨k9, hw⟩ := hw
  obtain ⟨o10, eo10, hw⟩ := hw
  refine r_getR X h k9 0 eo10  (by decide) rfl inX6 (by decide) rfl q120 rfl dX6_approve_15 ?_
  refine lv_iload_n hx hb dX6_approve_18 rfl (lv_at hl 2 rfl) ?_
  refine lv_iconst (v := (nI 1)) hx hb dX6_approve_19 (by decide) ?_
  obtain ⟨k12, hw⟩ := hw
  refine rc_V (As := [.int p1, .int (nI 1)]) (rest := []) X h k12 (by decide) rfl (meX0_setApproved l G _ _ _ _ _ hw) gV_X6_72 rfl rfl hdV_X0_setApproved rfl ⟨Nat.le_of_ble_eq_true rfl, Nat.le_of_ble_eq_true rfl⟩ hl.1 rfl (Nat.le_of_ble_eq_true rfl) ⟨Nat.le_of_ble_eq_true rfl, Nat.le_of_ble_eq_true rfl⟩ dX6_approve_20 (fun u13 S11 H locs hw h => ?_)
  refine lv_iload_n hx hb dX6_approve_23 rfl (lv_at hl 0 rfl) ?_
  obtain ⟨b14, hw⟩ := hw
  exact vx_ret (en_z X h hr b14 hw (Nat.le_of_ble_eq_true rfl) (Nat.le_of_ble_eq_true rfl) dX6_approve_24)
abbrev rmL_approve : Room := { frames := 8, cells := 1, slots := 6, locals := 133 }
def wpL_approve (S : Mem) (a0 : Nat) (p1 : Int32) (post : Int32 → Mem → Prop) : Prop := isK S a0 6 ∧ (wpX6_approve S a0 p1 (fun x3 S1 => (x3 = 0 → (post (nI 0) S1)) ∧ (¬ x3 = 0 → (post (nI 1) S1))) (fun k4 S5 => (k4 = 1 → (post (-77 : Int32) S5)) ∧ (k4 = 1)))
set_option maxHeartbeats 4000000 in
set_option maxRecDepth 100000 in
theorem meL_approve (l : Launch) (hl9 : l.stackTraces = false) (G : GT) (S : Mem) (a0 : Nat) (p1 : Int32) (post : Int32 → Mem → Prop) (hw : wpL_approve S a0 p1 post) : CN emI l yL_approve (wsH yL_approve cL_approve 3 (some .int) [(0, 13, 14, 26)]) rmL_approve 1 6 G [.ref a0, .int p1] S post := by
  refine ch_open RL rfl (by decide +kernel) (Nat.le_of_ble_eq_true rfl) ?_
  intro p e s m args below meth c A X h hr hTab ls hl
  have hl : lv_has ls 3 [(0, .ref a0), (1, .int p1)] := hl
  have hx := X.1
  have hb := X.2.1
  have hown := X.2.2.2.1
  unfold wpL_approve at hw
  refine lv_aload_n hx hb dL_approve_0 rfl (lv_at hl 0 rfl) ?_
  refine lv_iload_n hx hb dL_approve_1 rfl (lv_at hl 1 rfl) ?_
  obtain ⟨k2, hw⟩ := hw
  refine rx_VH (As := [.int p1]) (rest := []) X h k2 (by decide) rfl (meX6_approve l hl9 G _ _ _ _ _ hw) gV_L_22 rfl rfl hdV_X6_approve rfl ⟨Nat.le_of_ble_eq_true rfl, Nat.le_of_ble_eq_true rfl⟩ hl.1 rfl (Nat.le_of_ble_eq_true rfl) ⟨Nat.le_of_ble_eq_true rfl, Nat.le_of_ble_eq_true rfl⟩ dL_approve_2 (fun k4 S5 H locs q9 ce hw h hce hcv hcl => ?_) (fun x3 S1 H locs hw h => ?_)
  · rcases hw.2 with hk9
    · subst hk9
      have hw := hw.1 rfl
      refine vx_catch (own := RL) (name := "java/lang/IndexOutOfBoundsException") (E := xn 1) hown [] ⟨0, 13, 14, 26⟩ [] (by rw [hTab]; rfl) (fun z hz => nomatch hz) (by decide) (by decide) (X.hts q262) (va_Nw.use (by rfl) (X.nw q296)) hce hcv hcl ?_
      refine lv_astore_n (lv' := [(2, .ref q9), (0, .ref a0), (1, .int p1)]) hx hb dL_approve_14 rfl hl (by decide) rfl (fun ls hl => ?_)
      refine lv_bipush (v := (-77 : Int32)) hx hb dL_approve_15 (by decide) ?_
      exact (en_i X h hr hw (Nat.le_of_ble_eq_true rfl) (Nat.le_of_ble_eq_true rfl) dL_approve_17)
  · refine lv_if_eq (tgt := 12) hx hb dL_approve_5 (by decide) (fun c6 => ?_) (fun c6 => ?_)
    · have hw := hw.1 c6
      refine lv_iconst (v := (nI 0)) hx hb dL_approve_12 (by decide) ?_
      exact (en_i X h hr hw (Nat.le_of_ble_eq_true rfl) (Nat.le_of_ble_eq_true rfl) dL_approve_13)
    · have hw := hw.2 c6
      refine lv_iconst (v := (nI 1)) hx hb dL_approve_8 (by decide) ?_
      refine lv_goto (tgt := 13) hx hb dL_approve_9 (by decide) ?_
      exact (en_i X h hr hw (Nat.le_of_ble_eq_true rfl) (Nat.le_of_ble_eq_true rfl) dL_approve_13)
abbrev rmX6_waste : Room := { frames := 0, cells := 0, slots := 0, locals := 0 }
def wpX6_waste (S : Mem) (a0 : Nat) (post : Int64 → Mem → Prop) : Prop := isK S a0 6 ∧ (post (mJ S a0 8) S)
set_option maxHeartbeats 4000000 in
set_option maxRecDepth 100000 in
theorem meX6_waste (l : Launch) (G : GT) (S : Mem) (a0 : Nat) (post : Int64 → Mem → Prop) (hw : wpX6_waste S a0 post) : CN emJ l yX6_waste (wsU yX6_waste cX6_waste 1 (some .long)) rmX6_waste 0 0 G [.ref a0] S post := by
  refine cn_open RX6 rfl (by decide +kernel) (Nat.le_of_ble_eq_true rfl) ?_
  intro p e s m args below meth c A X h hr hin ls hl
  have hl : lv_has ls 1 [(0, .ref a0)] := hl
  have hx := X.1
  have hb := X.2.1
  have hown := X.2.2.2.1
  unfold wpX6_waste at hw
  refine lv_aload_n hx hb dX6_waste_0 rfl (lv_at hl 0 rfl) ?_
  obtain ⟨k1, hw⟩ := hw
  refine r_getJ X h k1 8  (by decide) rfl inX6 (by decide) rfl q128 rfl dX6_waste_1 ?_
  exact (en_j X h hr hw (Nat.le_of_ble_eq_true rfl) (Nat.le_of_ble_eq_true rfl) dX6_waste_4)
abbrev rmX6_pages : Room := { frames := 7, cells := 1, slots := 6, locals := 112 }
def wpX6_pages (S : Mem) (a0 : Nat) (p1 : Int32) (post : Int32 → Mem → Prop) (px : Nat → Mem → Prop) : Prop := isK S a0 6 ∧ (wpX6_existingJob S a0 p1 (fun r3 S1 => ∃ o4, r3 = some o4 ∧ (isK S1 o4 1 ∧ (post (mI S1 o4 3) S1))) px)
set_option maxHeartbeats 4000000 in
set_option maxRecDepth 100000 in
theorem meX6_pages (l : Launch) (hl9 : l.stackTraces = false) (G : GT) (S : Mem) (a0 : Nat) (p1 : Int32) (post : Int32 → Mem → Prop) (px : Nat → Mem → Prop) (hw : wpX6_pages S a0 p1 post px) : CX emI l yX6_pages (wsU yX6_pages cX6_pages 2 (some .int)) rmX6_pages 1 6 G [.ref a0, .int p1] S post px := by
  refine cx_open RX6 rfl (by decide +kernel) (Nat.le_of_ble_eq_true rfl) ?_
  intro p e s m args below meth c A X h hr hno ls hl
  have hl : lv_has ls 2 [(0, .ref a0), (1, .int p1)] := hl
  have hx := X.1
  have hb := X.2.1
  have hown := X.2.2.2.1
  unfold wpX6_pages at hw
  refine lv_aload_n hx hb dX6_pages_0 rfl (lv_at hl 0 rfl) ?_
  refine lv_iload_n hx hb dX6_pages_1 rfl (lv_at hl 1 rfl) ?_
  obtain ⟨k2, hw⟩ := hw
  refine rx_V (As := [.int p1]) (rest := []) X h hno k2 (by decide) rfl (meX6_existingJob l hl9 G _ _ _ _ _ hw) gV_X6_109 rfl rfl hdV_X6_existingJob rfl ⟨Nat.le_of_ble_eq_true rfl, Nat.le_of_ble_eq_true rfl⟩ hl.1 rfl (Nat.le_of_ble_eq_true rfl) ⟨Nat.le_of_ble_eq_true rfl, Nat.le_of_ble_eq_true rfl⟩ ⟨Nat.le_of_ble_eq_true rfl, Nat.le_of_ble_eq_true rfl⟩ dX6_pages_2 (fun r3 S1 H locs hw h => ?_)
  obtain ⟨o4, rfl, hw⟩ := hw
  obtain ⟨k5, hw⟩ := hw
  refine r_getIN X h k5 3  (by decide) rfl inX1 (by decide) rfl q419 rfl dX6_pages_5 ?_
  exact vx_ret (en_i X h hr hw (Nat.le_of_ble_eq_true rfl) (Nat.le_of_ble_eq_true rfl) dX6_pages_8)
abbrev rmL_pages : Room := { frames := 8, cells := 1, slots := 6, locals := 133 }
def wpL_pages (S : Mem) (a0 : Nat) (p1 : Int32) (post : Int32 → Mem → Prop) : Prop := isK S a0 6 ∧ (wpX6_pages S a0 p1 (fun x3 S1 => post x3 S1) (fun k4 S5 => (k4 = 1 → (post (-77 : Int32) S5)) ∧ (k4 = 1)))
set_option maxHeartbeats 4000000 in
set_option maxRecDepth 100000 in
theorem meL_pages (l : Launch) (hl9 : l.stackTraces = false) (G : GT) (S : Mem) (a0 : Nat) (p1 : Int32) (post : Int32 → Mem → Prop) (hw : wpL_pages S a0 p1 post) : CN emI l yL_pages (wsH yL_pages cL_pages 3 (some .int) [(0, 5, 6, 26)]) rmL_pages 1 6 G [.ref a0, .int p1] S post := by
  refine ch_open RL rfl (by decide +kernel) (Nat.le_of_ble_eq_true rfl) ?_
  intro p e s m args below meth c A X h hr hTab ls hl
  have hl : lv_has ls 3 [(0, .ref a0), (1, .int p1)] := hl
  have hx := X.1
  have hb := X.2.1
  have hown := X.2.2.2.1
  unfold wpL_pages at hw
  refine lv_aload_n hx hb dL_pages_0 rfl (lv_at hl 0 rfl) ?_
  refine lv_iload_n hx hb dL_pages_1 rfl (lv_at hl 1 rfl) ?_
  obtain ⟨k2, hw⟩ := hw
  refine rx_VH (As := [.int p1]) (rest := []) X h k2 (by decide) rfl (meX6_pages l hl9 G _ _ _ _ _ hw) gV_L_45 rfl rfl hdV_X6_pages rfl ⟨Nat.le_of_ble_eq_true rfl, Nat.le_of_ble_eq_true rfl⟩ hl.1 rfl (Nat.le_of_ble_eq_true rfl) ⟨Nat.le_of_ble_eq_true rfl, Nat.le_of_ble_eq_true rfl⟩ dL_pages_2 (fun k4 S5 H locs q9 ce hw h hce hcv hcl => ?_) (fun x3 S1 H locs hw h => ?_)
  · rcases hw.2 with hk9
    · subst hk9
      have hw := hw.1 rfl
      refine vx_catch (own := RL) (name := "java/lang/IndexOutOfBoundsException") (E := xn 1) hown [] ⟨0, 5, 6, 26⟩ [] (by rw [hTab]; rfl) (fun z hz => nomatch hz) (by decide) (by decide) (X.hts q262) (va_Nw.use (by rfl) (X.nw q296)) hce hcv hcl ?_
      refine lv_astore_n (lv' := [(2, .ref q9), (0, .ref a0), (1, .int p1)]) hx hb dL_pages_6 rfl hl (by decide) rfl (fun ls hl => ?_)
      refine lv_bipush (v := (-77 : Int32)) hx hb dL_pages_7 (by decide) ?_
      exact (en_i X h hr hw (Nat.le_of_ble_eq_true rfl) (Nat.le_of_ble_eq_true rfl) dL_pages_9)
  · exact (en_i X h hr hw (Nat.le_of_ble_eq_true rfl) (Nat.le_of_ble_eq_true rfl) dL_pages_5)
abbrev rmX1_isComplete : Room := { frames := 0, cells := 0, slots := 0, locals := 0 }
def wpX1_isComplete (S : Mem) (a0 : Nat) (post : Int32 → Mem → Prop) : Prop := isK S a0 1 ∧ (((mI S a0 3) ≤ 0 → (vz_nar (nI 0) ∧ (post (nI 0) S))) ∧ (¬ (mI S a0 3) ≤ 0 → ((¬ (mI S a0 0) = (nI 119) → ((¬ ((mI S a0 3) - (mI S a0 3) / (nI 4) * (nI 4)) = 0 → (vz_nar (nI 0) ∧ (post (nI 0) S))) ∧ (((mI S a0 3) - (mI S a0 3) / (nI 4) * (nI 4)) = 0 → (vz_nar (nI 1) ∧ (post (nI 1) S))))) ∧ ((mI S a0 0) = (nI 119) → ((¬ ((mI S a0 3) - (mI S a0 3) / (nI 2) * (nI 2)) = 0 → (vz_nar (nI 0) ∧ (post (nI 0) S))) ∧ (((mI S a0 3) - (mI S a0 3) / (nI 2) * (nI 2)) = 0 → (vz_nar (nI 1) ∧ (post (nI 1) S))))))))
set_option maxHeartbeats 4000000 in
set_option maxRecDepth 100000 in
theorem meX1_isComplete (l : Launch) (G : GT) (S : Mem) (a0 : Nat) (post : Int32 → Mem → Prop) (hw : wpX1_isComplete S a0 post) : CN emI l yX1_isComplete (wsU yX1_isComplete cX1_isComplete 1 (some .boolean)) rmX1_isComplete 0 0 G [.ref a0] S post := by
  refine cn_open RX1 rfl (by decide +kernel) (Nat.le_of_ble_eq_true rfl) ?_
  intro p e s m args below meth c A X h hr hin ls hl
  have hl : lv_has ls 1 [(0, .ref a0)] := hl
  have hx := X.1
  have hb := X.2.1
  have hown := X.2.2.2.1
  unfold wpX1_isComplete at hw
  refine lv_aload_n hx hb dX1_isComplete_0 rfl (lv_at hl 0 rfl) ?_
  obtain ⟨k1, hw⟩ := hw
  refine r_getI X h k1 3  (by decide) rfl inX1 (by decide) rfl q418 rfl dX1_isComplete_1 ?_
  refine lv_if_le (tgt := 38) hx hb dX1_isComplete_4 (by decide) (fun c2 => ?_) (fun c2 => ?_)
  · have hw := hw.1 c2
    refine lv_iconst (v := (nI 0)) hx hb dX1_isComplete_38 (by decide) ?_
    obtain ⟨b3, hw⟩ := hw
    exact (en_z X h hr b3 hw (Nat.le_of_ble_eq_true rfl) (Nat.le_of_ble_eq_true rfl) dX1_isComplete_39)
  · have hw := hw.2 c2
    refine lv_aload_n hx hb dX1_isComplete_7 rfl (lv_at hl 0 rfl) ?_
    refine r_getI X h k1 0  (by decide) rfl inX1 (by decide) rfl q414 rfl dX1_isComplete_8 ?_
    refine lv_bipush (v := (nI 119)) hx hb dX1_isComplete_11 (by decide) ?_
    refine lv_icmp_ne (tgt := 25) hx hb dX1_isComplete_13 (by decide) (fun c4 => ?_) (fun c4 => ?_)
    · have hw := hw.1 c4
      refine lv_aload_n hx hb dX1_isComplete_25 rfl (lv_at hl 0 rfl) ?_
      refine r_getI X h k1 3  (by decide) rfl inX1 (by decide) rfl q418 rfl dX1_isComplete_26 ?_
      refine lv_iconst (v := (nI 4)) hx hb dX1_isComplete_29 (by decide) ?_
      refine lv_irem hx hb dX1_isComplete_30 (by decide) ?_
      refine lv_if_ne (tgt := 38) hx hb dX1_isComplete_31 (by decide) (fun c5 => ?_) (fun c5 => ?_)
      · have hw := hw.1 c5
        refine lv_iconst (v := (nI 0)) hx hb dX1_isComplete_38 (by decide) ?_
        obtain ⟨b6, hw⟩ := hw
        exact (en_z X h hr b6 hw (Nat.le_of_ble_eq_true rfl) (Nat.le_of_ble_eq_true rfl) dX1_isComplete_39)
      · have hw := hw.2 c5
        refine lv_iconst (v := (nI 1)) hx hb dX1_isComplete_34 (by decide) ?_
        refine lv_goto (tgt := 39) hx hb dX1_isComplete_35 (by decide) ?_
        obtain ⟨b7, hw⟩ := hw
        exact (en_z X h hr b7 hw (Nat.le_of_ble_eq_true rfl) (Nat.le_of_ble_eq_true rfl) dX1_isComplete_39)
    · have hw := hw.2 c4
      refine lv_aload_n hx hb dX1_isComplete_16 rfl (lv_at hl 0 rfl) ?_
      refine r_getI X h k1 3  (by decide) rfl inX1 (by decide) rfl q418 rfl dX1_isComplete_17 ?_
      refine lv_iconst (v := (nI 2)) hx hb dX1_isComplete_20 (by decide) ?_
      refine lv_irem hx hb dX1_isComplete_21 (by decide) ?_
      refine lv_goto (tgt := 31) hx hb dX1_isComplete_22 (by decide) ?_
      refine lv_if_ne (tgt := 38) hx hb dX1_isComplete_31 (by decide) (fun c8 => ?_) (fun c8 => ?_)
      · have hw := hw.1 c8
        refine lv_iconst (v := (nI 0)) hx hb dX1_isComplete_38 (by decide) ?_
        obtain ⟨b9, hw⟩ := hw
        exact (en_z X h hr b9 hw (Nat.le_of_ble_eq_true rfl) (Nat.le_of_ble_eq_true rfl) dX1_isComplete_39)
      · have hw := hw.2 c8
        refine lv_iconst (v := (nI 1)) hx hb dX1_isComplete_34 (by decide) ?_
        refine lv_goto (tgt := 39) hx hb dX1_isComplete_35 (by decide) ?_
        obtain ⟨b10, hw⟩ := hw
        exact (en_z X h hr b10 hw (Nat.le_of_ble_eq_true rfl) (Nat.le_of_ble_eq_true rfl) dX1_isComplete_39)
abbrev rmX6_requireComplete : Room := { frames := 6, cells := 1, slots := 6, locals := 90 }
def wpX6_requireComplete (S : Mem) (a0 : Nat) (post : Unit → Mem → Prop) (px : Nat → Mem → Prop) : Prop := isK S a0 1 ∧ (wpX1_isComplete S a0 (fun x3 S1 => (¬ x3 = 0 → (post () S1)) ∧ (x3 = 0 → (px 2 S1))))
set_option maxHeartbeats 4000000 in
set_option maxRecDepth 100000 in
theorem meX6_requireComplete (l : Launch) (hl9 : l.stackTraces = false) (G : GT) (S : Mem) (a0 : Nat) (post : Unit → Mem → Prop) (px : Nat → Mem → Prop) (hw : wpX6_requireComplete S a0 post px) : CX emV l yX6_requireComplete (wsU yX6_requireComplete cX6_requireComplete 1 none) rmX6_requireComplete 1 6 G [.ref a0] S post px := by
  refine cx_open RX6 rfl (by decide +kernel) (Nat.le_of_ble_eq_true rfl) ?_
  intro p e s m args below meth c A X h hr hno ls hl
  have hl : lv_has ls 1 [(0, .ref a0)] := hl
  have hx := X.1
  have hb := X.2.1
  have hown := X.2.2.2.1
  unfold wpX6_requireComplete at hw
  refine lv_aload_n hx hb dX6_requireComplete_0 rfl (lv_at hl 0 rfl) ?_
  obtain ⟨k2, hw⟩ := hw
  refine rc_V (As := []) (rest := []) X h k2 (by decide) rfl (meX1_isComplete l G _ _ _ hw) gV_X6_285 rfl rfl hdV_X1_isComplete rfl ⟨Nat.le_of_ble_eq_true rfl, Nat.le_of_ble_eq_true rfl⟩ hl.1 rfl (Nat.le_of_ble_eq_true rfl) ⟨Nat.le_of_ble_eq_true rfl, Nat.le_of_ble_eq_true rfl⟩ dX6_requireComplete_1 (fun x3 S1 H locs hw h => ?_)
  refine lv_if_ne (tgt := 18) hx hb dX6_requireComplete_4 (by decide) (fun c4 => ?_) (fun c4 => ?_)
  · have hw := hw.1 c4
    exact vx_ret (en_v X h hr hw (Nat.le_of_ble_eq_true rfl) (Nat.le_of_ble_eq_true rfl) dX6_requireComplete_18)
  · have hw := hw.2 c4
    exact en_xW 2 X h hl9 th_X6_289 hl.1 hno dX6_requireComplete_7 dX6_requireComplete_10 dX6_requireComplete_11 dX6_requireComplete_14 dX6_requireComplete_17 ⟨Nat.le_of_ble_eq_true rfl, Nat.le_of_ble_eq_true rfl⟩ ⟨Nat.le_of_ble_eq_true rfl, Nat.le_of_ble_eq_true rfl⟩ ⟨Nat.le_of_ble_eq_true rfl, Nat.le_of_ble_eq_true rfl⟩ hw
abbrev rmX6_completeJob : Room := { frames := 7, cells := 2, slots := 12, locals := 112 }
def wpX6_completeJob (S : Mem) (a0 : Nat) (p1 : Int32) (post : Option Nat → Mem → Prop) (px : Nat → Mem → Prop) : Prop := isK S a0 6 ∧ (wpX6_existingJob S a0 p1 (fun r3 S1 => ∃ o4, r3 = some o4 ∧ (wpX6_requireComplete S1 o4 (fun u6 S5 => post (some o4) S5) px)) px)
set_option maxHeartbeats 4000000 in
set_option maxRecDepth 100000 in
theorem meX6_completeJob (l : Launch) (hl9 : l.stackTraces = false) (G : GT) (S : Mem) (a0 : Nat) (p1 : Int32) (post : Option Nat → Mem → Prop) (px : Nat → Mem → Prop) (hw : wpX6_completeJob S a0 p1 post px) : CX emR l yX6_completeJob (wsU yX6_completeJob cX6_completeJob 3 (some (.object "BinderyDesk$Job"))) rmX6_completeJob 2 12 G [.ref a0, .int p1] S post px := by
  refine cx_open RX6 rfl (by decide +kernel) (Nat.le_of_ble_eq_true rfl) ?_
  intro p e s m args below meth c A X h hr hno ls hl
  have hl : lv_has ls 3 [(0, .ref a0), (1, .int p1)] := hl
  have hx := X.1
  have hb := X.2.1
  have hown := X.2.2.2.1
  unfold wpX6_completeJob at hw
  refine lv_aload_n hx hb dX6_completeJob_0 rfl (lv_at hl 0 rfl) ?_
  refine lv_iload_n hx hb dX6_completeJob_1 rfl (lv_at hl 1 rfl) ?_
  obtain ⟨k2, hw⟩ := hw
  refine rx_V (As := [.int p1]) (rest := []) X h hno k2 (by decide) rfl (meX6_existingJob l hl9 G _ _ _ _ _ hw) gV_X6_109 rfl rfl hdV_X6_existingJob rfl ⟨Nat.le_of_ble_eq_true rfl, Nat.le_of_ble_eq_true rfl⟩ hl.1 rfl (Nat.le_of_ble_eq_true rfl) ⟨Nat.le_of_ble_eq_true rfl, Nat.le_of_ble_eq_true rfl⟩ ⟨Nat.le_of_ble_eq_true rfl, Nat.le_of_ble_eq_true rfl⟩ dX6_completeJob_2 (fun r3 S1 H locs hw h => ?_)
  obtain ⟨o4, rfl, hw⟩ := hw
  refine lv_astore_n (lv' := [(2, .ref o4), (0, .ref a0), (1, .int p1)]) hx hb dX6_completeJob_5 rfl hl (by decide) rfl (fun ls hl => ?_)
  refine lv_aload_n hx hb dX6_completeJob_6 rfl (lv_at hl 0 rfl) ?_
  refine rx_S (As := [.ref o4]) (rest := []) X h hno (meX6_requireComplete l hl9 G _ _ _ _ hw) gS_X6_223 rfl rfl hdS_X6_requireComplete rfl ⟨Nat.le_of_ble_eq_true rfl, Nat.le_of_ble_eq_true rfl⟩ hl.1 rfl (Nat.le_of_ble_eq_true rfl) ⟨Nat.le_of_ble_eq_true rfl, Nat.le_of_ble_eq_true rfl⟩ ⟨Nat.le_of_ble_eq_true rfl, Nat.le_of_ble_eq_true rfl⟩ dX6_completeJob_7 (fun u6 S5 H locs hw h => ?_)
  refine lv_aload_n hx hb dX6_completeJob_10 rfl (lv_at hl 0 rfl) ?_
  exact vx_ret (en_r (r := (some o4)) X h rfl hr hw (Nat.le_of_ble_eq_true rfl) (Nat.le_of_ble_eq_true rfl) dX6_completeJob_11)
abbrev rmX1_sheetCount : Room := { frames := 0, cells := 0, slots := 0, locals := 0 }
def wpX1_sheetCount (S : Mem) (a0 : Nat) (post : Int32 → Mem → Prop) : Prop := isK S a0 1 ∧ ((¬ (mI S a0 0) = (nI 119) → (post ((mI S a0 3) / (nI 4)) S)) ∧ ((mI S a0 0) = (nI 119) → (post ((mI S a0 3) / (nI 2)) S)))
set_option maxHeartbeats 4000000 in
set_option maxRecDepth 100000 in
theorem meX1_sheetCount (l : Launch) (G : GT) (S : Mem) (a0 : Nat) (post : Int32 → Mem → Prop) (hw : wpX1_sheetCount S a0 post) : CN emI l yX1_sheetCount (wsU yX1_sheetCount cX1_sheetCount 1 (some .int)) rmX1_sheetCount 0 0 G [.ref a0] S post := by
  refine cn_open RX1 rfl (by decide +kernel) (Nat.le_of_ble_eq_true rfl) ?_
  intro p e s m args below meth c A X h hr hin ls hl
  have hl : lv_has ls 1 [(0, .ref a0)] := hl
  have hx := X.1
  have hb := X.2.1
  have hown := X.2.2.2.1
  unfold wpX1_sheetCount at hw
  refine lv_aload_n hx hb dX1_sheetCount_0 rfl (lv_at hl 0 rfl) ?_
  obtain ⟨k1, hw⟩ := hw
  refine r_getI X h k1 0  (by decide) rfl inX1 (by decide) rfl q414 rfl dX1_sheetCount_1 ?_
  refine lv_bipush (v := (nI 119)) hx hb dX1_sheetCount_4 (by decide) ?_
  refine lv_icmp_ne (tgt := 18) hx hb dX1_sheetCount_6 (by decide) (fun c2 => ?_) (fun c2 => ?_)
  · have hw := hw.1 c2
    refine lv_aload_n hx hb dX1_sheetCount_18 rfl (lv_at hl 0 rfl) ?_
    refine r_getI X h k1 3  (by decide) rfl inX1 (by decide) rfl q418 rfl dX1_sheetCount_19 ?_
    refine lv_iconst (v := (nI 4)) hx hb dX1_sheetCount_22 (by decide) ?_
    refine lv_idiv hx hb dX1_sheetCount_23 (by decide) ?_
    exact (en_i X h hr hw (Nat.le_of_ble_eq_true rfl) (Nat.le_of_ble_eq_true rfl) dX1_sheetCount_24)
  · have hw := hw.2 c2
    refine lv_aload_n hx hb dX1_sheetCount_9 rfl (lv_at hl 0 rfl) ?_
    refine r_getI X h k1 3  (by decide) rfl inX1 (by decide) rfl q418 rfl dX1_sheetCount_10 ?_
    refine lv_iconst (v := (nI 2)) hx hb dX1_sheetCount_13 (by decide) ?_
    refine lv_idiv hx hb dX1_sheetCount_14 (by decide) ?_
    refine lv_goto (tgt := 24) hx hb dX1_sheetCount_15 (by decide) ?_
    exact (en_i X h hr hw (Nat.le_of_ble_eq_true rfl) (Nat.le_of_ble_eq_true rfl) dX1_sheetCount_24)
