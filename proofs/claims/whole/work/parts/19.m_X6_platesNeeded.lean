abbrev rmX6_platesNeeded : Room := { frames := 8, cells := 2, slots := 12, locals := 134 }
def wlX6_platesNeeded_19 (a0 : Nat) (p1 : Int32) (o4 : Nat) (x8 : Int32) (post : Int32 → Mem → Prop) (px : Nat → Mem → Prop)  : Nat → Int32 → Int32 → Mem → Prop
  | 0 => fun _ _ _ => False
  | n + 1 => fun w3 w5 S => (x8 ≤ w5 → (post w3 S)) ∧ (¬ x8 ≤ w5 → (isK S a0 6 ∧ (wpX6_plateFor S a0 o4 (w5 / (nI 2)) (w5 - w5 / (nI 2) * (nI 2)) (fun x12 S10 => isK S10 a0 6 ∧ (∃ o14, mR S10 a0 3 = some o14 ∧ (isK S10 o14 4 ∧ (wpX4_has S10 o14 x12 (fun x17 S15 => (¬ x17 = 0 → (∀ x19 : Int32, x19 = (w5 + (nI 1)) → (wlX6_platesNeeded_19 a0 p1 o4 x8 post px n w3 x19 S15))) ∧ (x17 = 0 → (isK S15 a0 6 ∧ (wpX6_isOnEarlierSide S15 a0 o4 w5 x12 (fun x22 S20 => (¬ x22 = 0 → (∀ x24 : Int32, x24 = (w5 + (nI 1)) → (wlX6_platesNeeded_19 a0 p1 o4 x8 post px n w3 x24 S20))) ∧ (x22 = 0 → (∀ x25 : Int32, x25 = (w3 + (nI 1)) → (∀ x26 : Int32, x26 = (w5 + (nI 1)) → (wlX6_platesNeeded_19 a0 p1 o4 x8 post px n x25 x26 S20))))))))))))))))
set_option maxHeartbeats 4000000 in
set_option maxRecDepth 100000 in
theorem llX6_platesNeeded_19 {p : Program} {l : Launch} {e : Env} {s : State} {m : MethodId} {args : Array Value} {below : List Frame} {meth : Method} {c : Code} {G : GT} {A : Nat → Prop} (hl9 : l.stackTraces = false) (hno : ∀ x ∈ c.exceptionTable.toList, False) (X : Cx p s m args meth c cX6_platesNeeded 7 RX6 G A) (hr : meth.sig.returnType = (some .int)) (a0 : Nat) (p1 : Int32) (o4 : Nat) (x8 : Int32) (post : Int32 → Mem → Prop) (px : Nat → Mem → Prop)   : ∀ (n : Nat) (w3 : Int32) (w5 : Int32) (S : Mem), wlX6_platesNeeded_19 a0 p1 o4 x8 post px n w3 w5 S → ∀ (H : Heap) (locs : List Loc) (ls : Array Slot), Hx G A s.heap H locs S → lv_has ls 7 [(0, .ref a0), (1, .int p1), (2, .ref o4), (3, .int w3), (4, .int x8), (5, .int w5)] → W p l e rmX6_platesNeeded s m args below meth c H locs 2 12 (vx_MQ below (QN emI post G A) (QX px G A) args s 2 12 A) (F0 m 19 ls []) := by
  have hx := X.1
  have hb := X.2.1
  have hown := X.2.2.2.1
  intro n
  induction n with
  | zero =>
    intro _ _ _ hw
    exact hw.elim
  | succ n ih =>
    intro w3 w5 S hw H locs ls h hl
    refine lv_iload hx hb dX6_platesNeeded_19 (lv_at hl 5 rfl) ?_
    refine lv_iload hx hb dX6_platesNeeded_21 (lv_at hl 4 rfl) ?_
    refine lv_icmp_ge (tgt := 74) hx hb dX6_platesNeeded_23 (by decide) (fun c9 => ?_) (fun c9 => ?_)
    · have hw := hw.1 c9
      refine lv_iload_n hx hb dX6_platesNeeded_74 rfl (lv_at hl 3 rfl) ?_
      exact vx_ret (en_i X h hr hw (Nat.le_of_ble_eq_true rfl) (Nat.le_of_ble_eq_true rfl) dX6_platesNeeded_75)
    · have hw := hw.2 c9
      refine lv_aload_n hx hb dX6_platesNeeded_26 rfl (lv_at hl 0 rfl) ?_
      refine lv_aload_n hx hb dX6_platesNeeded_27 rfl (lv_at hl 2 rfl) ?_
      refine lv_iload hx hb dX6_platesNeeded_28 (lv_at hl 5 rfl) ?_
      refine lv_iconst (v := (nI 2)) hx hb dX6_platesNeeded_30 (by decide) ?_
      refine lv_idiv hx hb dX6_platesNeeded_31 (by decide) ?_
      refine lv_iload hx hb dX6_platesNeeded_32 (lv_at hl 5 rfl) ?_
      refine lv_iconst (v := (nI 2)) hx hb dX6_platesNeeded_34 (by decide) ?_
      refine lv_irem hx hb dX6_platesNeeded_35 (by decide) ?_
      obtain ⟨k11, hw⟩ := hw
      refine rc_V (As := [.ref o4, .int (w5 / (nI 2)), .int (w5 - w5 / (nI 2) * (nI 2))]) (rest := []) X h k11 (by decide) rfl (meX6_plateFor l G _ _ _ _ _ _ hw) gV_X6_165 rfl rfl hdV_X6_plateFor rfl ⟨Nat.le_of_ble_eq_true rfl, Nat.le_of_ble_eq_true rfl⟩ hl.1 rfl (Nat.le_of_ble_eq_true rfl) ⟨Nat.le_of_ble_eq_true rfl, Nat.le_of_ble_eq_true rfl⟩ dX6_platesNeeded_36 (fun x12 S10 H locs hw h => ?_)
      refine lv_istore (lv' := [(6, .int x12), (0, .ref a0), (1, .int p1), (2, .ref o4), (3, .int w3), (4, .int x8), (5, .int w5)]) hx hb dX6_platesNeeded_39 hl (by decide) rfl (fun ls hl => ?_)
      refine lv_aload_n hx hb dX6_platesNeeded_41 rfl (lv_at hl 1 rfl) ?_
      obtain ⟨k13, hw⟩ := hw
      obtain ⟨o14, eo14, hw⟩ := hw
      refine r_getR X h k13 3 eo14  (by decide) rfl inX6 (by decide) rfl q144 rfl dX6_platesNeeded_42 ?_
      refine lv_iload hx hb dX6_platesNeeded_45 (lv_at hl 0 rfl) ?_
      obtain ⟨k16, hw⟩ := hw
      refine rc_V (As := [.int x12]) (rest := []) X h k16 (by decide) rfl (meX4_has l G _ _ _ _ hw) gV_X6_216 rfl rfl hdV_X4_has rfl ⟨Nat.le_of_ble_eq_true rfl, Nat.le_of_ble_eq_true rfl⟩ hl.1 rfl (Nat.le_of_ble_eq_true rfl) ⟨Nat.le_of_ble_eq_true rfl, Nat.le_of_ble_eq_true rfl⟩ dX6_platesNeeded_47 (fun x17 S15 H locs hw h => ?_)
      refine lv_if_ne (tgt := 68) hx hb dX6_platesNeeded_50 (by decide) (fun c18 => ?_) (fun c18 => ?_)
      · have hw := hw.1 c18
        obtain ⟨x19, ex19⟩ : ∃ y : Int32, y = (w5 + (nI 1)) := ⟨_, rfl⟩
        have hw := hw x19 ex19
        refine lv_iinc (v := x19) (lv' := [(5, .int x19), (6, .int x12), (0, .ref a0), (1, .int p1), (2, .ref o4), (3, .int w3), (4, .int x8)]) hx hb dX6_platesNeeded_68 hl (k := 6) rfl (by rw [ex19]; rfl) (by decide) rfl (fun ls hl => ?_)
        refine lv_goto (tgt := 19) hx hb dX6_platesNeeded_71 (by decide) ?_
        exact ih _ _ _ hw _ _ _ h (lv_sub hl [2, 3, 4, 5, 6, 0] rfl)
      · have hw := hw.2 c18
        refine lv_aload_n hx hb dX6_platesNeeded_53 rfl (lv_at hl 1 rfl) ?_
        refine lv_aload_n hx hb dX6_platesNeeded_54 rfl (lv_at hl 3 rfl) ?_
        refine lv_iload hx hb dX6_platesNeeded_55 (lv_at hl 6 rfl) ?_
        refine lv_iload hx hb dX6_platesNeeded_57 (lv_at hl 0 rfl) ?_
        obtain ⟨k21, hw⟩ := hw
        refine rc_V (As := [.ref o4, .int w5, .int x12]) (rest := []) X h k21 (by decide) rfl (meX6_isOnEarlierSide l G _ _ _ _ _ _ hw) gV_X6_219 rfl rfl hdV_X6_isOnEarlierSide rfl ⟨Nat.le_of_ble_eq_true rfl, Nat.le_of_ble_eq_true rfl⟩ hl.1 rfl (Nat.le_of_ble_eq_true rfl) ⟨Nat.le_of_ble_eq_true rfl, Nat.le_of_ble_eq_true rfl⟩ dX6_platesNeeded_59 (fun x22 S20 H locs hw h => ?_)
        refine lv_if_ne (tgt := 68) hx hb dX6_platesNeeded_62 (by decide) (fun c23 => ?_) (fun c23 => ?_)
        · have hw := hw.1 c23
          obtain ⟨x24, ex24⟩ : ∃ y : Int32, y = (w5 + (nI 1)) := ⟨_, rfl⟩
          have hw := hw x24 ex24
          refine lv_iinc (v := x24) (lv' := [(5, .int x24), (6, .int x12), (0, .ref a0), (1, .int p1), (2, .ref o4), (3, .int w3), (4, .int x8)]) hx hb dX6_platesNeeded_68 hl (k := 6) rfl (by rw [ex24]; rfl) (by decide) rfl (fun ls hl => ?_)
          refine lv_goto (tgt := 19) hx hb dX6_platesNeeded_71 (by decide) ?_
          exact ih _ _ _ hw _ _ _ h (lv_sub hl [2, 3, 4, 5, 6, 0] rfl)
        · have hw := hw.2 c23
          obtain ⟨x25, ex25⟩ : ∃ y : Int32, y = (w3 + (nI 1)) := ⟨_, rfl⟩
          have hw := hw x25 ex25
          refine lv_iinc (v := x25) (lv' := [(3, .int x25), (6, .int x12), (0, .ref a0), (1, .int p1), (2, .ref o4), (4, .int x8), (5, .int w5)]) hx hb dX6_platesNeeded_65 hl (k := 4) rfl (by rw [ex25]; rfl) (by decide) rfl (fun ls hl => ?_)
          obtain ⟨x26, ex26⟩ : ∃ y : Int32, y = (w5 + (nI 1)) := ⟨_, rfl⟩
          have hw := hw x26 ex26
          refine lv_iinc (v := x26) (lv' := [(5, .int x26), (3, .int x25), (6, .int x12), (0, .ref a0), (1, .int p1), (2, .ref o4), (4, .int x8)]) hx hb dX6_platesNeeded_68 hl (k := 6) rfl (by rw [ex26]; rfl) (by decide) rfl (fun ls hl => ?_)
          refine lv_goto (tgt := 19) hx hb dX6_platesNeeded_71 (by decide) ?_
          exact ih _ _ _ hw _ _ _ h (lv_sub hl [3, 4, 5, 1, 6, 0] rfl)
def wpX6_platesNeeded (S : Mem) (a0 : Nat) (p1 : Int32) (post : Int32 → Mem → Prop) (px : Nat → Mem → Prop) : Prop := isK S a0 6 ∧ (wpX6_completeJob S a0 p1 (fun r3 S1 => ∃ o4, r3 = some o4 ∧ (isK S1 o4 1 ∧ (wpX1_sheetCount S1 o4 (fun x7 S5 => ∀ x8 : Int32, x8 = ((nI 2) * x7) → (∃ m, wlX6_platesNeeded_19 a0 p1 o4 x8 post px m (nI 0) (nI 0) S5))))) px)
set_option maxHeartbeats 4000000 in
set_option maxRecDepth 100000 in
theorem meX6_platesNeeded (l : Launch) (hl9 : l.stackTraces = false) (G : GT) (S : Mem) (a0 : Nat) (p1 : Int32) (post : Int32 → Mem → Prop) (px : Nat → Mem → Prop) (hw : wpX6_platesNeeded S a0 p1 post px) : CX emI l yX6_platesNeeded (wsU yX6_platesNeeded cX6_platesNeeded 7 (some .int)) rmX6_platesNeeded 2 12 G [.ref a0, .int p1] S post px := by
  refine cx_open RX6 rfl (by decide +kernel) (Nat.le_of_ble_eq_true rfl) ?_
  intro p e s m args below meth c A X h hr hno ls hl
  have hl : lv_has ls 7 [(0, .ref a0), (1, .int p1)] := hl
  have hx := X.1
  have hb := X.2.1
  have hown := X.2.2.2.1
  unfold wpX6_platesNeeded at hw
  refine lv_aload_n hx hb dX6_platesNeeded_0 rfl (lv_at hl 0 rfl) ?_
  refine lv_iload_n hx hb dX6_platesNeeded_1 rfl (lv_at hl 1 rfl) ?_
  obtain ⟨k2, hw⟩ := hw
  refine rx_V (As := [.int p1]) (rest := []) X h hno k2 (by decide) rfl (meX6_completeJob l hl9 G _ _ _ _ _ hw) gV_X6_121 rfl rfl hdV_X6_completeJob rfl ⟨Nat.le_of_ble_eq_true rfl, Nat.le_of_ble_eq_true rfl⟩ hl.1 rfl (Nat.le_of_ble_eq_true rfl) ⟨Nat.le_of_ble_eq_true rfl, Nat.le_of_ble_eq_true rfl⟩ ⟨Nat.le_of_ble_eq_true rfl, Nat.le_of_ble_eq_true rfl⟩ dX6_platesNeeded_2 (fun r3 S1 H locs hw h => ?_)
  obtain ⟨o4, rfl, hw⟩ := hw
  refine lv_astore_n (lv' := [(2, .ref o4), (0, .ref a0), (1, .int p1)]) hx hb dX6_platesNeeded_5 rfl hl (by decide) rfl (fun ls hl => ?_)
  refine lv_iconst (v := (nI 0)) hx hb dX6_platesNeeded_6 (by decide) ?_
  refine lv_istore_n (lv' := [(3, .int (nI 0)), (2, .ref o4), (0, .ref a0), (1, .int p1)]) hx hb dX6_platesNeeded_7 rfl hl (by decide) rfl (fun ls hl => ?_)
  refine lv_iconst (v := (nI 2)) hx hb dX6_platesNeeded_8 (by decide) ?_
  refine lv_aload_n hx hb dX6_platesNeeded_9 rfl (lv_at hl 1 rfl) ?_
  obtain ⟨k6, hw⟩ := hw
  refine rc_V (As := []) (rest := [.int (nI 2)]) X h k6 (by decide) rfl (meX1_sheetCount l G _ _ _ hw) gV_X6_124 rfl rfl hdV_X1_sheetCount rfl ⟨Nat.le_of_ble_eq_true rfl, Nat.le_of_ble_eq_true rfl⟩ hl.1 rfl (Nat.le_of_ble_eq_true rfl) ⟨Nat.le_of_ble_eq_true rfl, Nat.le_of_ble_eq_true rfl⟩ dX6_platesNeeded_10 (fun x7 S5 H locs hw h => ?_)
  refine lv_imul hx hb dX6_platesNeeded_13 ?_
  refine lv_topi (fun x8 ex8 => ?_)
  have hw := hw x8 ex8
  refine lv_istore (lv' := [(4, .int x8), (3, .int (nI 0)), (2, .ref o4), (0, .ref a0), (1, .int p1)]) hx hb dX6_platesNeeded_14 hl (by decide) rfl (fun ls hl => ?_)
  refine lv_iconst (v := (nI 0)) hx hb dX6_platesNeeded_16 (by decide) ?_
  refine lv_istore (lv' := [(5, .int (nI 0)), (4, .int x8), (3, .int (nI 0)), (2, .ref o4), (0, .ref a0), (1, .int p1)]) hx hb dX6_platesNeeded_17 hl (by decide) rfl (fun ls hl => ?_)
  obtain ⟨n27, hw⟩ := hw
  exact llX6_platesNeeded_19 hl9 hno X hr _ _ _ _ _ _ n27 _ _ _ hw _ _ _ h (lv_sub hl [4, 5, 3, 2, 1, 0] rfl)
abbrev rmL_platesNeeded : Room := { frames := 9, cells := 2, slots := 12, locals := 160 }
def wpL_platesNeeded (S : Mem) (a0 : Nat) (p1 : Int32) (a2 : Nat) (post : Int32 → Mem → Prop) : Prop := isK S a0 6 ∧ (wpX6_platesNeeded S a0 p1 (fun x3 S1 => isK S1 a2 12 ∧ (vp_in (nI 0) (mN S1 a2) ∧ (∀ S8 : Mem, S8 = (sJ S1 a2 (nI 0).toNatClampNeg x3.toInt64) → (post (nI 0) S8)))) (fun k4 S5 => (k4 = 1 → (post (nI 1) S5)) ∧ (k4 = 2 → (post (nI 2) S5)) ∧ (k4 = 1 ∨ k4 = 2)))
set_option maxHeartbeats 4000000 in
set_option maxRecDepth 100000 in
theorem meL_platesNeeded (l : Launch) (hl9 : l.stackTraces = false) (G : GT) (S : Mem) (a0 : Nat) (p1 : Int32) (a2 : Nat) (post : Int32 → Mem → Prop) (hw : wpL_platesNeeded S a0 p1 a2 post) : CN emI l yL_platesNeeded (wsH yL_platesNeeded cL_platesNeeded 4 (some .int) [(0, 9, 12, 19), (0, 9, 15, 13)]) rmL_platesNeeded 2 12 G [.ref a0, .int p1, .ref a2] S post := by
  refine ch_open RL rfl (by decide +kernel) (Nat.le_of_ble_eq_true rfl) ?_
  intro p e s m args below meth c A X h hr hTab ls hl
  have hl : lv_has ls 4 [(0, .ref a0), (1, .int p1), (2, .ref a2)] := hl
  have hx := X.1
  have hb := X.2.1
  have hown := X.2.2.2.1
  unfold wpL_platesNeeded at hw
  refine lv_aload_n hx hb dL_platesNeeded_0 rfl (lv_at hl 2 rfl) ?_
  refine lv_iconst (v := (nI 0)) hx hb dL_platesNeeded_1 (by decide) ?_
  refine lv_aload_n hx hb dL_platesNeeded_2 rfl (lv_at hl 0 rfl) ?_
  refine lv_iload_n hx hb dL_platesNeeded_3 rfl (lv_at hl 1 rfl) ?_
  obtain ⟨k2, hw⟩ := hw
  refine rx_VH (As := [.int p1]) (rest := [.int (nI 0), .ref a2]) X h k2 (by decide) rfl (meX6_platesNeeded l hl9 G _ _ _ _ _ hw) gV_L_70 rfl rfl hdV_X6_platesNeeded rfl ⟨Nat.le_of_ble_eq_true rfl, Nat.le_of_ble_eq_true rfl⟩ hl.1 rfl (Nat.le_of_ble_eq_true rfl) ⟨Nat.le_of_ble_eq_true rfl, Nat.le_of_ble_eq_true rfl⟩ dL_platesNeeded_4 (fun k4 S5 H locs q9 ce hw h hce hcv hcl => ?_) (fun x3 S1 H locs hw h => ?_)
  · rcases hw.2.2 with hk9 | hk9
    · subst hk9
      have hw := hw.1 rfl
      refine vx_catch (own := RL) (name := "java/lang/IndexOutOfBoundsException") (E := xn 1) hown [] ⟨0, 9, 12, 19⟩ [⟨0, 9, 15, 13⟩] (by rw [hTab]; rfl) (fun z hz => nomatch hz) (by decide) (by decide) (X.hts q277) (va_Nw.use (by rfl) (X.nw q311)) hce hcv hcl ?_
      refine lv_astore_n (lv' := [(3, .ref q9), (0, .ref a0), (1, .int p1), (2, .ref a2)]) hx hb dL_platesNeeded_12 rfl hl (by decide) rfl (fun ls hl => ?_)
      refine lv_iconst (v := (nI 1)) hx hb dL_platesNeeded_13 (by decide) ?_
      exact (en_i X h hr hw (Nat.le_of_ble_eq_true rfl) (Nat.le_of_ble_eq_true rfl) dL_platesNeeded_14)
    · subst hk9
      have hw := hw.2.1 rfl
      have hpass2 : ∀ z ∈ ([⟨0, 9, 12, 19⟩] : List ExceptionTableEntry), covers z 4 = false ∨ (z.catchType ≠ 0 ∧ ∃ nm : String, (Cond.classLink RL z.catchType nm).before args s = true ∧ va_Nc (xn 2) nm s) := by
        intro z hz
        rcases List.mem_cons.mp hz with rfl | hz
        · exact Or.inr ⟨by decide, "java/lang/IndexOutOfBoundsException", X.hts q277, X.2.2.2.2.2.2.1.2.2.2.2.1 ("java/lang/IllegalStateException", "java/lang/IndexOutOfBoundsException") (by decide +kernel)⟩
        cases hz
      refine vx_catch (own := RL) (name := "java/lang/IllegalStateException") (E := xn 2) hown [⟨0, 9, 12, 19⟩] ⟨0, 9, 15, 13⟩ [] (by rw [hTab]; rfl) (hpass2) (by decide) (by decide) (X.hts q193) (va_Nw.use (by rfl) (X.nw q200)) hce hcv hcl ?_
      refine lv_astore_n (lv' := [(3, .ref q9), (0, .ref a0), (1, .int p1), (2, .ref a2)]) hx hb dL_platesNeeded_15 rfl hl (by decide) rfl (fun ls hl => ?_)
      refine lv_iconst (v := (nI 2)) hx hb dL_platesNeeded_16 (by decide) ?_
      exact (en_i X h hr hw (Nat.le_of_ble_eq_true rfl) (Nat.le_of_ble_eq_true rfl) dL_platesNeeded_17)
  · refine lv_i2l (v := x3.toInt64) hx hb dL_platesNeeded_7 rfl ?_
    obtain ⟨k6, hw⟩ := hw
    obtain ⟨v7, hw⟩ := hw
    refine r_last X h k6 v7 dL_platesNeeded_8 (fun H locs h => ?_)
    obtain ⟨S8, eS8⟩ : ∃ z : Mem, z = (sJ S1 a2 (nI 0).toNatClampNeg x3.toInt64) := ⟨_, rfl⟩
    rw [← eS8] at h
    have hw := hw S8 eS8
    refine lv_goto (tgt := 18) hx hb dL_platesNeeded_9 (by decide) ?_
    refine lv_iconst (v := (nI 0)) hx hb dL_platesNeeded_18 (by decide) ?_
    exact (en_i X h hr hw (Nat.le_of_ble_eq_true rfl) (Nat.le_of_ble_eq_true rfl) dL_platesNeeded_19)
abbrev rmX7_platesNeeded : Room := { frames := 3, cells := 0, slots := 0, locals := 70 }
def wlX7_platesNeeded_17 (a0 : Nat) (p1 : Int32) (x6 : Int32) (post : Int32 → Mem → Prop)  : Nat → Int32 → Mem → Prop
  | 0 => fun _ _ => False
  | n + 1 => fun w3 S => isK S a0 7 ∧ (wpX7_count S a0 p1 (fun x9 S7 => (x9 ≤ w3 → (isK S7 a0 7 ∧ (∀ x12 : Int32, x12 = ((mI S7 a0 4) - x6) → (∀ S13 : Mem, S13 = (sI S7 a0 4 x6) → (post x12 S13))))) ∧ (¬ x9 ≤ w3 → (isK S7 a0 7 ∧ (wpX7_plateOf S7 a0 p1 w3 (nI 1) (fun x16 S14 => isK S14 a0 7 ∧ (wpX7_makes S14 a0 x16 (fun u19 S17 => isK S17 a0 7 ∧ (wpX7_plateOf S17 a0 p1 w3 (nI 0) (fun x22 S20 => isK S20 a0 7 ∧ (wpX7_makes S20 a0 x22 (fun u25 S23 => ∀ x26 : Int32, x26 = (w3 + (nI 1)) → (wlX7_platesNeeded_17 a0 p1 x6 post n x26 S23)))))))))))))
set_option maxHeartbeats 4000000 in
set_option maxRecDepth 100000 in
theorem llX7_platesNeeded_17 {p : Program} {l : Launch} {e : Env} {s : State} {m : MethodId} {args : Array Value} {below : List Frame} {meth : Method} {c : Code} {G : GT} {A : Nat → Prop} (X : Cx p s m args meth c cX7_platesNeeded 4 RX7 G A) (hr : meth.sig.returnType = (some .int)) (a0 : Nat) (p1 : Int32) (x6 : Int32) (post : Int32 → Mem → Prop)   : ∀ (n : Nat) (w3 : Int32) (S : Mem), wlX7_platesNeeded_17 a0 p1 x6 post n w3 S → ∀ (H : Heap) (locs : List Loc) (ls : Array Slot), Hx G A s.heap H locs S → lv_has ls 4 [(0, .ref a0), (1, .int p1), (2, .int x6), (3, .int w3)] → W p l e rmX7_platesNeeded s m args below meth c H locs 0 0 (MQ below (QN emI post G A) args s 0 0 A) (F0 m 17 ls []) := by
  have hx := X.1
  have hb := X.2.1
  have hown := X.2.2.2.1
  intro n
  induction n with
  | zero =>
    intro _ _ hw
    exact hw.elim
  | succ n ih =>
    intro w3 S hw H locs ls h hl
    refine lv_iload_n hx hb dX7_platesNeeded_17 rfl (lv_at hl 3 rfl) ?_
    refine lv_aload_n hx hb dX7_platesNeeded_18 rfl (lv_at hl 0 rfl) ?_
    refine lv_iload_n hx hb dX7_platesNeeded_19 rfl (lv_at hl 1 rfl) ?_
    obtain ⟨k8, hw⟩ := hw
    refine rc_V (As := [.int p1]) (rest := [.int w3]) X h k8 (by decide) rfl (meX7_count l G _ _ _ _ hw) gV_X7_78 rfl rfl hdV_X7_count rfl ⟨Nat.le_of_ble_eq_true rfl, Nat.le_of_ble_eq_true rfl⟩ hl.1 rfl (Nat.le_of_ble_eq_true rfl) ⟨Nat.le_of_ble_eq_true rfl, Nat.le_of_ble_eq_true rfl⟩ dX7_platesNeeded_20 (fun x9 S7 H locs hw h => ?_)
    refine lv_icmp_ge (tgt := 54) hx hb dX7_platesNeeded_23 (by decide) (fun c10 => ?_) (fun c10 => ?_)
    · have hw := hw.1 c10
      refine lv_aload_n hx hb dX7_platesNeeded_54 rfl (lv_at hl 0 rfl) ?_
      obtain ⟨k11, hw⟩ := hw
      refine r_getI X h k11 4  (by decide) rfl inX7 (by decide) rfl q852 rfl dX7_platesNeeded_55 ?_
      refine lv_iload_n hx hb dX7_platesNeeded_58 rfl (lv_at hl 2 rfl) ?_
      refine lv_isub hx hb dX7_platesNeeded_59 ?_
      refine lv_topi (fun x12 ex12 => ?_)
      have hw := hw x12 ex12
      refine lv_istore_n (lv' := [(3, .int x12), (0, .ref a0), (1, .int p1), (2, .int x6)]) hx hb dX7_platesNeeded_60 rfl hl (by decide) rfl (fun ls hl => ?_)
      refine lv_aload_n hx hb dX7_platesNeeded_61 rfl (lv_at hl 1 rfl) ?_
      refine lv_iload_n hx hb dX7_platesNeeded_62 rfl (lv_at hl 3 rfl) ?_
      refine r_putI X h k11 4 (by decide) rfl inX7 tyX7 tyX7_ok nmX7 (by decide) rfl (Nat.le_of_ble_eq_true rfl) q852 rfl rfl (tyX7_ok 4 (by decide)) rfl rfl dX7_platesNeeded_63 (fun H locs h => ?_)
      obtain ⟨S13, eS13⟩ : ∃ z : Mem, z = (sI S7 a0 4 x6) := ⟨_, rfl⟩
      rw [← eS13] at h
      have hw := hw S13 eS13
      refine lv_iload_n hx hb dX7_platesNeeded_66 rfl (lv_at hl 0 rfl) ?_
      exact (en_i X h hr hw (Nat.le_of_ble_eq_true rfl) (Nat.le_of_ble_eq_true rfl) dX7_platesNeeded_67)
    · have hw := hw.2 c10
      refine lv_aload_n hx hb dX7_platesNeeded_26 rfl (lv_at hl 0 rfl) ?_
      refine lv_aload_n hx hb dX7_platesNeeded_27 rfl (lv_at hl 0 rfl) ?_
      refine lv_iload_n hx hb dX7_platesNeeded_28 rfl (lv_at hl 1 rfl) ?_
      refine lv_iload_n hx hb dX7_platesNeeded_29 rfl (lv_at hl 3 rfl) ?_
      refine lv_iconst (v := (nI 1)) hx hb dX7_platesNeeded_30 (by decide) ?_
      obtain ⟨k15, hw⟩ := hw
      refine rc_V (As := [.int p1, .int w3, .int (nI 1)]) (rest := [.ref a0]) X h k15 (by decide) rfl (meX7_plateOf l G _ _ _ _ _ _ hw) gV_X7_118 rfl rfl hdV_X7_plateOf rfl ⟨Nat.le_of_ble_eq_true rfl, Nat.le_of_ble_eq_true rfl⟩ hl.1 rfl (Nat.le_of_ble_eq_true rfl) ⟨Nat.le_of_ble_eq_true rfl, Nat.le_of_ble_eq_true rfl⟩ dX7_platesNeeded_31 (fun x16 S14 H locs hw h => ?_)
      obtain ⟨k18, hw⟩ := hw
      refine rc_V (As := [.int x16]) (rest := []) X h k18 (by decide) rfl (meX7_makes l G _ _ _ _ hw) gV_X7_134 rfl rfl hdV_X7_makes rfl ⟨Nat.le_of_ble_eq_true rfl, Nat.le_of_ble_eq_true rfl⟩ hl.1 rfl (Nat.le_of_ble_eq_true rfl) ⟨Nat.le_of_ble_eq_true rfl, Nat.le_of_ble_eq_true rfl⟩ dX7_platesNeeded_34 (fun u19 S17 H locs hw h => ?_)
      refine lv_aload_n hx hb dX7_platesNeeded_37 rfl (lv_at hl 0 rfl) ?_
      refine lv_aload_n hx hb dX7_platesNeeded_38 rfl (lv_at hl 0 rfl) ?_
      refine lv_iload_n hx hb dX7_platesNeeded_39 rfl (lv_at hl 1 rfl) ?_
      refine lv_iload_n hx hb dX7_platesNeeded_40 rfl (lv_at hl 3 rfl) ?_
      refine lv_iconst (v := (nI 0)) hx hb dX7_platesNeeded_41 (by decide) ?_
      obtain ⟨k21, hw⟩ := hw
      refine rc_V (As := [.int p1, .int w3, .int (nI 0)]) (rest := [.ref a0]) X h k21 (by decide) rfl (meX7_plateOf l G _ _ _ _ _ _ hw) gV_X7_118 rfl rfl hdV_X7_plateOf rfl ⟨Nat.le_of_ble_eq_true rfl, Nat.le_of_ble_eq_true rfl⟩ hl.1 rfl (Nat.le_of_ble_eq_true rfl) ⟨Nat.le_of_ble_eq_true rfl, Nat.le_of_ble_eq_true rfl⟩ dX7_platesNeeded_42 (fun x22 S20 H locs hw h => ?_)
      obtain ⟨k24, hw⟩ := hw
      refine rc_V (As := [.int x22]) (rest := []) X h k24 (by decide) rfl (meX7_makes l G _ _ _ _ hw) gV_X7_134 rfl rfl hdV_X7_makes rfl ⟨Nat.le_of_ble_eq_true rfl, Nat.le_of_ble_eq_true rfl⟩ hl.1 rfl (Nat.le_of_ble_eq_true rfl) ⟨Nat.le_of_ble_eq_true rfl, Nat.le_of_ble_eq_true rfl⟩ dX7_platesNeeded_45 (fun u25 S23 H locs hw h => ?_)
      obtain ⟨x26, ex26⟩ : ∃ y : Int32, y = (w3 + (nI 1)) := ⟨_, rfl⟩
      have hw := hw x26 ex26
      refine lv_iinc (v := x26) (lv' := [(3, .int x26), (0, .ref a0), (1, .int p1), (2, .int x6)]) hx hb dX7_platesNeeded_48 hl (k := 3) rfl (by rw [ex26]; rfl) (by decide) rfl (fun ls hl => ?_)
      refine lv_goto (tgt := 17) hx hb dX7_platesNeeded_51 (by decide) ?_
      exact ih _ _ hw _ _ _ h (lv_sub hl [1, 2, 3, 0] rfl)
def wpX7_platesNeeded (S : Mem) (a0 : Nat) (p1 : Int32) (post : Int32 → Mem → Prop) : Prop := isK S a0 7 ∧ (wpX7_isJob S a0 p1 (fun x3 S1 => (¬ x3 = 0 → (isK S1 a0 7 ∧ (∀ x6 : Int32, x6 = (mI S1 a0 4) → (∃ m, wlX7_platesNeeded_17 a0 p1 x6 post m (nI 0) S1)))) ∧ (x3 = 0 → (post (nI 0) S1))))
set_option maxHeartbeats 4000000 in
set_option maxRecDepth 100000 in
theorem meX7_platesNeeded (l : Launch) (G : GT) (S : Mem) (a0 : Nat) (p1 : Int32) (post : Int32 → Mem → Prop) (hw : wpX7_platesNeeded S a0 p1 post) : CN emI l yX7_platesNeeded (wsU yX7_platesNeeded cX7_platesNeeded 4 (some .int)) rmX7_platesNeeded 0 0 G [.ref a0, .int p1] S post := by
  refine cn_open RX7 rfl (by decide +kernel) (Nat.le_of_ble_eq_true rfl) ?_
  intro p e s m args below meth c A X h hr hin ls hl
  have hl : lv_has ls 4 [(0, .ref a0), (1, .int p1)] := hl
  have hx := X.1
  have hb := X.2.1
  have hown := X.2.2.2.1
  unfold wpX7_platesNeeded at hw
  refine lv_aload_n hx hb dX7_platesNeeded_0 rfl (lv_at hl 0 rfl) ?_
  refine lv_iload_n hx hb dX7_platesNeeded_1 rfl (lv_at hl 1 rfl) ?_
  obtain ⟨k2, hw⟩ := hw
  refine rc_V (As := [.int p1]) (rest := []) X h k2 (by decide) rfl (meX7_isJob l G _ _ _ _ hw) gV_X7_75 rfl rfl hdV_X7_isJob rfl ⟨Nat.le_of_ble_eq_true rfl, Nat.le_of_ble_eq_true rfl⟩ hl.1 rfl (Nat.le_of_ble_eq_true rfl) ⟨Nat.le_of_ble_eq_true rfl, Nat.le_of_ble_eq_true rfl⟩ dX7_platesNeeded_2 (fun x3 S1 H locs hw h => ?_)
  refine lv_if_ne (tgt := 10) hx hb dX7_platesNeeded_5 (by decide) (fun c4 => ?_) (fun c4 => ?_)
  · have hw := hw.1 c4
    refine lv_aload_n hx hb dX7_platesNeeded_10 rfl (lv_at hl 0 rfl) ?_
    obtain ⟨k5, hw⟩ := hw
    refine r_getI X h k5 4  (by decide) rfl inX7 (by decide) rfl q852 rfl dX7_platesNeeded_11 ?_
    refine lv_topi (fun x6 ex6 => ?_)
    have hw := hw x6 ex6
    refine lv_istore_n (lv' := [(2, .int x6), (0, .ref a0), (1, .int p1)]) hx hb dX7_platesNeeded_14 rfl hl (by decide) rfl (fun ls hl => ?_)
    refine lv_iconst (v := (nI 0)) hx hb dX7_platesNeeded_15 (by decide) ?_
    refine lv_istore_n (lv' := [(3, .int (nI 0)), (2, .int x6), (0, .ref a0), (1, .int p1)]) hx hb dX7_platesNeeded_16 rfl hl (by decide) rfl (fun ls hl => ?_)
    obtain ⟨n27, hw⟩ := hw
    exact llX7_platesNeeded_17  X hr _ _ _ _ n27 _ _ hw _ _ _ h (lv_sub hl [2, 3, 1, 0] rfl)
  · have hw := hw.2 c4
    refine lv_iconst (v := (nI 0)) hx hb dX7_platesNeeded_8 (by decide) ?_
    exact (en_i X h hr hw (Nat.le_of_ble_eq_true rfl) (Nat.le_of_ble_eq_true rfl) dX7_platesNeeded_9)
abbrev rmX7_missing : Room := { frames := 2, cells := 0, slots := 0, locals := 42 }
def wlX7_missing_5 (a0 : Nat) (p1 : Int32) (p2 : Int32)  (post : Int32 → Mem → Prop)  : Nat → Int32 → Int32 → Mem → Prop
  | 0 => fun _ _ _ => False
  | n + 1 => fun w3 w4 S => isK S a0 7 ∧ (wpX7_count S a0 p1 (fun x3 S1 => (x3 ≤ w4 → (post w3 S1)) ∧ (¬ x3 ≤ w4 → (isK S1 a0 7 ∧ (∃ o6, mR S1 a0 16 = some o6 ∧ (isK S1 o6 8 ∧ (vp_in (((nI 8) * p1) + w4) (mN S1 o6) ∧ ((p2 ≤ (mI S1 o6 (((nI 8) * p1) + w4).toNatClampNeg) → (∀ x10 : Int32, x10 = (w3 + (nI 0)) → (∀ x11 : Int32, x11 = (w4 + (nI 1)) → (wlX7_missing_5 a0 p1 p2 post n x10 x11 S1)))) ∧ (¬ p2 ≤ (mI S1 o6 (((nI 8) * p1) + w4).toNatClampNeg) → (vp_in (((nI 8) * p1) + w4) (mN S1 o6) ∧ (∀ x13 : Int32, x13 = (w3 + (p2 - (mI S1 o6 (((nI 8) * p1) + w4).toNatClampNeg))) → (∀ x14 : Int32, x14 = (w4 + (nI 1)) → (wlX7_missing_5 a0 p1 p2 post n x13 x14 S1)))))))))))))
set_option maxHeartbeats 4000000 in
set_option maxRecDepth 100000 in
theorem llX7_missing_5 {p : Program} {l : Launch} {e : Env} {s : State} {m : MethodId} {args : Array Value} {below : List Frame} {meth : Method} {c : Code} {G : GT} {A : Nat → Prop} (X : Cx p s m args meth c cX7_missing 5 RX7 G A) (hr : meth.sig.returnType = (some .int)) (a0 : Nat) (p1 : Int32) (p2 : Int32)  (post : Int32 → Mem → Prop)   : ∀ (n : Nat) (w3 : Int32) (w4 : Int32) (S : Mem), wlX7_missing_5 a0 p1 p2 post n w3 w4 S → ∀ (H : Heap) (locs : List Loc) (ls : Array Slot), Hx G A s.heap H locs S → lv_has ls 5 [(0, .ref a0), (1, .int p1), (2, .int p2), (3, .int w3), (4, .int w4)] → W p l e rmX7_missing s m args below meth c H locs 0 0 (MQ below (QN emI post G A) args s 0 0 A) (F0 m 5 ls []) := by
  have hx := X.1
  have hb := X.2.1
  have hown := X.2.2.2.1
  intro n
  induction n with
  | zero =>
    intro _ _ _ hw
    exact hw.elim
  | succ n ih =>
    intro w3 w4 S hw H locs ls h hl
    refine lv_iload hx hb dX7_missing_5 (lv_at hl 4 rfl) ?_
    refine lv_aload_n hx hb dX7_missing_7 rfl (lv_at hl 0 rfl) ?_
    refine lv_iload_n hx hb dX7_missing_8 rfl (lv_at hl 1 rfl) ?_
    obtain ⟨k2, hw⟩ := hw
    refine rc_V (As := [.int p1]) (rest := [.int w4]) X h k2 (by decide) rfl (meX7_count l G _ _ _ _ hw) gV_X7_78 rfl rfl hdV_X7_count rfl ⟨Nat.le_of_ble_eq_true rfl, Nat.le_of_ble_eq_true rfl⟩ hl.1 rfl (Nat.le_of_ble_eq_true rfl) ⟨Nat.le_of_ble_eq_true rfl, Nat.le_of_ble_eq_true rfl⟩ dX7_missing_9 (fun x3 S1 H locs hw h => ?_)
    refine lv_icmp_ge (tgt := 58) hx hb dX7_missing_12 (by decide) (fun c4 => ?_) (fun c4 => ?_)
    · have hw := hw.1 c4
      refine lv_iload_n hx hb dX7_missing_58 rfl (lv_at hl 3 rfl) ?_
      exact (en_i X h hr hw (Nat.le_of_ble_eq_true rfl) (Nat.le_of_ble_eq_true rfl) dX7_missing_59)
    · have hw := hw.2 c4
      refine lv_iload_n hx hb dX7_missing_15 rfl (lv_at hl 3 rfl) ?_
      refine lv_iload_n hx hb dX7_missing_16 rfl (lv_at hl 2 rfl) ?_
      refine lv_aload_n hx hb dX7_missing_17 rfl (lv_at hl 0 rfl) ?_
      obtain ⟨k5, hw⟩ := hw
      obtain ⟨o6, eo6, hw⟩ := hw
      refine r_getR X h k5 16 eo6  (by decide) rfl inX7 (by decide) rfl q864 rfl dX7_missing_18 ?_
      refine lv_bipush (v := (nI 8)) hx hb dX7_missing_21 (by decide) ?_
      refine lv_iload_n hx hb dX7_missing_23 rfl (lv_at hl 1 rfl) ?_
      refine lv_imul hx hb dX7_missing_24 ?_
      refine lv_iload hx hb dX7_missing_25 (lv_at hl 4 rfl) ?_
      refine lv_iadd hx hb dX7_missing_27 ?_
      obtain ⟨k7, hw⟩ := hw
      obtain ⟨v8, hw⟩ := hw
      refine r_iald X h k7 v8 dX7_missing_28 ?_
      refine lv_icmp_le (tgt := 49) hx hb dX7_missing_29 (by decide) (fun c9 => ?_) (fun c9 => ?_)
      · have hw := hw.1 c9
        refine lv_iconst (v := (nI 0)) hx hb dX7_missing_49 (by decide) ?_
        refine lv_iadd hx hb dX7_missing_50 ?_
        refine lv_topi (fun x10 ex10 => ?_)
        have hw := hw x10 ex10
        refine lv_istore_n (lv' := [(3, .int x10), (0, .ref a0), (1, .int p1), (2, .int p2), (4, .int w4)]) hx hb dX7_missing_51 rfl hl (by decide) rfl (fun ls hl => ?_)
        obtain ⟨x11, ex11⟩ : ∃ y : Int32, y = (w4 + (nI 1)) := ⟨_, rfl⟩
        have hw := hw x11 ex11
        refine lv_iinc (v := x11) (lv' := [(4, .int x11), (3, .int x10), (0, .ref a0), (1, .int p1), (2, .int p2)]) hx hb dX7_missing_52 hl (k := 4) rfl (by rw [ex11]; rfl) (by decide) rfl (fun ls hl => ?_)
        refine lv_goto (tgt := 5) hx hb dX7_missing_55 (by decide) ?_
        exact ih _ _ _ hw _ _ _ h (lv_sub hl [2, 3, 4, 1, 0] rfl)
      · have hw := hw.2 c9
        refine lv_iload_n hx hb dX7_missing_32 rfl (lv_at hl 2 rfl) ?_
        refine lv_aload_n hx hb dX7_missing_33 rfl (lv_at hl 0 rfl) ?_
        refine r_getR X h k5 16 eo6  (by decide) rfl inX7 (by decide) rfl q864 rfl dX7_missing_34 ?_
        refine lv_bipush (v := (nI 8)) hx hb dX7_missing_37 (by decide) ?_
        refine lv_iload_n hx hb dX7_missing_39 rfl (lv_at hl 1 rfl) ?_
        refine lv_imul hx hb dX7_missing_40 ?_
        refine lv_iload hx hb dX7_missing_41 (lv_at hl 4 rfl) ?_
        refine lv_iadd hx hb dX7_missing_43 ?_
        obtain ⟨v12, hw⟩ := hw
        refine r_iald X h k7 v12 dX7_missing_44 ?_
        refine lv_isub hx hb dX7_missing_45 ?_
        refine lv_goto (tgt := 50) hx hb dX7_missing_46 (by decide) ?_
        refine lv_iadd hx hb dX7_missing_50 ?_
        refine lv_topi (fun x13 ex13 => ?_)
        have hw := hw x13 ex13
        refine lv_istore_n (lv' := [(3, .int x13), (0, .ref a0), (1, .int p1), (2, .int p2), (4, .int w4)]) hx hb dX7_missing_51 rfl hl (by decide) rfl (fun ls hl => ?_)
        obtain ⟨x14, ex14⟩ : ∃ y : Int32, y = (w4 + (nI 1)) := ⟨_, rfl⟩
        have hw := hw x14 ex14
        refine lv_iinc (v := x14) (lv' := [(4, .int x14), (3, .int x13), (0, .ref a0), (1, .int p1), (2, .int p2)]) hx hb dX7_missing_52 hl (k := 4) rfl (by rw [ex14]; rfl) (by decide) rfl (fun ls hl => ?_)
        refine lv_goto (tgt := 5) hx hb dX7_missing_55 (by decide) ?_
        exact ih _ _ _ hw _ _ _ h (lv_sub hl [2, 3, 4, 1, 0] rfl)
def wpX7_missing (S : Mem) (a0 : Nat) (p1 : Int32) (p2 : Int32) (post : Int32 → Mem → Prop) : Prop := ∃ m, wlX7_missing_5 a0 p1 p2 post m (nI 0) (nI 0) S
set_option maxHeartbeats 4000000 in
set_option maxRecDepth 100000 in
theorem meX7_missing (l : Launch) (G : GT) (S : Mem) (a0 : Nat) (p1 : Int32) (p2 : Int32) (post : Int32 → Mem → Prop) (hw : wpX7_missing S a0 p1 p2 post) : CN emI l yX7_missing (wsU yX7_missing cX7_missing 5 (some .int)) rmX7_missing 0 0 G [.ref a0, .int p1, .int p2] S post := by
  refine cn_open RX7 rfl (by decide +kernel) (Nat.le_of_ble_eq_true rfl) ?_
  intro p e s m args below meth c A X h hr hin ls hl
  have hl : lv_has ls 5 [(0, .ref a0), (1, .int p1), (2, .int p2)] := hl
  have hx := X.1
  have hb := X.2.1
  have hown := X.2.2.2.1
  unfold wpX7_missing at hw
  refine lv_iconst (v := (nI 0)) hx hb dX7_missing_0 (by decide) ?_
  refine lv_istore_n (lv' := [(3, .int (nI 0)), (0, .ref a0), (1, .int p1), (2, .int p2)]) hx hb dX7_missing_1 rfl hl (by decide) rfl (fun ls hl => ?_)
  refine lv_iconst (v := (nI 0)) hx hb dX7_missing_2 (by decide) ?_
  refine lv_istore (lv' := [(4, .int (nI 0)), (3, .int (nI 0)), (0, .ref a0), (1, .int p1), (2, .int p2)]) hx hb dX7_missing_3 hl (by decide) rfl (fun ls hl => ?_)
  obtain ⟨n15, hw⟩ := hw
  exact llX7_missing_5  X hr _ _ _ _ n15 _ _ _ hw _ _ _ h (lv_sub hl [2, 3, 4, 1, 0] rfl)
abbrev rmX7_bind : Room := { frames := 3, cells := 0, slots := 0, locals := 66 }
def wlX7_bind_149 (a0 : Nat) (p1 : Int32) (p2 : Int32)  (post : Int32 → Mem → Prop) (J82 : Int32 → Mem → Prop) : Nat → Int32 → Mem → Prop
  | 0 => fun _ _ => False
  | n + 1 => fun w3 S => isK S a0 7 ∧ (∃ o44, mR S a0 14 = some o44 ∧ (isK S o44 8 ∧ (vp_in p1 (mN S o44) ∧ (((mI S o44 p1.toNatClampNeg) ≤ w3 → (∀ x48 : Int32, x48 = ((mI S a0 3) + (nI 1)) → (∀ S49 : Mem, S49 = (sI S a0 3 x48) → (post ((mI S49 a0 3) - (nI 1)) S49)))) ∧ (¬ (mI S o44 p1.toNatClampNeg) ≤ w3 → (∃ o50, mR S a0 25 = some o50 ∧ (∃ o51, mR S a0 12 = some o51 ∧ (∃ o52, mR S a0 15 = some o52 ∧ (isK S o52 8 ∧ (vp_in (((nI 16) * p1) + w3) (mN S o52) ∧ (isK S o51 8 ∧ (vp_in (mI S o52 (((nI 16) * p1) + w3).toNatClampNeg) (mN S o51) ∧ (∀ x57 : Int32, x57 = (mI S o51 (mI S o52 (((nI 16) * p1) + w3).toNatClampNeg).toNatClampNeg) → (isK S o50 8 ∧ (vp_in (((nI 16) * (mI S a0 3)) + w3) (mN S o50) ∧ (∀ S60 : Mem, S60 = (sI S o50 (((nI 16) * (mI S a0 3)) + w3).toNatClampNeg x57) → (∀ x61 : Int32, x61 = (w3 + (nI 1)) → (wlX7_bind_149 a0 p1 p2 post J82 n x61 S60))))))))))))))))))
set_option maxHeartbeats 4000000 in
set_option maxRecDepth 100000 in
theorem llX7_bind_149 {p : Program} {l : Launch} {e : Env} {s : State} {m : MethodId} {args : Array Value} {below : List Frame} {meth : Method} {c : Code} {G : GT} {A : Nat → Prop} (X : Cx p s m args meth c cX7_bind 4 RX7 G A) (hr : meth.sig.returnType = (some .int)) (a0 : Nat) (p1 : Int32) (p2 : Int32)  (post : Int32 → Mem → Prop) (J82 : Int32 → Mem → Prop) (hJ82 : ∀ (w3 : Int32) (S : Mem), J82 w3 S → ∀ (H : Heap) (locs : List Loc) (ls : Array Slot), Hx G A s.heap H locs S → lv_has ls 4 [(0, .ref a0), (1, .int p1), (2, .int p2), (3, .int w3)] → W p l e rmX7_bind s m args below meth c H locs 0 0 (MQ below (QN emI post G A) args s 0 0 A) (F0 m 82 ls [])) : ∀ (n : Nat) (w3 : Int32) (S : Mem), wlX7_bind_149 a0 p1 p2 post J82 n w3 S → ∀ (H : Heap) (locs : List Loc) (ls : Array Slot), Hx G A s.heap H locs S → lv_has ls 4 [(0, .ref a0), (1, .int p1), (2, .int p2), (3, .int w3)] → W p l e rmX7_bind s m args below meth c H locs 0 0 (MQ below (QN emI post G A) args s 0 0 A) (F0 m 149 ls []) := by
  have hx := X.1
  have hb := X.2.1
  have hown := X.2.2.2.1
  intro n
  induction n with
  | zero =>
    intro _ _ hw
    exact hw.elim
  | succ n ih =>
    intro w3 S hw H locs ls h hl
    refine lv_iload_n hx hb dX7_bind_149 rfl (lv_at hl 3 rfl) ?_
    refine lv_aload_n hx hb dX7_bind_150 rfl (lv_at hl 0 rfl) ?_
    obtain ⟨k43, hw⟩ := hw
    obtain ⟨o44, eo44, hw⟩ := hw
    refine r_getR X h k43 14 eo44  (by decide) rfl inX7 (by decide) rfl q862 rfl dX7_bind_151 ?_
    refine lv_iload_n hx hb dX7_bind_154 rfl (lv_at hl 1 rfl) ?_
    obtain ⟨k45, hw⟩ := hw
    obtain ⟨v46, hw⟩ := hw
    refine r_iald X h k45 v46 dX7_bind_155 ?_
    refine lv_icmp_ge (tgt := 195) hx hb dX7_bind_156 (by decide) (fun c47 => ?_) (fun c47 => ?_)
    · have hw := hw.1 c47
      refine lv_aload_n hx hb dX7_bind_195 rfl (lv_at hl 0 rfl) ?_
      refine lv_dup hx hb dX7_bind_196 rfl ?_
      refine r_getI X h k43 3  (by decide) rfl inX7 (by decide) rfl q851 rfl dX7_bind_197 ?_
      refine lv_iconst (v := (nI 1)) hx hb dX7_bind_200 (by decide) ?_
      refine lv_iadd hx hb dX7_bind_201 ?_
      refine lv_topi (fun x48 ex48 => ?_)
      have hw := hw x48 ex48
      refine r_putI X h k43 3 (by decide) rfl inX7 tyX7 tyX7_ok nmX7 (by decide) rfl (Nat.le_of_ble_eq_true rfl) q851 rfl rfl (tyX7_ok 3 (by decide)) rfl rfl dX7_bind_202 (fun H locs h => ?_)
      obtain ⟨S49, eS49⟩ : ∃ z : Mem, z = (sI S a0 3 x48) := ⟨_, rfl⟩
      rw [← eS49] at h
      have hw := hw S49 eS49
      refine lv_aload_n hx hb dX7_bind_205 rfl (lv_at hl 0 rfl) ?_
      refine r_getI X h (kI eS49 k43) 3  (by decide) rfl inX7 (by decide) rfl q851 rfl dX7_bind_206 ?_
      refine lv_iconst (v := (nI 1)) hx hb dX7_bind_209 (by decide) ?_
      refine lv_isub hx hb dX7_bind_210 ?_
      exact (en_i X h hr hw (Nat.le_of_ble_eq_true rfl) (Nat.le_of_ble_eq_true rfl) dX7_bind_211)
    · have hw := hw.2 c47
      refine lv_aload_n hx hb dX7_bind_159 rfl (lv_at hl 0 rfl) ?_
      obtain ⟨o50, eo50, hw⟩ := hw
      refine r_getR X h k43 25 eo50  (by decide) rfl inX7 (by decide) rfl q873 rfl dX7_bind_160 ?_
      refine lv_bipush (v := (nI 16)) hx hb dX7_bind_163 (by decide) ?_
      refine lv_aload_n hx hb dX7_bind_165 rfl (lv_at hl 0 rfl) ?_
      refine r_getI X h k43 3  (by decide) rfl inX7 (by decide) rfl q851 rfl dX7_bind_166 ?_
      refine lv_imul hx hb dX7_bind_169 ?_
      refine lv_iload_n hx hb dX7_bind_170 rfl (lv_at hl 3 rfl) ?_
      refine lv_iadd hx hb dX7_bind_171 ?_
      refine lv_aload_n hx hb dX7_bind_172 rfl (lv_at hl 0 rfl) ?_
      obtain ⟨o51, eo51, hw⟩ := hw
      refine r_getR X h k43 12 eo51  (by decide) rfl inX7 (by decide) rfl q860 rfl dX7_bind_173 ?_
      refine lv_aload_n hx hb dX7_bind_176 rfl (lv_at hl 0 rfl) ?_
      obtain ⟨o52, eo52, hw⟩ := hw
      refine r_getR X h k43 15 eo52  (by decide) rfl inX7 (by decide) rfl q863 rfl dX7_bind_177 ?_
      refine lv_bipush (v := (nI 16)) hx hb dX7_bind_180 (by decide) ?_
      refine lv_iload_n hx hb dX7_bind_182 rfl (lv_at hl 1 rfl) ?_
      refine lv_imul hx hb dX7_bind_183 ?_
      refine lv_iload_n hx hb dX7_bind_184 rfl (lv_at hl 3 rfl) ?_
      refine lv_iadd hx hb dX7_bind_185 ?_
      obtain ⟨k53, hw⟩ := hw
      obtain ⟨v54, hw⟩ := hw
      refine r_iald X h k53 v54 dX7_bind_186 ?_
      obtain ⟨k55, hw⟩ := hw
      obtain ⟨v56, hw⟩ := hw
      refine r_iald X h k55 v56 dX7_bind_187 ?_
      refine lv_topi (fun x57 ex57 => ?_)
      have hw := hw x57 ex57
      obtain ⟨k58, hw⟩ := hw
      obtain ⟨v59, hw⟩ := hw
      refine r_iast X h k58 v59 dX7_bind_188 (fun H locs h => ?_)
      obtain ⟨S60, eS60⟩ : ∃ z : Mem, z = (sI S o50 (((nI 16) * (mI S a0 3)) + w3).toNatClampNeg x57) := ⟨_, rfl⟩
      rw [← eS60] at h
      have hw := hw S60 eS60
      obtain ⟨x61, ex61⟩ : ∃ y : Int32, y = (w3 + (nI 1)) := ⟨_, rfl⟩
      have hw := hw x61 ex61
      refine lv_iinc (v := x61) (lv' := [(3, .int x61), (0, .ref a0), (1, .int p1), (2, .int p2)]) hx hb dX7_bind_189 hl (k := 3) rfl (by rw [ex61]; rfl) (by decide) rfl (fun ls hl => ?_)
      refine lv_goto (tgt := 149) hx hb dX7_bind_192 (by decide) ?_
      exact ih _ _ hw _ _ _ h (lv_sub hl [1, 2, 3, 0] rfl)
def wlX7_bind_82 (a0 : Nat) (p1 : Int32) (p2 : Int32)  (post : Int32 → Mem → Prop)  : Nat → Int32 → Mem → Prop
  | 0 => fun _ _ => False
  | n + 1 => fun w3 S => isK S a0 7 ∧ (wpX7_count S a0 p1 (fun x24 S22 => (x24 ≤ w3 → (isK S22 a0 7 ∧ (∃ o27, mR S22 a0 22 = some o27 ∧ (isK S22 o27 8 ∧ (vp_in (mI S22 a0 3) (mN S22 o27) ∧ (∀ S30 : Mem, S30 = (sI S22 o27 (mI S22 a0 3).toNatClampNeg p1) → (∃ o31, mR S30 a0 23 = some o31 ∧ (isK S30 o31 8 ∧ (vp_in (mI S30 a0 3) (mN S30 o31) ∧ (∀ S34 : Mem, S34 = (sI S30 o31 (mI S30 a0 3).toNatClampNeg p2) → (∃ o35, mR S34 a0 24 = some o35 ∧ (∃ o36, mR S34 a0 14 = some o36 ∧ (isK S34 o36 8 ∧ (vp_in p1 (mN S34 o36) ∧ (∀ x39 : Int32, x39 = (mI S34 o36 p1.toNatClampNeg) → (isK S34 o35 8 ∧ (vp_in (mI S34 a0 3) (mN S34 o35) ∧ (∀ S42 : Mem, S42 = (sI S34 o35 (mI S34 a0 3).toNatClampNeg x39) → (∃ m, wlX7_bind_149 a0 p1 p2 post (fun w3 S => wlX7_bind_82 a0 p1 p2 post n w3 S) m (nI 0) S42))))))))))))))))))) ∧ (¬ x24 ≤ w3 → (isK S22 a0 7 ∧ (∃ o64, mR S22 a0 16 = some o64 ∧ (isK S22 o64 8 ∧ (vp_in (((nI 8) * p1) + w3) (mN S22 o64) ∧ (∀ x67 : Int32, x67 = ((mI S22 o64 (((nI 8) * p1) + w3).toNatClampNeg) - p2) → (vp_in (((nI 8) * p1) + w3) (mN S22 o64) ∧ (∀ S69 : Mem, S69 = (sI S22 o64 (((nI 8) * p1) + w3).toNatClampNeg x67) → (∀ x70 : Int32, x70 = (w3 + (nI 1)) → (wlX7_bind_82 a0 p1 p2 post n x70 S69))))))))))))
set_option maxHeartbeats 4000000 in
set_option maxRecDepth 100000 in
theorem llX7_bind_82 {p : Program} {l : Launch} {e : Env} {s : State} {m : MethodId} {args : Array Value} {below : List Frame} {meth : Method} {c : Code} {G : GT} {A : Nat → Prop} (X : Cx p s m args meth c cX7_bind 4 RX7 G A) (hr : meth.sig.returnType = (some .int)) (a0 : Nat) (p1 : Int32) (p2 : Int32)  (post : Int32 → Mem → Prop)   : ∀ (n : Nat) (w3 : Int32) (S : Mem), wlX7_bind_82 a0 p1 p2 post n w3 S → ∀ (H : Heap) (locs : List Loc) (ls : Array Slot), Hx G A s.heap H locs S → lv_has ls 4 [(0, .ref a0), (1, .int p1), (2, .int p2), (3, .int w3)] → W p l e rmX7_bind s m args below meth c H locs 0 0 (MQ below (QN emI post G A) args s 0 0 A) (F0 m 82 ls []) := by
  have hx := X.1
  have hb := X.2.1
  have hown := X.2.2.2.1
  intro n
  induction n with
  | zero =>
    intro _ _ hw
    exact hw.elim
  | succ n ih =>
    intro w3 S hw H locs ls h hl
    refine lv_iload_n hx hb dX7_bind_82 rfl (lv_at hl 3 rfl) ?_
    refine lv_aload_n hx hb dX7_bind_83 rfl (lv_at hl 0 rfl) ?_
    refine lv_iload_n hx hb dX7_bind_84 rfl (lv_at hl 1 rfl) ?_
    obtain ⟨k23, hw⟩ := hw
    refine rc_V (As := [.int p1]) (rest := [.int w3]) X h k23 (by decide) rfl (meX7_count l G _ _ _ _ hw) gV_X7_78 rfl rfl hdV_X7_count rfl ⟨Nat.le_of_ble_eq_true rfl, Nat.le_of_ble_eq_true rfl⟩ hl.1 rfl (Nat.le_of_ble_eq_true rfl) ⟨Nat.le_of_ble_eq_true rfl, Nat.le_of_ble_eq_true rfl⟩ dX7_bind_85 (fun x24 S22 H locs hw h => ?_)
    refine lv_icmp_ge (tgt := 112) hx hb dX7_bind_88 (by decide) (fun c25 => ?_) (fun c25 => ?_)
    · have hw := hw.1 c25
      refine lv_aload_n hx hb dX7_bind_112 rfl (lv_at hl 0 rfl) ?_
      obtain ⟨k26, hw⟩ := hw
      obtain ⟨o27, eo27, hw⟩ := hw
      refine r_getR X h k26 22 eo27  (by decide) rfl inX7 (by decide) rfl q870 rfl dX7_bind_113 ?_
      refine lv_aload_n hx hb dX7_bind_116 rfl (lv_at hl 0 rfl) ?_
      refine r_getI X h k26 3  (by decide) rfl inX7 (by decide) rfl q851 rfl dX7_bind_117 ?_
      refine lv_iload_n hx hb dX7_bind_120 rfl (lv_at hl 1 rfl) ?_
      obtain ⟨k28, hw⟩ := hw
      obtain ⟨v29, hw⟩ := hw
      refine r_iast X h k28 v29 dX7_bind_121 (fun H locs h => ?_)
      obtain ⟨S30, eS30⟩ : ∃ z : Mem, z = (sI S22 o27 (mI S22 a0 3).toNatClampNeg p1) := ⟨_, rfl⟩
      rw [← eS30] at h
      have hw := hw S30 eS30
      refine lv_aload_n hx hb dX7_bind_122 rfl (lv_at hl 0 rfl) ?_
      obtain ⟨o31, eo31, hw⟩ := hw
      refine r_getR X h (kI eS30 k26) 23 eo31  (by decide) rfl inX7 (by decide) rfl q871 rfl dX7_bind_123 ?_
      refine lv_aload_n hx hb dX7_bind_126 rfl (lv_at hl 0 rfl) ?_
      refine r_getI X h (kI eS30 k26) 3  (by decide) rfl inX7 (by decide) rfl q851 rfl dX7_bind_127 ?_
      refine lv_iload_n hx hb dX7_bind_130 rfl (lv_at hl 2 rfl) ?_
      obtain ⟨k32, hw⟩ := hw
      obtain ⟨v33, hw⟩ := hw
      refine r_iast X h k32 v33 dX7_bind_131 (fun H locs h => ?_)
      obtain ⟨S34, eS34⟩ : ∃ z : Mem, z = (sI S30 o31 (mI S30 a0 3).toNatClampNeg p2) := ⟨_, rfl⟩
      rw [← eS34] at h
      have hw := hw S34 eS34
      refine lv_aload_n hx hb dX7_bind_132 rfl (lv_at hl 0 rfl) ?_
      obtain ⟨o35, eo35, hw⟩ := hw
      refine r_getR X h (kI eS34 (kI eS30 k26)) 24 eo35  (by decide) rfl inX7 (by decide) rfl q872 rfl dX7_bind_133 ?_
      refine lv_aload_n hx hb dX7_bind_136 rfl (lv_at hl 0 rfl) ?_
      refine r_getI X h (kI eS34 (kI eS30 k26)) 3  (by decide) rfl inX7 (by decide) rfl q851 rfl dX7_bind_137 ?_
      refine lv_aload_n hx hb dX7_bind_140 rfl (lv_at hl 0 rfl) ?_
      obtain ⟨o36, eo36, hw⟩ := hw
      refine r_getR X h (kI eS34 (kI eS30 k26)) 14 eo36  (by decide) rfl inX7 (by decide) rfl q862 rfl dX7_bind_141 ?_
      refine lv_iload_n hx hb dX7_bind_144 rfl (lv_at hl 1 rfl) ?_
      obtain ⟨k37, hw⟩ := hw
      obtain ⟨v38, hw⟩ := hw
      refine r_iald X h k37 v38 dX7_bind_145 ?_
      refine lv_topi (fun x39 ex39 => ?_)
      have hw := hw x39 ex39
      obtain ⟨k40, hw⟩ := hw
      obtain ⟨v41, hw⟩ := hw
      refine r_iast X h k40 v41 dX7_bind_146 (fun H locs h => ?_)
      obtain ⟨S42, eS42⟩ : ∃ z : Mem, z = (sI S34 o35 (mI S34 a0 3).toNatClampNeg x39) := ⟨_, rfl⟩
      rw [← eS42] at h
      have hw := hw S42 eS42
      refine lv_iconst (v := (nI 0)) hx hb dX7_bind_147 (by decide) ?_
      refine lv_istore_n (lv' := [(3, .int (nI 0)), (0, .ref a0), (1, .int p1), (2, .int p2)]) hx hb dX7_bind_148 rfl hl (by decide) rfl (fun ls hl => ?_)
      obtain ⟨n62, hw⟩ := hw
      exact llX7_bind_149  X hr _ _ _ _ _ (fun w3 S hw H locs ls h hl => ih w3 S hw H locs ls h hl) n62 _ _ hw _ _ _ h (lv_sub hl [1, 2, 3, 0] rfl)
    · have hw := hw.2 c25
      refine lv_aload_n hx hb dX7_bind_91 rfl (lv_at hl 0 rfl) ?_
      obtain ⟨k63, hw⟩ := hw
      obtain ⟨o64, eo64, hw⟩ := hw
      refine r_getR X h k63 16 eo64  (by decide) rfl inX7 (by decide) rfl q864 rfl dX7_bind_92 ?_
      refine lv_bipush (v := (nI 8)) hx hb dX7_bind_95 (by decide) ?_
      refine lv_iload_n hx hb dX7_bind_97 rfl (lv_at hl 1 rfl) ?_
      refine lv_imul hx hb dX7_bind_98 ?_
      refine lv_iload_n hx hb dX7_bind_99 rfl (lv_at hl 3 rfl) ?_
      refine lv_iadd hx hb dX7_bind_100 ?_
      refine lv_dup2_11 hx hb dX7_bind_101 rfl rfl ?_
      obtain ⟨k65, hw⟩ := hw
      obtain ⟨v66, hw⟩ := hw
      refine r_iald X h k65 v66 dX7_bind_102 ?_
      refine lv_iload_n hx hb dX7_bind_103 rfl (lv_at hl 2 rfl) ?_
      refine lv_isub hx hb dX7_bind_104 ?_
      refine lv_topi (fun x67 ex67 => ?_)
      have hw := hw x67 ex67
      obtain ⟨v68, hw⟩ := hw
      refine r_iast X h k65 v68 dX7_bind_105 (fun H locs h => ?_)
      obtain ⟨S69, eS69⟩ : ∃ z : Mem, z = (sI S22 o64 (((nI 8) * p1) + w3).toNatClampNeg x67) := ⟨_, rfl⟩
      rw [← eS69] at h
      have hw := hw S69 eS69
      obtain ⟨x70, ex70⟩ : ∃ y : Int32, y = (w3 + (nI 1)) := ⟨_, rfl⟩
      have hw := hw x70 ex70
      refine lv_iinc (v := x70) (lv' := [(3, .int x70), (0, .ref a0), (1, .int p1), (2, .int p2)]) hx hb dX7_bind_106 hl (k := 3) rfl (by rw [ex70]; rfl) (by decide) rfl (fun ls hl => ?_)
      refine lv_goto (tgt := 82) hx hb dX7_bind_109 (by decide) ?_
      exact ih _ _ hw _ _ _ h (lv_sub hl [1, 2, 3, 0] rfl)
def wpX7_bind (S : Mem) (a0 : Nat) (p1 : Int32) (p2 : Int32) (post : Int32 → Mem → Prop) : Prop := isK S a0 7 ∧ (wpX7_in S p1 (nI 0) ((mI S a0 2) - (nI 1)) (fun x3 S2 => (¬ x3 = 0 → (wpX7_in S2 p2 (nI 1) (nI 500) (fun x6 S5 => (¬ x6 = 0 → (isK S5 a0 7 ∧ (wpX7_isWhole S5 a0 p1 (fun x10 S8 => (x10 = 0 → (isK S8 a0 7 ∧ (wpX7_fails S8 a0 (nI 3) (fun x14 S12 => post x14 S12)))) ∧ (¬ x10 = 0 → (isK S8 a0 7 ∧ ((¬ (mI S8 a0 3) = (nI 100) → (wpX7_missing S8 a0 p1 p2 (fun x18 S17 => (x18 ≤ 0 → (isK S17 a0 7 ∧ (∀ S21 : Mem, S21 = (sI S17 a0 0 (nI 0)) → (∃ m, wlX7_bind_82 a0 p1 p2 post m (nI 0) S21)))) ∧ (¬ x18 ≤ 0 → (isK S17 a0 7 ∧ (wpX7_fails S17 a0 (nI 4) (fun x74 S72 => post x74 S72))))))) ∧ ((mI S8 a0 3) = (nI 100) → (wpX7_fails S8 a0 (nI 3) (fun x76 S75 => post x76 S75)))))))))) ∧ (x6 = 0 → (isK S5 a0 7 ∧ (wpX7_fails S5 a0 (nI 2) (fun x79 S77 => post x79 S77))))))) ∧ (x3 = 0 → (isK S2 a0 7 ∧ (wpX7_fails S2 a0 (nI 1) (fun x82 S80 => post x82 S80))))))
set_option maxHeartbeats 4000000 in
set_option maxRecDepth 100000 in
theorem meX7_bind (l : Launch) (G : GT) (S : Mem) (a0 : Nat) (p1 : Int32) (p2 : Int32) (post : Int32 → Mem → Prop) (hw : wpX7_bind S a0 p1 p2 post) : CN emI l yX7_bind (wsU yX7_bind cX7_bind 4 (some .int)) rmX7_bind 0 0 G [.ref a0, .int p1, .int p2] S post := by
  refine cn_open RX7 rfl (by decide +kernel) (Nat.le_of_ble_eq_true rfl) ?_
  intro p e s m args below meth c A X h hr hin ls hl
  have hl : lv_has ls 4 [(0, .ref a0), (1, .int p1), (2, .int p2)] := hl
  have hx := X.1
  have hb := X.2.1
  have hown := X.2.2.2.1
  unfold wpX7_bind at hw
  refine lv_iload_n hx hb dX7_bind_0 rfl (lv_at hl 1 rfl) ?_
  refine lv_iconst (v := (nI 0)) hx hb dX7_bind_1 (by decide) ?_
  refine lv_aload_n hx hb dX7_bind_2 rfl (lv_at hl 0 rfl) ?_
  obtain ⟨k1, hw⟩ := hw
  refine r_getI X h k1 2  (by decide) rfl inX7 (by decide) rfl q850 rfl dX7_bind_3 ?_
  refine lv_iconst (v := (nI 1)) hx hb dX7_bind_6 (by decide) ?_
  refine lv_isub hx hb dX7_bind_7 ?_
  refine rc_S (As := [.int p1, .int (nI 0), .int ((mI S a0 2) - (nI 1))]) (rest := []) X h (meX7_in l G _ _ _ _ _ hw) gS_X7_60 rfl rfl hdS_X7_in rfl ⟨Nat.le_of_ble_eq_true rfl, Nat.le_of_ble_eq_true rfl⟩ hl.1 rfl (Nat.le_of_ble_eq_true rfl) ⟨Nat.le_of_ble_eq_true rfl, Nat.le_of_ble_eq_true rfl⟩ dX7_bind_8 (fun x3 S2 H locs hw h => ?_)
  refine lv_if_ne (tgt := 20) hx hb dX7_bind_11 (by decide) (fun c4 => ?_) (fun c4 => ?_)
  · have hw := hw.1 c4
    refine lv_iload_n hx hb dX7_bind_20 rfl (lv_at hl 2 rfl) ?_
    refine lv_iconst (v := (nI 1)) hx hb dX7_bind_21 (by decide) ?_
    refine lv_sipush (v := (nI 500)) hx hb dX7_bind_22 (by decide) ?_
    refine rc_S (As := [.int p2, .int (nI 1), .int (nI 500)]) (rest := []) X h (meX7_in l G _ _ _ _ _ hw) gS_X7_60 rfl rfl hdS_X7_in rfl ⟨Nat.le_of_ble_eq_true rfl, Nat.le_of_ble_eq_true rfl⟩ hl.1 rfl (Nat.le_of_ble_eq_true rfl) ⟨Nat.le_of_ble_eq_true rfl, Nat.le_of_ble_eq_true rfl⟩ dX7_bind_25 (fun x6 S5 H locs hw h => ?_)
    refine lv_if_ne (tgt := 37) hx hb dX7_bind_28 (by decide) (fun c7 => ?_) (fun c7 => ?_)
    · have hw := hw.1 c7
      refine lv_aload_n hx hb dX7_bind_37 rfl (lv_at hl 0 rfl) ?_
      refine lv_iload_n hx hb dX7_bind_38 rfl (lv_at hl 1 rfl) ?_
      obtain ⟨k9, hw⟩ := hw
      refine rc_V (As := [.int p1]) (rest := []) X h k9 (by decide) rfl (meX7_isWhole l G _ _ _ _ hw) gV_X7_71 rfl rfl hdV_X7_isWhole rfl ⟨Nat.le_of_ble_eq_true rfl, Nat.le_of_ble_eq_true rfl⟩ hl.1 rfl (Nat.le_of_ble_eq_true rfl) ⟨Nat.le_of_ble_eq_true rfl, Nat.le_of_ble_eq_true rfl⟩ dX7_bind_39 (fun x10 S8 H locs hw h => ?_)
      refine lv_if_eq (tgt := 54) hx hb dX7_bind_42 (by decide) (fun c11 => ?_) (fun c11 => ?_)
      · have hw := hw.1 c11
        refine lv_aload_n hx hb dX7_bind_54 rfl (lv_at hl 0 rfl) ?_
        refine lv_iconst (v := (nI 3)) hx hb dX7_bind_55 (by decide) ?_
        obtain ⟨k13, hw⟩ := hw
        refine rc_V (As := [.int (nI 3)]) (rest := []) X h k13 (by decide) rfl (meX7_fails l G _ _ _ _ hw) gV_X7_101 rfl rfl hdV_X7_fails rfl ⟨Nat.le_of_ble_eq_true rfl, Nat.le_of_ble_eq_true rfl⟩ hl.1 rfl (Nat.le_of_ble_eq_true rfl) ⟨Nat.le_of_ble_eq_true rfl, Nat.le_of_ble_eq_true rfl⟩ dX7_bind_56 (fun x14 S12 H locs hw h => ?_)
        exact (en_i X h hr hw (Nat.le_of_ble_eq_true rfl) (Nat.le_of_ble_eq_true rfl) dX7_bind_59)
      · have hw := hw.2 c11
        refine lv_aload_n hx hb dX7_bind_45 rfl (lv_at hl 0 rfl) ?_
        obtain ⟨k15, hw⟩ := hw
        refine r_getI X h k15 3  (by decide) rfl inX7 (by decide) rfl q851 rfl dX7_bind_46 ?_
        refine lv_bipush (v := (nI 100)) hx hb dX7_bind_49 (by decide) ?_
        refine lv_icmp_ne (tgt := 60) hx hb dX7_bind_51 (by decide) (fun c16 => ?_) (fun c16 => ?_)
        · have hw := hw.1 c16
          refine lv_aload_n hx hb dX7_bind_60 rfl (lv_at hl 0 rfl) ?_
          refine lv_iload_n hx hb dX7_bind_61 rfl (lv_at hl 1 rfl) ?_
          refine lv_iload_n hx hb dX7_bind_62 rfl (lv_at hl 2 rfl) ?_
          refine rc_V (As := [.int p1, .int p2]) (rest := []) X h k15 (by decide) rfl (meX7_missing l G _ _ _ _ _ hw) gV_X7_159 rfl rfl hdV_X7_missing rfl ⟨Nat.le_of_ble_eq_true rfl, Nat.le_of_ble_eq_true rfl⟩ hl.1 rfl (Nat.le_of_ble_eq_true rfl) ⟨Nat.le_of_ble_eq_true rfl, Nat.le_of_ble_eq_true rfl⟩ dX7_bind_63 (fun x18 S17 H locs hw h => ?_)
          refine lv_if_le (tgt := 75) hx hb dX7_bind_66 (by decide) (fun c19 => ?_) (fun c19 => ?_)
          · have hw := hw.1 c19
            refine lv_aload_n hx hb dX7_bind_75 rfl (lv_at hl 0 rfl) ?_
            refine lv_iconst (v := (nI 0)) hx hb dX7_bind_76 (by decide) ?_
            obtain ⟨k20, hw⟩ := hw
            refine r_putI X h k20 0 (by decide) rfl inX7 tyX7 tyX7_ok nmX7 (by decide) rfl (Nat.le_of_ble_eq_true rfl) q848 rfl rfl (tyX7_ok 0 (by decide)) rfl rfl dX7_bind_77 (fun H locs h => ?_)
            obtain ⟨S21, eS21⟩ : ∃ z : Mem, z = (sI S17 a0 0 (nI 0)) := ⟨_, rfl⟩
            rw [← eS21] at h
            have hw := hw S21 eS21
            refine lv_iconst (v := (nI 0)) hx hb dX7_bind_80 (by decide) ?_
            refine lv_istore_n (lv' := [(3, .int (nI 0)), (0, .ref a0), (1, .int p1), (2, .int p2)]) hx hb dX7_bind_81 rfl hl (by decide) rfl (fun ls hl => ?_)
            obtain ⟨n71, hw⟩ := hw
            exact llX7_bind_82  X hr _ _ _ _ n71 _ _ hw _ _ _ h (lv_sub hl [1, 2, 3, 0] rfl)
          · have hw := hw.2 c19
            refine lv_aload_n hx hb dX7_bind_69 rfl (lv_at hl 0 rfl) ?_
            refine lv_iconst (v := (nI 4)) hx hb dX7_bind_70 (by decide) ?_
            obtain ⟨k73, hw⟩ := hw
            refine rc_V (As := [.int (nI 4)]) (rest := []) X h k73 (by decide) rfl (meX7_fails l G _ _ _ _ hw) gV_X7_101 rfl rfl hdV_X7_fails rfl ⟨Nat.le_of_ble_eq_true rfl, Nat.le_of_ble_eq_true rfl⟩ hl.1 rfl (Nat.le_of_ble_eq_true rfl) ⟨Nat.le_of_ble_eq_true rfl, Nat.le_of_ble_eq_true rfl⟩ dX7_bind_71 (fun x74 S72 H locs hw h => ?_)
            exact (en_i X h hr hw (Nat.le_of_ble_eq_true rfl) (Nat.le_of_ble_eq_true rfl) dX7_bind_74)
        · have hw := hw.2 c16
          refine lv_aload_n hx hb dX7_bind_54 rfl (lv_at hl 0 rfl) ?_
          refine lv_iconst (v := (nI 3)) hx hb dX7_bind_55 (by decide) ?_
          refine rc_V (As := [.int (nI 3)]) (rest := []) X h k15 (by decide) rfl (meX7_fails l G _ _ _ _ hw) gV_X7_101 rfl rfl hdV_X7_fails rfl ⟨Nat.le_of_ble_eq_true rfl, Nat.le_of_ble_eq_true rfl⟩ hl.1 rfl (Nat.le_of_ble_eq_true rfl) ⟨Nat.le_of_ble_eq_true rfl, Nat.le_of_ble_eq_true rfl⟩ dX7_bind_56 (fun x76 S75 H locs hw h => ?_)
          exact (en_i X h hr hw (Nat.le_of_ble_eq_true rfl) (Nat.le_of_ble_eq_true rfl) dX7_bind_59)
    · have hw := hw.2 c7
      refine lv_aload_n hx hb dX7_bind_31 rfl (lv_at hl 0 rfl) ?_
      refine lv_iconst (v := (nI 2)) hx hb dX7_bind_32 (by decide) ?_
      obtain ⟨k78, hw⟩ := hw
      refine rc_V (As := [.int (nI 2)]) (rest := []) X h k78 (by decide) rfl (meX7_fails l G _ _ _ _ hw) gV_X7_101 rfl rfl hdV_X7_fails rfl ⟨Nat.le_of_ble_eq_true rfl, Nat.le_of_ble_eq_true rfl⟩ hl.1 rfl (Nat.le_of_ble_eq_true rfl) ⟨Nat.le_of_ble_eq_true rfl, Nat.le_of_ble_eq_true rfl⟩ dX7_bind_33 (fun x79 S77 H locs hw h => ?_)
      exact (en_i X h hr hw (Nat.le_of_ble_eq_true rfl) (Nat.le_of_ble_eq_true rfl) dX7_bind_36)
  · have hw := hw.2 c4
    refine lv_aload_n hx hb dX7_bind_14 rfl (lv_at hl 0 rfl) ?_
    refine lv_iconst (v := (nI 1)) hx hb dX7_bind_15 (by decide) ?_
    obtain ⟨k81, hw⟩ := hw
    refine rc_V (As := [.int (nI 1)]) (rest := []) X h k81 (by decide) rfl (meX7_fails l G _ _ _ _ hw) gV_X7_101 rfl rfl hdV_X7_fails rfl ⟨Nat.le_of_ble_eq_true rfl, Nat.le_of_ble_eq_true rfl⟩ hl.1 rfl (Nat.le_of_ble_eq_true rfl) ⟨Nat.le_of_ble_eq_true rfl, Nat.le_of_ble_eq_true rfl⟩ dX7_bind_16 (fun x82 S80 H locs hw h => ?_)
    exact (en_i X h hr hw (Nat.le_of_ble_eq_true rfl) (Nat.le_of_ble_eq_true rfl) dX7_bind_19)
abbrev rmX7_lacks : Room := { frames := 3, cells := 0, slots := 0, locals := 66 }
def wpX7_lacks (S : Mem) (a0 : Nat) (p1 : Int32) (p2 : Int32) (post : Int32 → Mem → Prop) : Prop := isK S a0 7 ∧ (wpX7_in S p1 (nI 0) ((mI S a0 2) - (nI 1)) (fun x3 S2 => (¬ x3 = 0 → (wpX7_in S2 p2 (nI 1) (nI 500) (fun x6 S5 => (¬ x6 = 0 → (isK S5 a0 7 ∧ (wpX7_isWhole S5 a0 p1 (fun x10 S8 => (¬ x10 = 0 → (isK S8 a0 7 ∧ (∀ S13 : Mem, S13 = (sI S8 a0 0 (nI 0)) → (wpX7_missing S13 a0 p1 p2 (fun x15 S14 => post x15 S14))))) ∧ (x10 = 0 → (isK S8 a0 7 ∧ (wpX7_fails S8 a0 (nI 3) (fun x18 S16 => post x18 S16)))))))) ∧ (x6 = 0 → (isK S5 a0 7 ∧ (wpX7_fails S5 a0 (nI 2) (fun x21 S19 => post x21 S19))))))) ∧ (x3 = 0 → (isK S2 a0 7 ∧ (wpX7_fails S2 a0 (nI 1) (fun x24 S22 => post x24 S22))))))
set_option maxHeartbeats 4000000 in
set_option maxRecDepth 100000 in
theorem meX7_lacks (l : Launch) (G : GT) (S : Mem) (a0 : Nat) (p1 : Int32) (p2 : Int32) (post : Int32 → Mem → Prop) (hw : wpX7_lacks S a0 p1 p2 post) : CN emI l yX7_lacks (wsU yX7_lacks cX7_lacks 3 (some .int)) rmX7_lacks 0 0 G [.ref a0, .int p1, .int p2] S post := by
  refine cn_open RX7 rfl (by decide +kernel) (Nat.le_of_ble_eq_true rfl) ?_
  intro p e s m args below meth c A X h hr hin ls hl
  have hl : lv_has ls 3 [(0, .ref a0), (1, .int p1), (2, .int p2)] := hl
  have hx := X.1
  have hb := X.2.1
  have hown := X.2.2.2.1
  unfold wpX7_lacks at hw
  refine lv_iload_n hx hb dX7_lacks_0 rfl (lv_at hl 1 rfl) ?_
  refine lv_iconst (v := (nI 0)) hx hb dX7_lacks_1 (by decide) ?_
  refine lv_aload_n hx hb dX7_lacks_2 rfl (lv_at hl 0 rfl) ?_
  obtain ⟨k1, hw⟩ := hw
  refine r_getI X h k1 2  (by decide) rfl inX7 (by decide) rfl q850 rfl dX7_lacks_3 ?_
  refine lv_iconst (v := (nI 1)) hx hb dX7_lacks_6 (by decide) ?_
  refine lv_isub hx hb dX7_lacks_7 ?_
  refine rc_S (As := [.int p1, .int (nI 0), .int ((mI S a0 2) - (nI 1))]) (rest := []) X h (meX7_in l G _ _ _ _ _ hw) gS_X7_60 rfl rfl hdS_X7_in rfl ⟨Nat.le_of_ble_eq_true rfl, Nat.le_of_ble_eq_true rfl⟩ hl.1 rfl (Nat.le_of_ble_eq_true rfl) ⟨Nat.le_of_ble_eq_true rfl, Nat.le_of_ble_eq_true rfl⟩ dX7_lacks_8 (fun x3 S2 H locs hw h => ?_)
  refine lv_if_ne (tgt := 20) hx hb dX7_lacks_11 (by decide) (fun c4 => ?_) (fun c4 => ?_)
  · have hw := hw.1 c4
    refine lv_iload_n hx hb dX7_lacks_20 rfl (lv_at hl 2 rfl) ?_
    refine lv_iconst (v := (nI 1)) hx hb dX7_lacks_21 (by decide) ?_
    refine lv_sipush (v := (nI 500)) hx hb dX7_lacks_22 (by decide) ?_
    refine rc_S (As := [.int p2, .int (nI 1), .int (nI 500)]) (rest := []) X h (meX7_in l G _ _ _ _ _ hw) gS_X7_60 rfl rfl hdS_X7_in rfl ⟨Nat.le_of_ble_eq_true rfl, Nat.le_of_ble_eq_true rfl⟩ hl.1 rfl (Nat.le_of_ble_eq_true rfl) ⟨Nat.le_of_ble_eq_true rfl, Nat.le_of_ble_eq_true rfl⟩ dX7_lacks_25 (fun x6 S5 H locs hw h => ?_)
    refine lv_if_ne (tgt := 37) hx hb dX7_lacks_28 (by decide) (fun c7 => ?_) (fun c7 => ?_)
    · have hw := hw.1 c7
      refine lv_aload_n hx hb dX7_lacks_37 rfl (lv_at hl 0 rfl) ?_
      refine lv_iload_n hx hb dX7_lacks_38 rfl (lv_at hl 1 rfl) ?_
      obtain ⟨k9, hw⟩ := hw
      refine rc_V (As := [.int p1]) (rest := []) X h k9 (by decide) rfl (meX7_isWhole l G _ _ _ _ hw) gV_X7_71 rfl rfl hdV_X7_isWhole rfl ⟨Nat.le_of_ble_eq_true rfl, Nat.le_of_ble_eq_true rfl⟩ hl.1 rfl (Nat.le_of_ble_eq_true rfl) ⟨Nat.le_of_ble_eq_true rfl, Nat.le_of_ble_eq_true rfl⟩ dX7_lacks_39 (fun x10 S8 H locs hw h => ?_)
      refine lv_if_ne (tgt := 51) hx hb dX7_lacks_42 (by decide) (fun c11 => ?_) (fun c11 => ?_)
      · have hw := hw.1 c11
        refine lv_aload_n hx hb dX7_lacks_51 rfl (lv_at hl 0 rfl) ?_
        refine lv_iconst (v := (nI 0)) hx hb dX7_lacks_52 (by decide) ?_
        obtain ⟨k12, hw⟩ := hw
        refine r_putI X h k12 0 (by decide) rfl inX7 tyX7 tyX7_ok nmX7 (by decide) rfl (Nat.le_of_ble_eq_true rfl) q848 rfl rfl (tyX7_ok 0 (by decide)) rfl rfl dX7_lacks_53 (fun H locs h => ?_)
        obtain ⟨S13, eS13⟩ : ∃ z : Mem, z = (sI S8 a0 0 (nI 0)) := ⟨_, rfl⟩
        rw [← eS13] at h
        have hw := hw S13 eS13
        refine lv_aload_n hx hb dX7_lacks_56 rfl (lv_at hl 0 rfl) ?_
        refine lv_iload_n hx hb dX7_lacks_57 rfl (lv_at hl 1 rfl) ?_
        refine lv_iload_n hx hb dX7_lacks_58 rfl (lv_at hl 2 rfl) ?_
        refine rc_V (As := [.int p1, .int p2]) (rest := []) X h (kI eS13 k12) (by decide) rfl (meX7_missing l G _ _ _ _ _ hw) gV_X7_159 rfl rfl hdV_X7_missing rfl ⟨Nat.le_of_ble_eq_true rfl, Nat.le_of_ble_eq_true rfl⟩ hl.1 rfl (Nat.le_of_ble_eq_true rfl) ⟨Nat.le_of_ble_eq_true rfl, Nat.le_of_ble_eq_true rfl⟩ dX7_lacks_59 (fun x15 S14 H locs hw h => ?_)
        exact (en_i X h hr hw (Nat.le_of_ble_eq_true rfl) (Nat.le_of_ble_eq_true rfl) dX7_lacks_62)
      · have hw := hw.2 c11
        refine lv_aload_n hx hb dX7_lacks_45 rfl (lv_at hl 0 rfl) ?_
        refine lv_iconst (v := (nI 3)) hx hb dX7_lacks_46 (by decide) ?_
        obtain ⟨k17, hw⟩ := hw
        refine rc_V (As := [.int (nI 3)]) (rest := []) X h k17 (by decide) rfl (meX7_fails l G _ _ _ _ hw) gV_X7_101 rfl rfl hdV_X7_fails rfl ⟨Nat.le_of_ble_eq_true rfl, Nat.le_of_ble_eq_true rfl⟩ hl.1 rfl (Nat.le_of_ble_eq_true rfl) ⟨Nat.le_of_ble_eq_true rfl, Nat.le_of_ble_eq_true rfl⟩ dX7_lacks_47 (fun x18 S16 H locs hw h => ?_)
        exact (en_i X h hr hw (Nat.le_of_ble_eq_true rfl) (Nat.le_of_ble_eq_true rfl) dX7_lacks_50)
    · have hw := hw.2 c7
      refine lv_aload_n hx hb dX7_lacks_31 rfl (lv_at hl 0 rfl) ?_
      refine lv_iconst (v := (nI 2)) hx hb dX7_lacks_32 (by decide) ?_
      obtain ⟨k20, hw⟩ := hw
      refine rc_V (As := [.int (nI 2)]) (rest := []) X h k20 (by decide) rfl (meX7_fails l G _ _ _ _ hw) gV_X7_101 rfl rfl hdV_X7_fails rfl ⟨Nat.le_of_ble_eq_true rfl, Nat.le_of_ble_eq_true rfl⟩ hl.1 rfl (Nat.le_of_ble_eq_true rfl) ⟨Nat.le_of_ble_eq_true rfl, Nat.le_of_ble_eq_true rfl⟩ dX7_lacks_33 (fun x21 S19 H locs hw h => ?_)
      exact (en_i X h hr hw (Nat.le_of_ble_eq_true rfl) (Nat.le_of_ble_eq_true rfl) dX7_lacks_36)
  · have hw := hw.2 c4
    refine lv_aload_n hx hb dX7_lacks_14 rfl (lv_at hl 0 rfl) ?_
    refine lv_iconst (v := (nI 1)) hx hb dX7_lacks_15 (by decide) ?_
    obtain ⟨k23, hw⟩ := hw
    refine rc_V (As := [.int (nI 1)]) (rest := []) X h k23 (by decide) rfl (meX7_fails l G _ _ _ _ hw) gV_X7_101 rfl rfl hdV_X7_fails rfl ⟨Nat.le_of_ble_eq_true rfl, Nat.le_of_ble_eq_true rfl⟩ hl.1 rfl (Nat.le_of_ble_eq_true rfl) ⟨Nat.le_of_ble_eq_true rfl, Nat.le_of_ble_eq_true rfl⟩ dX7_lacks_16 (fun x24 S22 H locs hw h => ?_)
    exact (en_i X h hr hw (Nat.le_of_ble_eq_true rfl) (Nat.le_of_ble_eq_true rfl) dX7_lacks_19)
abbrev rmX6_lots : Room := { frames := 0, cells := 0, slots := 0, locals := 0 }
def wpX6_lots (S : Mem) (a0 : Nat) (post : Int32 → Mem → Prop) : Prop := isK S a0 6 ∧ (post (mI S a0 7) S)
set_option maxHeartbeats 4000000 in
set_option maxRecDepth 100000 in
theorem meX6_lots (l : Launch) (G : GT) (S : Mem) (a0 : Nat) (post : Int32 → Mem → Prop) (hw : wpX6_lots S a0 post) : CN emI l yX6_lots (wsU yX6_lots cX6_lots 1 (some .int)) rmX6_lots 0 0 G [.ref a0] S post := by
  refine cn_open RX6 rfl (by decide +kernel) (Nat.le_of_ble_eq_true rfl) ?_
  intro p e s m args below meth c A X h hr hin ls hl
  have hl : lv_has ls 1 [(0, .ref a0)] := hl
  have hx := X.1
  have hb := X.2.1
  have hown := X.2.2.2.1
  unfold wpX6_lots at hw
  refine lv_aload_n hx hb dX6_lots_0 rfl (lv_at hl 0 rfl) ?_
  obtain ⟨k1, hw⟩ := hw
  refine r_getI X h k1 7  (by decide) rfl inX6 (by decide) rfl q148 rfl dX6_lots_1 ?_
  exact (en_i X h hr hw (Nat.le_of_ble_eq_true rfl) (Nat.le_of_ble_eq_true rfl) dX6_lots_4)
abbrev rmX7_lots : Room := { frames := 0, cells := 0, slots := 0, locals := 0 }
def wpX7_lots (S : Mem) (a0 : Nat) (post : Int32 → Mem → Prop) : Prop := isK S a0 7 ∧ (∀ S2 : Mem, S2 = (sI S a0 0 (nI 0)) → (post (mI S2 a0 3) S2))
set_option maxHeartbeats 4000000 in
set_option maxRecDepth 100000 in
theorem meX7_lots (l : Launch) (G : GT) (S : Mem) (a0 : Nat) (post : Int32 → Mem → Prop) (hw : wpX7_lots S a0 post) : CN emI l yX7_lots (wsU yX7_lots cX7_lots 1 (some .int)) rmX7_lots 0 0 G [.ref a0] S post := by
  refine cn_open RX7 rfl (by decide +kernel) (Nat.le_of_ble_eq_true rfl) ?_
  intro p e s m args below meth c A X h hr hin ls hl
  have hl : lv_has ls 1 [(0, .ref a0)] := hl
  have hx := X.1
  have hb := X.2.1
  have hown := X.2.2.2.1
  unfold wpX7_lots at hw
  refine lv_aload_n hx hb dX7_lots_0 rfl (lv_at hl 0 rfl) ?_
  refine lv_iconst (v := (nI 0)) hx hb dX7_lots_1 (by decide) ?_
  obtain ⟨k1, hw⟩ := hw
  refine r_putI X h k1 0 (by decide) rfl inX7 tyX7 tyX7_ok nmX7 (by decide) rfl (Nat.le_of_ble_eq_true rfl) q848 rfl rfl (tyX7_ok 0 (by decide)) rfl rfl dX7_lots_2 (fun H locs h => ?_)
  obtain ⟨S2, eS2⟩ : ∃ z : Mem, z = (sI S a0 0 (nI 0)) := ⟨_, rfl⟩
  rw [← eS2] at h
  have hw := hw S2 eS2
  refine lv_aload_n hx hb dX7_lots_5 rfl (lv_at hl 0 rfl) ?_
  refine r_getI X h (kI eS2 k1) 3  (by decide) rfl inX7 (by decide) rfl q851 rfl dX7_lots_6 ?_
  exact (en_i X h hr hw (Nat.le_of_ble_eq_true rfl) (Nat.le_of_ble_eq_true rfl) dX7_lots_9)
abbrev rmX7_copies : Room := { frames := 1, cells := 0, slots := 0, locals := 22 }
def wpX7_copies (S : Mem) (a0 : Nat) (p1 : Int32) (post : Int32 → Mem → Prop) : Prop := isK S a0 7 ∧ (wpX7_in S p1 (nI 0) ((mI S a0 3) - (nI 1)) (fun x3 S2 => (¬ x3 = 0 → (isK S2 a0 7 ∧ (∀ S6 : Mem, S6 = (sI S2 a0 0 (nI 0)) → (∃ o7, mR S6 a0 23 = some o7 ∧ (isK S6 o7 8 ∧ (vp_in p1 (mN S6 o7) ∧ (post (mI S6 o7 p1.toNatClampNeg) S6))))))) ∧ (x3 = 0 → (isK S2 a0 7 ∧ (wpX7_fails S2 a0 (nI 1) (fun x12 S10 => post x12 S10))))))
set_option maxHeartbeats 4000000 in
set_option maxRecDepth 100000 in
theorem meX7_copies (l : Launch) (G : GT) (S : Mem) (a0 : Nat) (p1 : Int32) (post : Int32 → Mem → Prop) (hw : wpX7_copies S a0 p1 post) : CN emI l yX7_copies (wsU yX7_copies cX7_copies 2 (some .int)) rmX7_copies 0 0 G [.ref a0, .int p1] S post := by
  refine cn_open RX7 rfl (by decide +kernel) (Nat.le_of_ble_eq_true rfl) ?_
  intro p e s m args below meth c A X h hr hin ls hl
  have hl : lv_has ls 2 [(0, .ref a0), (1, .int p1)] := hl
  have hx := X.1
  have hb := X.2.1
  have hown := X.2.2.2.1
  unfold wpX7_copies at hw
  refine lv_iload_n hx hb dX7_copies_0 rfl (lv_at hl 1 rfl) ?_
  refine lv_iconst (v := (nI 0)) hx hb dX7_copies_1 (by decide) ?_
  refine lv_aload_n hx hb dX7_copies_2 rfl (lv_at hl 0 rfl) ?_
  obtain ⟨k1, hw⟩ := hw
  refine r_getI X h k1 3  (by decide) rfl inX7 (by decide) rfl q851 rfl dX7_copies_3 ?_
  refine lv_iconst (v := (nI 1)) hx hb dX7_copies_6 (by decide) ?_
  refine lv_isub hx hb dX7_copies_7 ?_
  refine rc_S (As := [.int p1, .int (nI 0), .int ((mI S a0 3) - (nI 1))]) (rest := []) X h (meX7_in l G _ _ _ _ _ hw) gS_X7_60 rfl rfl hdS_X7_in rfl ⟨Nat.le_of_ble_eq_true rfl, Nat.le_of_ble_eq_true rfl⟩ hl.1 rfl (Nat.le_of_ble_eq_true rfl) ⟨Nat.le_of_ble_eq_true rfl, Nat.le_of_ble_eq_true rfl⟩ dX7_copies_8 (fun x3 S2 H locs hw h => ?_)
  refine lv_if_ne (tgt := 20) hx hb dX7_copies_11 (by decide) (fun c4 => ?_) (fun c4 => ?_)
  · have hw := hw.1 c4
    refine lv_aload_n hx hb dX7_copies_20 rfl (lv_at hl 0 rfl) ?_
    refine lv_iconst (v := (nI 0)) hx hb dX7_copies_21 (by decide) ?_
    obtain ⟨k5, hw⟩ := hw
    refine r_putI X h k5 0 (by decide) rfl inX7 tyX7 tyX7_ok nmX7 (by decide) rfl (Nat.le_of_ble_eq_true rfl) q848 rfl rfl (tyX7_ok 0 (by decide)) rfl rfl dX7_copies_22 (fun H locs h => ?_)
    obtain ⟨S6, eS6⟩ : ∃ z : Mem, z = (sI S2 a0 0 (nI 0)) := ⟨_, rfl⟩
    rw [← eS6] at h
    have hw := hw S6 eS6
    refine lv_aload_n hx hb dX7_copies_25 rfl (lv_at hl 0 rfl) ?_
    obtain ⟨o7, eo7, hw⟩ := hw
    refine r_getR X h (kI eS6 k5) 23 eo7  (by decide) rfl inX7 (by decide) rfl q871 rfl dX7_copies_26 ?_
    refine lv_iload_n hx hb dX7_copies_29 rfl (lv_at hl 1 rfl) ?_
    obtain ⟨k8, hw⟩ := hw
    obtain ⟨v9, hw⟩ := hw
    refine r_iald X h k8 v9 dX7_copies_30 ?_
    exact (en_i X h hr hw (Nat.le_of_ble_eq_true rfl) (Nat.le_of_ble_eq_true rfl) dX7_copies_31)
  · have hw := hw.2 c4
    refine lv_aload_n hx hb dX7_copies_14 rfl (lv_at hl 0 rfl) ?_
    refine lv_iconst (v := (nI 1)) hx hb dX7_copies_15 (by decide) ?_
    obtain ⟨k11, hw⟩ := hw
    refine rc_V (As := [.int (nI 1)]) (rest := []) X h k11 (by decide) rfl (meX7_fails l G _ _ _ _ hw) gV_X7_101 rfl rfl hdV_X7_fails rfl ⟨Nat.le_of_ble_eq_true rfl, Nat.le_of_ble_eq_true rfl⟩ hl.1 rfl (Nat.le_of_ble_eq_true rfl) ⟨Nat.le_of_ble_eq_true rfl, Nat.le_of_ble_eq_true rfl⟩ dX7_copies_16 (fun x12 S10 H locs hw h => ?_)
    exact (en_i X h hr hw (Nat.le_of_ble_eq_true rfl) (Nat.le_of_ble_eq_true rfl) dX7_copies_19)
abbrev rmX6_requirePage : Room := { frames := 6, cells := 1, slots := 6, locals := 90 }
def wpX6_requirePage (S : Mem) (a0 : Nat) (p1 : Int32) (post : Unit → Mem → Prop) (px : Nat → Mem → Prop) : Prop := (p1 < (nI 1) → (px 3 S)) ∧ (¬ p1 < (nI 1) → (isK S a0 2 ∧ ((p1 ≤ (mI S a0 1) → (post () S)) ∧ (¬ p1 ≤ (mI S a0 1) → (px 3 S)))))
set_option maxHeartbeats 4000000 in
set_option maxRecDepth 100000 in
theorem meX6_requirePage (l : Launch) (hl9 : l.stackTraces = false) (G : GT) (S : Mem) (a0 : Nat) (p1 : Int32) (post : Unit → Mem → Prop) (px : Nat → Mem → Prop) (hw : wpX6_requirePage S a0 p1 post px) : CX emV l yX6_requirePage (wsU yX6_requirePage cX6_requirePage 2 none) rmX6_requirePage 1 6 G [.ref a0, .int p1] S post px := by
  refine cx_open RX6 rfl (by decide +kernel) (Nat.le_of_ble_eq_true rfl) ?_
  intro p e s m args below meth c A X h hr hno ls hl
  have hl : lv_has ls 2 [(0, .ref a0), (1, .int p1)] := hl
  have hx := X.1
  have hb := X.2.1
  have hown := X.2.2.2.1
  unfold wpX6_requirePage at hw
  refine lv_iload_n hx hb dX6_requirePage_0 rfl (lv_at hl 1 rfl) ?_
  refine lv_iconst (v := (nI 1)) hx hb dX6_requirePage_1 (by decide) ?_
  refine lv_icmp_lt (tgt := 13) hx hb dX6_requirePage_2 (by decide) (fun c1 => ?_) (fun c1 => ?_)
  · have hw := hw.1 c1
    exact en_yW ta_X6_138d0 ta_X6_138d1 ta_X6_138d2 ta_X6_138d5 3 X h hl9 th_X6_298 hl.1 hno dX6_requirePage_13 dX6_requirePage_16 dX6_requirePage_17 dX6_requirePage_20 dX6_requirePage_23 ⟨Nat.le_of_ble_eq_true rfl, Nat.le_of_ble_eq_true rfl⟩ ⟨Nat.le_of_ble_eq_true rfl, Nat.le_of_ble_eq_true rfl⟩ ⟨Nat.le_of_ble_eq_true rfl, Nat.le_of_ble_eq_true rfl⟩ hw
  · have hw := hw.2 c1
    refine lv_iload_n hx hb dX6_requirePage_5 rfl (lv_at hl 1 rfl) ?_
    refine lv_aload_n hx hb dX6_requirePage_6 rfl (lv_at hl 0 rfl) ?_
    obtain ⟨k2, hw⟩ := hw
    refine r_getIN X h k2 1  (by decide) rfl inX2 (by decide) rfl q722 rfl dX6_requirePage_7 ?_
    refine lv_icmp_le (tgt := 24) hx hb dX6_requirePage_10 (by decide) (fun c3 => ?_) (fun c3 => ?_)
    · have hw := hw.1 c3
      exact vx_ret (en_v X h hr hw (Nat.le_of_ble_eq_true rfl) (Nat.le_of_ble_eq_true rfl) dX6_requirePage_24)
    · have hw := hw.2 c3
      exact en_yW ta_X6_138d0 ta_X6_138d1 ta_X6_138d2 ta_X6_138d5 3 X h hl9 th_X6_298 hl.1 hno dX6_requirePage_13 dX6_requirePage_16 dX6_requirePage_17 dX6_requirePage_20 dX6_requirePage_23 ⟨Nat.le_of_ble_eq_true rfl, Nat.le_of_ble_eq_true rfl⟩ ⟨Nat.le_of_ble_eq_true rfl, Nat.le_of_ble_eq_true rfl⟩ ⟨Nat.le_of_ble_eq_true rfl, Nat.le_of_ble_eq_true rfl⟩ hw
abbrev rmX2_keptState : Room := { frames := 1, cells := 0, slots := 0, locals := 21 }
def wpX2_keptState (S : Mem) (a0 : Nat) (p1 : Int32) (post : Int32 → Mem → Prop) : Prop := isK S a0 2 ∧ (∃ o2, mR S a0 4 = some o2 ∧ (wpX6_at S o2 (p1 - (nI 1)) (fun x4 S3 => post x4 S3)))
set_option maxHeartbeats 4000000 in
set_option maxRecDepth 100000 in
theorem meX2_keptState (l : Launch) (G : GT) (S : Mem) (a0 : Nat) (p1 : Int32) (post : Int32 → Mem → Prop) (hw : wpX2_keptState S a0 p1 post) : CN emI l yX2_keptState (wsU yX2_keptState cX2_keptState 2 (some .int)) rmX2_keptState 0 0 G [.ref a0, .int p1] S post := by
  refine cn_open RX2 rfl (by decide +kernel) (Nat.le_of_ble_eq_true rfl) ?_
  intro p e s m args below meth c A X h hr hin ls hl
  have hl : lv_has ls 2 [(0, .ref a0), (1, .int p1)] := hl
  have hx := X.1
  have hb := X.2.1
  have hown := X.2.2.2.1
  unfold wpX2_keptState at hw
  refine lv_aload_n hx hb dX2_keptState_0 rfl (lv_at hl 0 rfl) ?_
  obtain ⟨k1, hw⟩ := hw
  obtain ⟨o2, eo2, hw⟩ := hw
  refine r_getR X h k1 4 eo2  (by decide) rfl inX2 (by decide) rfl q726 rfl dX2_keptState_1 ?_
  refine lv_iload_n hx hb dX2_keptState_4 rfl (lv_at hl 1 rfl) ?_
  refine lv_iconst (v := (nI 1)) hx hb dX2_keptState_5 (by decide) ?_
  refine lv_isub hx hb dX2_keptState_6 ?_
  refine rc_SN (As := [.ref o2, .int (p1 - (nI 1))]) (rest := []) X h (meX6_at l G _ _ _ _ hw) gU_X2_32 q782 q33 q327 rfl rfl hdS_X6_at rfl ⟨Nat.le_of_ble_eq_true rfl, Nat.le_of_ble_eq_true rfl⟩ hl.1 rfl (Nat.le_of_ble_eq_true rfl) ⟨Nat.le_of_ble_eq_true rfl, Nat.le_of_ble_eq_true rfl⟩ dX2_keptState_7 (fun x4 S3 H locs hw h => ?_)
  exact (en_i X h hr hw (Nat.le_of_ble_eq_true rfl) (Nat.le_of_ble_eq_true rfl) dX2_keptState_10)
abbrev rmX6_stateIn : Room := { frames := 7, cells := 2, slots := 12, locals := 112 }
def wpX6_stateIn (S : Mem) (a0 : Nat) (p1 : Int32) (p2 : Int32) (post : Int32 → Mem → Prop) (px : Nat → Mem → Prop) : Prop := isK S a0 6 ∧ (wpX6_existingLot S a0 p1 (fun r3 S1 => ∃ o4, r3 = some o4 ∧ (wpX6_requirePage S1 o4 p2 (fun u6 S5 => isK S5 o4 2 ∧ (wpX2_keptState S5 o4 p2 (fun x9 S7 => post x9 S7))) px)) px)
set_option maxHeartbeats 4000000 in
set_option maxRecDepth 100000 in
theorem meX6_stateIn (l : Launch) (hl9 : l.stackTraces = false) (G : GT) (S : Mem) (a0 : Nat) (p1 : Int32) (p2 : Int32) (post : Int32 → Mem → Prop) (px : Nat → Mem → Prop) (hw : wpX6_stateIn S a0 p1 p2 post px) : CX emI l yX6_stateIn (wsU yX6_stateIn cX6_stateIn 4 (some .int)) rmX6_stateIn 2 12 G [.ref a0, .int p1, .int p2] S post px := by
  refine cx_open RX6 rfl (by decide +kernel) (Nat.le_of_ble_eq_true rfl) ?_
  intro p e s m args below meth c A X h hr hno ls hl
  have hl : lv_has ls 4 [(0, .ref a0), (1, .int p1), (2, .int p2)] := hl
  have hx := X.1
  have hb := X.2.1
  have hown := X.2.2.2.1
  unfold wpX6_stateIn at hw
  refine lv_aload_n hx hb dX6_stateIn_0 rfl (lv_at hl 0 rfl) ?_
  refine lv_iload_n hx hb dX6_stateIn_1 rfl (lv_at hl 1 rfl) ?_
  obtain ⟨k2, hw⟩ := hw
  refine rx_V (As := [.int p1]) (rest := []) X h hno k2 (by decide) rfl (meX6_existingLot l hl9 G _ _ _ _ _ hw) gV_X6_243 rfl rfl hdV_X6_existingLot rfl ⟨Nat.le_of_ble_eq_true rfl, Nat.le_of_ble_eq_true rfl⟩ hl.1 rfl (Nat.le_of_ble_eq_true rfl) ⟨Nat.le_of_ble_eq_true rfl, Nat.le_of_ble_eq_true rfl⟩ ⟨Nat.le_of_ble_eq_true rfl, Nat.le_of_ble_eq_true rfl⟩ dX6_stateIn_2 (fun r3 S1 H locs hw h => ?_)
  obtain ⟨o4, rfl, hw⟩ := hw
  refine lv_astore_n (lv' := [(3, .ref o4), (0, .ref a0), (1, .int p1), (2, .int p2)]) hx hb dX6_stateIn_5 rfl hl (by decide) rfl (fun ls hl => ?_)
  refine lv_aload_n hx hb dX6_stateIn_6 rfl (lv_at hl 0 rfl) ?_
  refine lv_iload_n hx hb dX6_stateIn_7 rfl (lv_at hl 3 rfl) ?_
  refine rx_S (As := [.ref o4, .int p2]) (rest := []) X h hno (meX6_requirePage l hl9 G _ _ _ _ _ hw) gS_X6_250 rfl rfl hdS_X6_requirePage rfl ⟨Nat.le_of_ble_eq_true rfl, Nat.le_of_ble_eq_true rfl⟩ hl.1 rfl (Nat.le_of_ble_eq_true rfl) ⟨Nat.le_of_ble_eq_true rfl, Nat.le_of_ble_eq_true rfl⟩ ⟨Nat.le_of_ble_eq_true rfl, Nat.le_of_ble_eq_true rfl⟩ dX6_stateIn_8 (fun u6 S5 H locs hw h => ?_)
  refine lv_aload_n hx hb dX6_stateIn_11 rfl (lv_at hl 0 rfl) ?_
  refine lv_iload_n hx hb dX6_stateIn_12 rfl (lv_at hl 3 rfl) ?_
  obtain ⟨k8, hw⟩ := hw
  refine rc_V (As := [.int p2]) (rest := []) X h k8 (by decide) rfl (meX2_keptState l G _ _ _ _ hw) gV_X6_254 rfl rfl hdV_X2_keptState rfl ⟨Nat.le_of_ble_eq_true rfl, Nat.le_of_ble_eq_true rfl⟩ hl.1 rfl (Nat.le_of_ble_eq_true rfl) ⟨Nat.le_of_ble_eq_true rfl, Nat.le_of_ble_eq_true rfl⟩ dX6_stateIn_13 (fun x9 S7 H locs hw h => ?_)
  exact vx_ret (en_i X h hr hw (Nat.le_of_ble_eq_true rfl) (Nat.le_of_ble_eq_true rfl) dX6_stateIn_16)
abbrev rmL_stateIn : Room := { frames := 8, cells := 2, slots := 12, locals := 135 }
def wpL_stateIn (S : Mem) (a0 : Nat) (p1 : Int32) (p2 : Int32) (a3 : Nat) (post : Int32 → Mem → Prop) : Prop := isK S a0 6 ∧ (wpX6_stateIn S a0 p1 p2 (fun x3 S1 => isK S1 a3 12 ∧ (vp_in (nI 0) (mN S1 a3) ∧ (∀ S8 : Mem, S8 = (sJ S1 a3 (nI 0).toNatClampNeg x3.toInt64) → (post (nI 0) S8)))) (fun k4 S5 => (k4 = 1 → (post (nI 1) S5)) ∧ (k4 = 3 → (post (nI 2) S5)) ∧ (k4 = 1 ∨ k4 = 3)))
set_option maxHeartbeats 4000000 in
set_option maxRecDepth 100000 in
theorem meL_stateIn (l : Launch) (hl9 : l.stackTraces = false) (G : GT) (S : Mem) (a0 : Nat) (p1 : Int32) (p2 : Int32) (a3 : Nat) (post : Int32 → Mem → Prop) (hw : wpL_stateIn S a0 p1 p2 a3 post) : CN emI l yL_stateIn (wsH yL_stateIn cL_stateIn 5 (some .int) [(0, 10, 13, 19), (0, 10, 17, 48)]) rmL_stateIn 2 12 G [.ref a0, .int p1, .int p2, .ref a3] S post := by
  refine ch_open RL rfl (by decide +kernel) (Nat.le_of_ble_eq_true rfl) ?_
  intro p e s m args below meth c A X h hr hTab ls hl
  have hl : lv_has ls 5 [(0, .ref a0), (1, .int p1), (2, .int p2), (3, .ref a3)] := hl
  have hx := X.1
  have hb := X.2.1
  have hown := X.2.2.2.1
  unfold wpL_stateIn at hw
  refine lv_aload_n hx hb dL_stateIn_0 rfl (lv_at hl 3 rfl) ?_
  refine lv_iconst (v := (nI 0)) hx hb dL_stateIn_1 (by decide) ?_
  refine lv_aload_n hx hb dL_stateIn_2 rfl (lv_at hl 0 rfl) ?_
  refine lv_iload_n hx hb dL_stateIn_3 rfl (lv_at hl 1 rfl) ?_
  refine lv_iload_n hx hb dL_stateIn_4 rfl (lv_at hl 2 rfl) ?_
  obtain ⟨k2, hw⟩ := hw
  refine rx_VH (As := [.int p1, .int p2]) (rest := [.int (nI 0), .ref a3]) X h k2 (by decide) rfl (meX6_stateIn l hl9 G _ _ _ _ _ _ hw) gV_L_82 rfl rfl hdV_X6_stateIn rfl ⟨Nat.le_of_ble_eq_true rfl, Nat.le_of_ble_eq_true rfl⟩ hl.1 rfl (Nat.le_of_ble_eq_true rfl) ⟨Nat.le_of_ble_eq_true rfl, Nat.le_of_ble_eq_true rfl⟩ dL_stateIn_5 (fun k4 S5 H locs q9 ce hw h hce hcv hcl => ?_) (fun x3 S1 H locs hw h => ?_)
  · rcases hw.2.2 with hk9 | hk9
    · subst hk9
      have hw := hw.1 rfl
      refine vx_catch (own := RL) (name := "java/lang/IndexOutOfBoundsException") (E := xn 1) hown [] ⟨0, 10, 13, 19⟩ [⟨0, 10, 17, 48⟩] (by rw [hTab]; rfl) (fun z hz => nomatch hz) (by decide) (by decide) (X.hts q277) (va_Nw.use (by rfl) (X.nw q311)) hce hcv hcl ?_
      refine lv_astore (lv' := [(4, .ref q9), (0, .ref a0), (1, .int p1), (2, .int p2), (3, .ref a3)]) hx hb dL_stateIn_13 hl (by decide) rfl (fun ls hl => ?_)
      refine lv_iconst (v := (nI 1)) hx hb dL_stateIn_15 (by decide) ?_
      exact (en_i X h hr hw (Nat.le_of_ble_eq_true rfl) (Nat.le_of_ble_eq_true rfl) dL_stateIn_16)
    · subst hk9
      have hw := hw.2.1 rfl
      have hpass3 : ∀ z ∈ ([⟨0, 10, 13, 19⟩] : List ExceptionTableEntry), covers z 5 = false ∨ (z.catchType ≠ 0 ∧ ∃ nm : String, (Cond.classLink RL z.catchType nm).before args s = true ∧ va_Nc (xn 3) nm s) := by
        intro z hz
        rcases List.mem_cons.mp hz with rfl | hz
        · exact Or.inr ⟨by decide, "java/lang/IndexOutOfBoundsException", X.hts q277, X.2.2.2.2.2.2.1.2.2.2.2.1 ("java/util/NoSuchElementException", "java/lang/IndexOutOfBoundsException") (by decide +kernel)⟩
        cases hz
      refine vx_catch (own := RL) (name := "java/util/NoSuchElementException") (E := xn 3) hown [⟨0, 10, 13, 19⟩] ⟨0, 10, 17, 48⟩ [] (by rw [hTab]; rfl) (hpass3) (by decide) (by decide) (X.hts q495) (va_Nw.use (by rfl) (X.nw q505)) hce hcv hcl ?_
      refine lv_astore (lv' := [(4, .ref q9), (0, .ref a0), (1, .int p1), (2, .int p2), (3, .ref a3)]) hx hb dL_stateIn_17 hl (by decide) rfl (fun ls hl => ?_)
      refine lv_iconst (v := (nI 2)) hx hb dL_stateIn_19 (by decide) ?_
      exact (en_i X h hr hw (Nat.le_of_ble_eq_true rfl) (Nat.le_of_ble_eq_true rfl) dL_stateIn_20)
  · refine lv_i2l (v := x3.toInt64) hx hb dL_stateIn_8 rfl ?_
    obtain ⟨k6, hw⟩ := hw
    obtain ⟨v7, hw⟩ := hw
    refine r_last X h k6 v7 dL_stateIn_9 (fun H locs h => ?_)
    obtain ⟨S8, eS8⟩ : ∃ z : Mem, z = (sJ S1 a3 (nI 0).toNatClampNeg x3.toInt64) := ⟨_, rfl⟩
    rw [← eS8] at h
    have hw := hw S8 eS8
    refine lv_goto (tgt := 21) hx hb dL_stateIn_10 (by decide) ?_
    refine lv_iconst (v := (nI 0)) hx hb dL_stateIn_21 (by decide) ?_
    exact (en_i X h hr hw (Nat.le_of_ble_eq_true rfl) (Nat.le_of_ble_eq_true rfl) dL_stateIn_22)
abbrev rmX7_stateIn : Room := { frames := 1, cells := 0, slots := 0, locals := 22 }
def wpX7_stateIn (S : Mem) (a0 : Nat) (p1 : Int32) (p2 : Int32) (post : Int32 → Mem → Prop) : Prop := isK S a0 7 ∧ (wpX7_in S p1 (nI 0) ((mI S a0 3) - (nI 1)) (fun x3 S2 => (¬ x3 = 0 → (isK S2 a0 7 ∧ (∃ o6, mR S2 a0 24 = some o6 ∧ (isK S2 o6 8 ∧ (vp_in p1 (mN S2 o6) ∧ (wpX7_in S2 p2 (nI 1) (mI S2 o6 p1.toNatClampNeg) (fun x10 S9 => (¬ x10 = 0 → (isK S9 a0 7 ∧ (∀ S13 : Mem, S13 = (sI S9 a0 0 (nI 0)) → (∃ o14, mR S13 a0 25 = some o14 ∧ (isK S13 o14 8 ∧ (vp_in ((((nI 16) * p1) + p2) - (nI 1)) (mN S13 o14) ∧ (post (mI S13 o14 ((((nI 16) * p1) + p2) - (nI 1)).toNatClampNeg) S13))))))) ∧ (x10 = 0 → (isK S9 a0 7 ∧ (wpX7_fails S9 a0 (nI 2) (fun x19 S17 => post x19 S17))))))))))) ∧ (x3 = 0 → (isK S2 a0 7 ∧ (wpX7_fails S2 a0 (nI 1) (fun x22 S20 => post x22 S20))))))
set_option maxHeartbeats 4000000 in
set_option maxRecDepth 100000 in
theorem meX7_stateIn (l : Launch) (G : GT) (S : Mem) (a0 : Nat) (p1 : Int32) (p2 : Int32) (post : Int32 → Mem → Prop) (hw : wpX7_stateIn S a0 p1 p2 post) : CN emI l yX7_stateIn (wsU yX7_stateIn cX7_stateIn 3 (some .int)) rmX7_stateIn 0 0 G [.ref a0, .int p1, .int p2] S post := by
  refine cn_open RX7 rfl (by decide +kernel) (Nat.le_of_ble_eq_true rfl) ?_
  intro p e s m args below meth c A X h hr hin ls hl
  have hl : lv_has ls 3 [(0, .ref a0), (1, .int p1), (2, .int p2)] := hl
  have hx := X.1
  have hb := X.2.1
  have hown := X.2.2.2.1
  unfold wpX7_stateIn at hw
  refine lv_iload_n hx hb dX7_stateIn_0 rfl (lv_at hl 1 rfl) ?_
  refine lv_iconst (v := (nI 0)) hx hb dX7_stateIn_1 (by decide) ?_
  refine lv_aload_n hx hb dX7_stateIn_2 rfl (lv_at hl 0 rfl) ?_
  obtain ⟨k1, hw⟩ := hw
  refine r_getI X h k1 3  (by decide) rfl inX7 (by decide) rfl q851 rfl dX7_stateIn_3 ?_
  refine lv_iconst (v := (nI 1)) hx hb dX7_stateIn_6 (by decide) ?_
  refine lv_isub hx hb dX7_stateIn_7 ?_
  refine rc_S (As := [.int p1, .int (nI 0), .int ((mI S a0 3) - (nI 1))]) (rest := []) X h (meX7_in l G _ _ _ _ _ hw) gS_X7_60 rfl rfl hdS_X7_in rfl ⟨Nat.le_of_ble_eq_true rfl, Nat.le_of_ble_eq_true rfl⟩ hl.1 rfl (Nat.le_of_ble_eq_true rfl) ⟨Nat.le_of_ble_eq_true rfl, Nat.le_of_ble_eq_true rfl⟩ dX7_stateIn_8 (fun x3 S2 H locs hw h => ?_)
  refine lv_if_ne (tgt := 20) hx hb dX7_stateIn_11 (by decide) (fun c4 => ?_) (fun c4 => ?_)
  · have hw := hw.1 c4
    refine lv_iload_n hx hb dX7_stateIn_20 rfl (lv_at hl 2 rfl) ?_
    refine lv_iconst (v := (nI 1)) hx hb dX7_stateIn_21 (by decide) ?_
    refine lv_aload_n hx hb dX7_stateIn_22 rfl (lv_at hl 0 rfl) ?_
    obtain ⟨k5, hw⟩ := hw
    obtain ⟨o6, eo6, hw⟩ := hw
    refine r_getR X h k5 24 eo6  (by decide) rfl inX7 (by decide) rfl q872 rfl dX7_stateIn_23 ?_
    refine lv_iload_n hx hb dX7_stateIn_26 rfl (lv_at hl 1 rfl) ?_
    obtain ⟨k7, hw⟩ := hw
    obtain ⟨v8, hw⟩ := hw
    refine r_iald X h k7 v8 dX7_stateIn_27 ?_
    refine rc_S (As := [.int p2, .int (nI 1), .int (mI S2 o6 p1.toNatClampNeg)]) (rest := []) X h (meX7_in l G _ _ _ _ _ hw) gS_X7_60 rfl rfl hdS_X7_in rfl ⟨Nat.le_of_ble_eq_true rfl, Nat.le_of_ble_eq_true rfl⟩ hl.1 rfl (Nat.le_of_ble_eq_true rfl) ⟨Nat.le_of_ble_eq_true rfl, Nat.le_of_ble_eq_true rfl⟩ dX7_stateIn_28 (fun x10 S9 H locs hw h => ?_)
    refine lv_if_ne (tgt := 40) hx hb dX7_stateIn_31 (by decide) (fun c11 => ?_) (fun c11 => ?_)
    · have hw := hw.1 c11
      refine lv_aload_n hx hb dX7_stateIn_40 rfl (lv_at hl 0 rfl) ?_
      refine lv_iconst (v := (nI 0)) hx hb dX7_stateIn_41 (by decide) ?_
      obtain ⟨k12, hw⟩ := hw
      refine r_putI X h k12 0 (by decide) rfl inX7 tyX7 tyX7_ok nmX7 (by decide) rfl (Nat.le_of_ble_eq_true rfl) q848 rfl rfl (tyX7_ok 0 (by decide)) rfl rfl dX7_stateIn_42 (fun H locs h => ?_)
      obtain ⟨S13, eS13⟩ : ∃ z : Mem, z = (sI S9 a0 0 (nI 0)) := ⟨_, rfl⟩
      rw [← eS13] at h
      have hw := hw S13 eS13
      refine lv_aload_n hx hb dX7_stateIn_45 rfl (lv_at hl 0 rfl) ?_
      obtain ⟨o14, eo14, hw⟩ := hw
      refine r_getR X h (kI eS13 k12) 25 eo14  (by decide) rfl inX7 (by decide) rfl q873 rfl dX7_stateIn_46 ?_
      refine lv_bipush (v := (nI 16)) hx hb dX7_stateIn_49 (by decide) ?_
      refine lv_iload_n hx hb dX7_stateIn_51 rfl (lv_at hl 1 rfl) ?_
      refine lv_imul hx hb dX7_stateIn_52 ?_
      refine lv_iload_n hx hb dX7_stateIn_53 rfl (lv_at hl 2 rfl) ?_
      refine lv_iadd hx hb dX7_stateIn_54 ?_
      refine lv_iconst (v := (nI 1)) hx hb dX7_stateIn_55 (by decide) ?_
      refine lv_isub hx hb dX7_stateIn_56 ?_
      obtain ⟨k15, hw⟩ := hw
      obtain ⟨v16, hw⟩ := hw
      refine r_iald X h k15 v16 dX7_stateIn_57 ?_
      exact (en_i X h hr hw (Nat.le_of_ble_eq_true rfl) (Nat.le_of_ble_eq_true rfl) dX7_stateIn_58)
    · have hw := hw.2 c11
      refine lv_aload_n hx hb dX7_stateIn_34 rfl (lv_at hl 0 rfl) ?_
      refine lv_iconst (v := (nI 2)) hx hb dX7_stateIn_35 (by decide) ?_
      obtain ⟨k18, hw⟩ := hw
      refine rc_V (As := [.int (nI 2)]) (rest := []) X h k18 (by decide) rfl (meX7_fails l G _ _ _ _ hw) gV_X7_101 rfl rfl hdV_X7_fails rfl ⟨Nat.le_of_ble_eq_true rfl, Nat.le_of_ble_eq_true rfl⟩ hl.1 rfl (Nat.le_of_ble_eq_true rfl) ⟨Nat.le_of_ble_eq_true rfl, Nat.le_of_ble_eq_true rfl⟩ dX7_stateIn_36 (fun x19 S17 H locs hw h => ?_)
      exact (en_i X h hr hw (Nat.le_of_ble_eq_true rfl) (Nat.le_of_ble_eq_true rfl) dX7_stateIn_39)
  · have hw := hw.2 c4
    refine lv_aload_n hx hb dX7_stateIn_14 rfl (lv_at hl 0 rfl) ?_
    refine lv_iconst (v := (nI 1)) hx hb dX7_stateIn_15 (by decide) ?_
    obtain ⟨k21, hw⟩ := hw
    refine rc_V (As := [.int (nI 1)]) (rest := []) X h k21 (by decide) rfl (meX7_fails l G _ _ _ _ hw) gV_X7_101 rfl rfl hdV_X7_fails rfl ⟨Nat.le_of_ble_eq_true rfl, Nat.le_of_ble_eq_true rfl⟩ hl.1 rfl (Nat.le_of_ble_eq_true rfl) ⟨Nat.le_of_ble_eq_true rfl, Nat.le_of_ble_eq_true rfl⟩ dX7_stateIn_16 (fun x22 S20 H locs hw h => ?_)
    exact (en_i X h hr hw (Nat.le_of_ble_eq_true rfl) (Nat.le_of_ble_eq_true rfl) dX7_stateIn_19)
abbrev rmX2_contentOf : Room := { frames := 1, cells := 0, slots := 0, locals := 21 }
def wpX2_contentOf (S : Mem) (a0 : Nat) (p1 : Int32) (post : Int32 → Mem → Prop) : Prop := isK S a0 2 ∧ (∃ o2, mR S a0 3 = some o2 ∧ (wpX6_at S o2 (p1 - (nI 1)) (fun x4 S3 => post x4 S3)))
set_option maxHeartbeats 4000000 in
set_option maxRecDepth 100000 in
theorem meX2_contentOf (l : Launch) (G : GT) (S : Mem) (a0 : Nat) (p1 : Int32) (post : Int32 → Mem → Prop) (hw : wpX2_contentOf S a0 p1 post) : CN emI l yX2_contentOf (wsU yX2_contentOf cX2_contentOf 2 (some .int)) rmX2_contentOf 0 0 G [.ref a0, .int p1] S post := by
  refine cn_open RX2 rfl (by decide +kernel) (Nat.le_of_ble_eq_true rfl) ?_
  intro p e s m args below meth c A X h hr hin ls hl
  have hl : lv_has ls 2 [(0, .ref a0), (1, .int p1)] := hl
  have hx := X.1
  have hb := X.2.1
  have hown := X.2.2.2.1
  unfold wpX2_contentOf at hw
  refine lv_aload_n hx hb dX2_contentOf_0 rfl (lv_at hl 0 rfl) ?_
  obtain ⟨k1, hw⟩ := hw
  obtain ⟨o2, eo2, hw⟩ := hw
  refine r_getR X h k1 3 eo2  (by decide) rfl inX2 (by decide) rfl q725 rfl dX2_contentOf_1 ?_
  refine lv_iload_n hx hb dX2_contentOf_4 rfl (lv_at hl 1 rfl) ?_
  refine lv_iconst (v := (nI 1)) hx hb dX2_contentOf_5 (by decide) ?_
  refine lv_isub hx hb dX2_contentOf_6 ?_
  refine rc_SN (As := [.ref o2, .int (p1 - (nI 1))]) (rest := []) X h (meX6_at l G _ _ _ _ hw) gU_X2_32 q782 q33 q327 rfl rfl hdS_X6_at rfl ⟨Nat.le_of_ble_eq_true rfl, Nat.le_of_ble_eq_true rfl⟩ hl.1 rfl (Nat.le_of_ble_eq_true rfl) ⟨Nat.le_of_ble_eq_true rfl, Nat.le_of_ble_eq_true rfl⟩ dX2_contentOf_7 (fun x4 S3 H locs hw h => ?_)
  exact (en_i X h hr hw (Nat.le_of_ble_eq_true rfl) (Nat.le_of_ble_eq_true rfl) dX2_contentOf_10)
