abbrev rmX6_correct : Room := { frames := 7, cells := 2, slots := 12, locals := 112 }
def wlX6_correct_32 (a0 : Nat) (p1 : Int32)  (post : Int32 → Mem → Prop) (px : Nat → Mem → Prop)  : Nat → Int32 → Int32 → Mem → Prop
  | 0 => fun _ _ _ => False
  | n + 1 => fun w2 w3 S => ((nI 4) ≤ w3 → (isK S a0 6 ∧ (∃ o12, mR S a0 0 = some o12 ∧ (isK S o12 0 ∧ (wpX0_noteCorrection S o12 p1 (fun u15 S13 => isK S13 a0 6 ∧ (∀ S17 : Mem, S17 = (sJ S13 a0 8 ((mJ S13 a0 8) + w2.toInt64)) → (post w2 S17)))))))) ∧ (¬ (nI 4) ≤ w3 → (isK S a0 6 ∧ (wpX6_findJob S a0 w3 (fun r20 S18 => (r20 = none → (∀ x22 : Int32, x22 = (w3 + (nI 1)) → (wlX6_correct_32 a0 p1 post px n w2 x22 S18))) ∧ (∀ o21, r20 = some o21 → (isK S18 o21 1 ∧ (wpX1_takeSheetsShowing S18 o21 p1 (fun x25 S23 => ∀ x26 : Int32, x26 = (w2 + x25) → (∀ x27 : Int32, x27 = (w3 + (nI 1)) → (wlX6_correct_32 a0 p1 post px n x26 x27 S23))))))))))
set_option maxHeartbeats 4000000 in
set_option maxRecDepth 100000 in
theorem llX6_correct_32 {p : Program} {l : Launch} {e : Env} {s : State} {m : MethodId} {args : Array Value} {below : List Frame} {meth : Method} {c : Code} {G : GT} {A : Nat → Prop} (hl9 : l.stackTraces = false) (hno : ∀ x ∈ c.exceptionTable.toList, False) (X : Cx p s m args meth c cX6_correct 5 RX6 G A) (hr : meth.sig.returnType = (some .int)) (a0 : Nat) (p1 : Int32)  (post : Int32 → Mem → Prop) (px : Nat → Mem → Prop)   : ∀ (n : Nat) (w2 : Int32) (w3 : Int32) (S : Mem), wlX6_correct_32 a0 p1 post px n w2 w3 S → ∀ (H : Heap) (locs : List Loc) (ls : Array Slot), Hx G A s.heap H locs S → lv_has ls 5 [(0, .ref a0), (1, .int p1), (2, .int w2), (3, .int w3)] → W p l e rmX6_correct s m args below meth c H locs 1 6 (vx_MQ below (QN emI post G A) (QX px G A) args s 2 12 A) (F0 m 32 ls []) := by
  have hx := X.1
  have hb := X.2.1
  have hown := X.2.2.2.1
  intro n
  induction n with
  | zero =>
    intro _ _ _ hw
    exact hw.elim
  | succ n ih =>
    intro w2 w3 S hw H locs ls h hl
    refine lv_iload_n hx hb dX6_correct_32 rfl (lv_at hl 3 rfl) ?_
    refine lv_iconst (v := (nI 4)) hx hb dX6_correct_33 (by decide) ?_
    refine lv_icmp_ge (tgt := 64) hx hb dX6_correct_34 (by decide) (fun c10 => ?_) (fun c10 => ?_)
    · have hw := hw.1 c10
      refine lv_aload_n hx hb dX6_correct_64 rfl (lv_at hl 0 rfl) ?_
      obtain ⟨k11, hw⟩ := hw
      obtain ⟨o12, eo12, hw⟩ := hw
      refine r_getR X h k11 0 eo12  (by decide) rfl inX6 (by decide) rfl q141 rfl dX6_correct_65 ?_
      refine lv_iload_n hx hb dX6_correct_68 rfl (lv_at hl 1 rfl) ?_
      obtain ⟨k14, hw⟩ := hw
      refine rc_V (As := [.int p1]) (rest := []) X h k14 (by decide) rfl (meX0_noteCorrection l G _ _ _ _ hw) gV_X6_89 rfl rfl hdV_X0_noteCorrection rfl ⟨Nat.le_of_ble_eq_true rfl, Nat.le_of_ble_eq_true rfl⟩ hl.1 rfl (Nat.le_of_ble_eq_true rfl) ⟨Nat.le_of_ble_eq_true rfl, Nat.le_of_ble_eq_true rfl⟩ dX6_correct_69 (fun u15 S13 H locs hw h => ?_)
      refine lv_aload_n hx hb dX6_correct_72 rfl (lv_at hl 0 rfl) ?_
      refine lv_dup hx hb dX6_correct_73 rfl ?_
      obtain ⟨k16, hw⟩ := hw
      refine r_getJ X h k16 8  (by decide) rfl inX6 (by decide) rfl q149 rfl dX6_correct_74 ?_
      refine lv_iload_n hx hb dX6_correct_77 rfl (lv_at hl 2 rfl) ?_
      refine lv_i2l (v := w2.toInt64) hx hb dX6_correct_78 rfl ?_
      refine lv_ladd hx hb dX6_correct_79 ?_
      refine r_putJ X h k16 8 (by decide) rfl inX6 tyX6 tyX6_ok nmX6 (by decide) rfl (Nat.le_of_ble_eq_true rfl) q149 rfl rfl (tyX6_ok 8 (by decide)) rfl rfl dX6_correct_80 (fun H locs h => ?_)
      obtain ⟨S17, eS17⟩ : ∃ z : Mem, z = (sJ S13 a0 8 ((mJ S13 a0 8) + w2.toInt64)) := ⟨_, rfl⟩
      rw [← eS17] at h
      have hw := hw S17 eS17
      refine lv_iload_n hx hb dX6_correct_83 rfl (lv_at hl 2 rfl) ?_
      exact vx_ret (en_i X h hr hw (Nat.le_of_ble_eq_true rfl) (Nat.le_of_ble_eq_true rfl) dX6_correct_84)
    · have hw := hw.2 c10
      refine lv_aload_n hx hb dX6_correct_37 rfl (lv_at hl 0 rfl) ?_
      refine lv_iload_n hx hb dX6_correct_38 rfl (lv_at hl 3 rfl) ?_
      obtain ⟨k19, hw⟩ := hw
      refine rc_V (As := [.int w3]) (rest := []) X h k19 (by decide) rfl (meX6_findJob l G _ _ _ _ hw) gV_X6_82 rfl rfl hdV_X6_findJob rfl ⟨Nat.le_of_ble_eq_true rfl, Nat.le_of_ble_eq_true rfl⟩ hl.1 rfl (Nat.le_of_ble_eq_true rfl) ⟨Nat.le_of_ble_eq_true rfl, Nat.le_of_ble_eq_true rfl⟩ dX6_correct_39 (fun r20 S18 H locs hw h => ?_)
      rcases r20 with _ | o21
      · have hw := hw.1 rfl
        refine lv_astoreN (lv' := [(4, .null), (0, .ref a0), (1, .int p1), (2, .int w2), (3, .int w3)]) hx hb dX6_correct_42 hl (by decide) rfl (fun ls hl => ?_)
        refine lv_aloadN hx hb dX6_correct_44 (lv_at hl 0 rfl) ?_
        refine lv_ifnullN (tgt := 58) hx hb dX6_correct_46 (by decide) ?_
        obtain ⟨x22, ex22⟩ : ∃ y : Int32, y = (w3 + (nI 1)) := ⟨_, rfl⟩
        have hw := hw x22 ex22
        refine lv_iinc (v := x22) (lv' := [(3, .int x22), (4, .null), (0, .ref a0), (1, .int p1), (2, .int w2)]) hx hb dX6_correct_58 hl (k := 4) rfl (by rw [ex22]; rfl) (by decide) rfl (fun ls hl => ?_)
        refine lv_goto (tgt := 32) hx hb dX6_correct_61 (by decide) ?_
        exact ih _ _ _ hw _ _ _ h (lv_sub hl [2, 3, 4, 0] rfl)
      · have hw := hw.2 o21 rfl
        refine lv_astore (lv' := [(4, .ref o21), (0, .ref a0), (1, .int p1), (2, .int w2), (3, .int w3)]) hx hb dX6_correct_42 hl (by decide) rfl (fun ls hl => ?_)
        refine lv_aload hx hb dX6_correct_44 (lv_at hl 0 rfl) ?_
        refine lv_ifnull hx hb dX6_correct_46 ?_
        refine lv_iload_n hx hb dX6_correct_49 rfl (lv_at hl 3 rfl) ?_
        refine lv_aload hx hb dX6_correct_50 (lv_at hl 0 rfl) ?_
        refine lv_iload_n hx hb dX6_correct_52 rfl (lv_at hl 2 rfl) ?_
        obtain ⟨k24, hw⟩ := hw
        refine rc_V (As := [.int p1]) (rest := [.int w2]) X h k24 (by decide) rfl (meX1_takeSheetsShowing l G _ _ _ _ hw) gV_X6_86 rfl rfl hdV_X1_takeSheetsShowing rfl ⟨Nat.le_of_ble_eq_true rfl, Nat.le_of_ble_eq_true rfl⟩ hl.1 rfl (Nat.le_of_ble_eq_true rfl) ⟨Nat.le_of_ble_eq_true rfl, Nat.le_of_ble_eq_true rfl⟩ dX6_correct_53 (fun x25 S23 H locs hw h => ?_)
        refine lv_iadd hx hb dX6_correct_56 ?_
        refine lv_topi (fun x26 ex26 => ?_)
        have hw := hw x26 ex26
        refine lv_istore_n (lv' := [(2, .int x26), (4, .ref o21), (0, .ref a0), (1, .int p1), (3, .int w3)]) hx hb dX6_correct_57 rfl hl (by decide) rfl (fun ls hl => ?_)
        obtain ⟨x27, ex27⟩ : ∃ y : Int32, y = (w3 + (nI 1)) := ⟨_, rfl⟩
        have hw := hw x27 ex27
        refine lv_iinc (v := x27) (lv' := [(3, .int x27), (2, .int x26), (4, .ref o21), (0, .ref a0), (1, .int p1)]) hx hb dX6_correct_58 hl (k := 4) rfl (by rw [ex27]; rfl) (by decide) rfl (fun ls hl => ?_)
        refine lv_goto (tgt := 32) hx hb dX6_correct_61 (by decide) ?_
        exact ih _ _ _ hw _ _ _ h (lv_sub hl [3, 4, 1, 0] rfl)
def wpX6_correct (S : Mem) (a0 : Nat) (p1 : Int32) (post : Int32 → Mem → Prop) (px : Nat → Mem → Prop) : Prop := isK S a0 6 ∧ (wpX6_requireContent S a0 p1 (fun u3 S1 => isK S1 a0 6 ∧ (∃ o5, mR S1 a0 0 = some o5 ∧ (isK S1 o5 0 ∧ (wpX0_stateOf S1 o5 p1 (fun x8 S6 => (x8 < (nI 99) → (∃ m, wlX6_correct_32 a0 p1 post px m (nI 0) (nI 0) S6)) ∧ (¬ x8 < (nI 99) → (px 2 S6))))))) px)
set_option maxHeartbeats 4000000 in
set_option maxRecDepth 100000 in
theorem meX6_correct (l : Launch) (hl9 : l.stackTraces = false) (G : GT) (S : Mem) (a0 : Nat) (p1 : Int32) (post : Int32 → Mem → Prop) (px : Nat → Mem → Prop) (hw : wpX6_correct S a0 p1 post px) : CX emI l yX6_correct (wsU yX6_correct cX6_correct 5 (some .int)) rmX6_correct 2 12 G [.ref a0, .int p1] S post px := by
  refine cx_open RX6 rfl (by decide +kernel) (Nat.le_of_ble_eq_true rfl) ?_
  intro p e s m args below meth c A X h hr hno ls hl
  have hl : lv_has ls 5 [(0, .ref a0), (1, .int p1)] := hl
  have hx := X.1
  have hb := X.2.1
  have hown := X.2.2.2.1
  unfold wpX6_correct at hw
  refine lv_aload_n hx hb dX6_correct_0 rfl (lv_at hl 0 rfl) ?_
  refine lv_iload_n hx hb dX6_correct_1 rfl (lv_at hl 1 rfl) ?_
  obtain ⟨k2, hw⟩ := hw
  refine rx_V (As := [.int p1]) (rest := []) X h hno k2 (by decide) rfl (meX6_requireContent l hl9 G _ _ _ _ _ hw) gV_X6_64 rfl rfl hdV_X6_requireContent rfl ⟨Nat.le_of_ble_eq_true rfl, Nat.le_of_ble_eq_true rfl⟩ hl.1 rfl (Nat.le_of_ble_eq_true rfl) ⟨Nat.le_of_ble_eq_true rfl, Nat.le_of_ble_eq_true rfl⟩ ⟨Nat.le_of_ble_eq_true rfl, Nat.le_of_ble_eq_true rfl⟩ dX6_correct_2 (fun u3 S1 H locs hw h => ?_)
  refine lv_aload_n hx hb dX6_correct_5 rfl (lv_at hl 0 rfl) ?_
  obtain ⟨k4, hw⟩ := hw
  obtain ⟨o5, eo5, hw⟩ := hw
  refine r_getR X h k4 0 eo5  (by decide) rfl inX6 (by decide) rfl q141 rfl dX6_correct_6 ?_
  refine lv_iload_n hx hb dX6_correct_9 rfl (lv_at hl 1 rfl) ?_
  obtain ⟨k7, hw⟩ := hw
  refine rc_V (As := [.int p1]) (rest := []) X h k7 (by decide) rfl (meX0_stateOf l G _ _ _ _ hw) gV_X6_76 rfl rfl hdV_X0_stateOf rfl ⟨Nat.le_of_ble_eq_true rfl, Nat.le_of_ble_eq_true rfl⟩ hl.1 rfl (Nat.le_of_ble_eq_true rfl) ⟨Nat.le_of_ble_eq_true rfl, Nat.le_of_ble_eq_true rfl⟩ dX6_correct_10 (fun x8 S6 H locs hw h => ?_)
  refine lv_bipush (v := (nI 99)) hx hb dX6_correct_13 (by decide) ?_
  refine lv_icmp_lt (tgt := 28) hx hb dX6_correct_15 (by decide) (fun c9 => ?_) (fun c9 => ?_)
  · have hw := hw.1 c9
    refine lv_iconst (v := (nI 0)) hx hb dX6_correct_28 (by decide) ?_
    refine lv_istore_n (lv' := [(2, .int (nI 0)), (0, .ref a0), (1, .int p1)]) hx hb dX6_correct_29 rfl hl (by decide) rfl (fun ls hl => ?_)
    refine lv_iconst (v := (nI 0)) hx hb dX6_correct_30 (by decide) ?_
    refine lv_istore_n (lv' := [(3, .int (nI 0)), (2, .int (nI 0)), (0, .ref a0), (1, .int p1)]) hx hb dX6_correct_31 rfl hl (by decide) rfl (fun ls hl => ?_)
    obtain ⟨n28, hw⟩ := hw
    exact llX6_correct_32 hl9 hno X hr _ _ _ _ n28 _ _ _ hw _ _ _ h (lv_sub hl [2, 3, 1, 0] rfl)
  · have hw := hw.2 c9
    exact en_x 2 X h hl9 th_X6_80 hl.1 hno dX6_correct_18 dX6_correct_21 dX6_correct_22 dX6_correct_24 dX6_correct_27 ⟨Nat.le_of_ble_eq_true rfl, Nat.le_of_ble_eq_true rfl⟩ ⟨Nat.le_of_ble_eq_true rfl, Nat.le_of_ble_eq_true rfl⟩ ⟨Nat.le_of_ble_eq_true rfl, Nat.le_of_ble_eq_true rfl⟩ hw
abbrev rmL_correct : Room := { frames := 8, cells := 2, slots := 12, locals := 136 }
def wpL_correct (S : Mem) (a0 : Nat) (p1 : Int32) (a2 : Nat) (post : Int32 → Mem → Prop) : Prop := isK S a0 6 ∧ (wpX6_correct S a0 p1 (fun x3 S1 => isK S1 a2 12 ∧ (vp_in (nI 0) (mN S1 a2) ∧ (∀ S8 : Mem, S8 = (sJ S1 a2 (nI 0).toNatClampNeg x3.toInt64) → (post (nI 0) S8)))) (fun k4 S5 => (k4 = 1 → (post (nI 1) S5)) ∧ (k4 = 2 → (post (nI 2) S5)) ∧ (k4 = 1 ∨ k4 = 2)))
set_option maxHeartbeats 4000000 in
set_option maxRecDepth 100000 in
theorem meL_correct (l : Launch) (hl9 : l.stackTraces = false) (G : GT) (S : Mem) (a0 : Nat) (p1 : Int32) (a2 : Nat) (post : Int32 → Mem → Prop) (hw : wpL_correct S a0 p1 a2 post) : CN emI l yL_correct (wsH yL_correct cL_correct 4 (some .int) [(0, 9, 12, 19), (0, 9, 15, 13)]) rmL_correct 2 12 G [.ref a0, .int p1, .ref a2] S post := by
  refine ch_open RL rfl (by decide +kernel) (Nat.le_of_ble_eq_true rfl) ?_
  intro p e s m args below meth c A X h hr hTab ls hl
  have hl : lv_has ls 4 [(0, .ref a0), (1, .int p1), (2, .ref a2)] := hl
  have hx := X.1
  have hb := X.2.1
  have hown := X.2.2.2.1
  unfold wpL_correct at hw
  refine lv_aload_n hx hb dL_correct_0 rfl (lv_at hl 2 rfl) ?_
  refine lv_iconst (v := (nI 0)) hx hb dL_correct_1 (by decide) ?_
  refine lv_aload_n hx hb dL_correct_2 rfl (lv_at hl 0 rfl) ?_
  refine lv_iload_n hx hb dL_correct_3 rfl (lv_at hl 1 rfl) ?_
  obtain ⟨k2, hw⟩ := hw
  refine rx_VH (As := [.int p1]) (rest := [.int (nI 0), .ref a2]) X h k2 (by decide) rfl (meX6_correct l hl9 G _ _ _ _ _ hw) gV_L_21 rfl rfl hdV_X6_correct rfl ⟨Nat.le_of_ble_eq_true rfl, Nat.le_of_ble_eq_true rfl⟩ hl.1 rfl (Nat.le_of_ble_eq_true rfl) ⟨Nat.le_of_ble_eq_true rfl, Nat.le_of_ble_eq_true rfl⟩ dL_correct_4 (fun k4 S5 H locs q9 ce hw h hce hcv hcl => ?_) (fun x3 S1 H locs hw h => ?_)
  · rcases hw.2.2 with hk9 | hk9
    · subst hk9
      have hw := hw.1 rfl
      refine vx_catch (own := RL) (name := "java/lang/IndexOutOfBoundsException") (E := xn 1) hown [] ⟨0, 9, 12, 19⟩ [⟨0, 9, 15, 13⟩] (by rw [hTab]; rfl) (fun z hz => nomatch hz) (by decide) (by decide) (X.hts q277) (va_Nw.use (by rfl) (X.nw q311)) hce hcv hcl ?_
      refine lv_astore_n (lv' := [(3, .ref q9), (0, .ref a0), (1, .int p1), (2, .ref a2)]) hx hb dL_correct_12 rfl hl (by decide) rfl (fun ls hl => ?_)
      refine lv_iconst (v := (nI 1)) hx hb dL_correct_13 (by decide) ?_
      exact (en_i X h hr hw (Nat.le_of_ble_eq_true rfl) (Nat.le_of_ble_eq_true rfl) dL_correct_14)
    · subst hk9
      have hw := hw.2.1 rfl
      have hpass2 : ∀ z ∈ ([⟨0, 9, 12, 19⟩] : List ExceptionTableEntry), covers z 4 = false ∨ (z.catchType ≠ 0 ∧ ∃ nm : String, (Cond.classLink RL z.catchType nm).before args s = true ∧ va_Nc (xn 2) nm s) := by
        intro z hz
        rcases List.mem_cons.mp hz with rfl | hz
        · exact Or.inr ⟨by decide, "java/lang/IndexOutOfBoundsException", X.hts q277, X.2.2.2.2.2.2.1.2.2.2.2.1 ("java/lang/IllegalStateException", "java/lang/IndexOutOfBoundsException") (by decide +kernel)⟩
        cases hz
      refine vx_catch (own := RL) (name := "java/lang/IllegalStateException") (E := xn 2) hown [⟨0, 9, 12, 19⟩] ⟨0, 9, 15, 13⟩ [] (by rw [hTab]; rfl) (hpass2) (by decide) (by decide) (X.hts q193) (va_Nw.use (by rfl) (X.nw q200)) hce hcv hcl ?_
      refine lv_astore_n (lv' := [(3, .ref q9), (0, .ref a0), (1, .int p1), (2, .ref a2)]) hx hb dL_correct_15 rfl hl (by decide) rfl (fun ls hl => ?_)
      refine lv_iconst (v := (nI 2)) hx hb dL_correct_16 (by decide) ?_
      exact (en_i X h hr hw (Nat.le_of_ble_eq_true rfl) (Nat.le_of_ble_eq_true rfl) dL_correct_17)
  · refine lv_i2l (v := x3.toInt64) hx hb dL_correct_7 rfl ?_
    obtain ⟨k6, hw⟩ := hw
    obtain ⟨v7, hw⟩ := hw
    refine r_last X h k6 v7 dL_correct_8 (fun H locs h => ?_)
    obtain ⟨S8, eS8⟩ : ∃ z : Mem, z = (sJ S1 a2 (nI 0).toNatClampNeg x3.toInt64) := ⟨_, rfl⟩
    rw [← eS8] at h
    have hw := hw S8 eS8
    refine lv_goto (tgt := 18) hx hb dL_correct_9 (by decide) ?_
    refine lv_iconst (v := (nI 0)) hx hb dL_correct_18 (by decide) ?_
    exact (en_i X h hr hw (Nat.le_of_ble_eq_true rfl) (Nat.le_of_ble_eq_true rfl) dL_correct_19)
abbrev rmX6_lacks : Room := { frames := 7, cells := 3, slots := 18, locals := 112 }
def wpX6_lacks (S : Mem) (a0 : Nat) (p1 : Int32) (p2 : Int32) (post : Int32 → Mem → Prop) (px : Nat → Mem → Prop) : Prop := isK S a0 6 ∧ (wpX6_existingJob S a0 p1 (fun r3 S1 => ∃ o4, r3 = some o4 ∧ (wpX6_requireCount S1 p2 (fun u6 S5 => wpX6_requireComplete S5 o4 (fun u8 S7 => isK S7 o4 1 ∧ (wpX1_lackFor S7 o4 p2 (fun x11 S9 => post x11 S9))) px) px)) px)
set_option maxHeartbeats 4000000 in
set_option maxRecDepth 100000 in
theorem meX6_lacks (l : Launch) (hl9 : l.stackTraces = false) (G : GT) (S : Mem) (a0 : Nat) (p1 : Int32) (p2 : Int32) (post : Int32 → Mem → Prop) (px : Nat → Mem → Prop) (hw : wpX6_lacks S a0 p1 p2 post px) : CX emI l yX6_lacks (wsU yX6_lacks cX6_lacks 4 (some .int)) rmX6_lacks 3 18 G [.ref a0, .int p1, .int p2] S post px := by
  refine cx_open RX6 rfl (by decide +kernel) (Nat.le_of_ble_eq_true rfl) ?_
  intro p e s m args below meth c A X h hr hno ls hl
  have hl : lv_has ls 4 [(0, .ref a0), (1, .int p1), (2, .int p2)] := hl
  have hx := X.1
  have hb := X.2.1
  have hown := X.2.2.2.1
  unfold wpX6_lacks at hw
  refine lv_aload_n hx hb dX6_lacks_0 rfl (lv_at hl 0 rfl) ?_
  refine lv_iload_n hx hb dX6_lacks_1 rfl (lv_at hl 1 rfl) ?_
  obtain ⟨k2, hw⟩ := hw
  refine rx_V (As := [.int p1]) (rest := []) X h hno k2 (by decide) rfl (meX6_existingJob l hl9 G _ _ _ _ _ hw) gV_X6_109 rfl rfl hdV_X6_existingJob rfl ⟨Nat.le_of_ble_eq_true rfl, Nat.le_of_ble_eq_true rfl⟩ hl.1 rfl (Nat.le_of_ble_eq_true rfl) ⟨Nat.le_of_ble_eq_true rfl, Nat.le_of_ble_eq_true rfl⟩ ⟨Nat.le_of_ble_eq_true rfl, Nat.le_of_ble_eq_true rfl⟩ dX6_lacks_2 (fun r3 S1 H locs hw h => ?_)
  obtain ⟨o4, rfl, hw⟩ := hw
  refine lv_astore_n (lv' := [(3, .ref o4), (0, .ref a0), (1, .int p1), (2, .int p2)]) hx hb dX6_lacks_5 rfl hl (by decide) rfl (fun ls hl => ?_)
  refine lv_iload_n hx hb dX6_lacks_6 rfl (lv_at hl 3 rfl) ?_
  refine rx_S (As := [.int p2]) (rest := []) X h hno (meX6_requireCount l hl9 G _ _ _ _ hw) gS_X6_148 rfl rfl hdS_X6_requireCount rfl ⟨Nat.le_of_ble_eq_true rfl, Nat.le_of_ble_eq_true rfl⟩ hl.1 rfl (Nat.le_of_ble_eq_true rfl) ⟨Nat.le_of_ble_eq_true rfl, Nat.le_of_ble_eq_true rfl⟩ ⟨Nat.le_of_ble_eq_true rfl, Nat.le_of_ble_eq_true rfl⟩ dX6_lacks_7 (fun u6 S5 H locs hw h => ?_)
  refine lv_aload_n hx hb dX6_lacks_10 rfl (lv_at hl 0 rfl) ?_
  refine rx_S (As := [.ref o4]) (rest := []) X h hno (meX6_requireComplete l hl9 G _ _ _ _ hw) gS_X6_223 rfl rfl hdS_X6_requireComplete rfl ⟨Nat.le_of_ble_eq_true rfl, Nat.le_of_ble_eq_true rfl⟩ hl.1 rfl (Nat.le_of_ble_eq_true rfl) ⟨Nat.le_of_ble_eq_true rfl, Nat.le_of_ble_eq_true rfl⟩ ⟨Nat.le_of_ble_eq_true rfl, Nat.le_of_ble_eq_true rfl⟩ dX6_lacks_11 (fun u8 S7 H locs hw h => ?_)
  refine lv_aload_n hx hb dX6_lacks_14 rfl (lv_at hl 0 rfl) ?_
  refine lv_iload_n hx hb dX6_lacks_15 rfl (lv_at hl 3 rfl) ?_
  obtain ⟨k10, hw⟩ := hw
  refine rc_V (As := [.int p2]) (rest := []) X h k10 (by decide) rfl (meX1_lackFor l G _ _ _ _ hw) gV_X6_231 rfl rfl hdV_X1_lackFor rfl ⟨Nat.le_of_ble_eq_true rfl, Nat.le_of_ble_eq_true rfl⟩ hl.1 rfl (Nat.le_of_ble_eq_true rfl) ⟨Nat.le_of_ble_eq_true rfl, Nat.le_of_ble_eq_true rfl⟩ dX6_lacks_16 (fun x11 S9 H locs hw h => ?_)
  exact vx_ret (en_i X h hr hw (Nat.le_of_ble_eq_true rfl) (Nat.le_of_ble_eq_true rfl) dX6_lacks_19)
abbrev rmL_lacks : Room := { frames := 8, cells := 3, slots := 18, locals := 135 }
def wpL_lacks (S : Mem) (a0 : Nat) (p1 : Int32) (p2 : Int32) (a3 : Nat) (post : Int32 → Mem → Prop) : Prop := isK S a0 6 ∧ (wpX6_lacks S a0 p1 p2 (fun x3 S1 => isK S1 a3 12 ∧ (vp_in (nI 0) (mN S1 a3) ∧ (∀ S8 : Mem, S8 = (sJ S1 a3 (nI 0).toNatClampNeg x3.toInt64) → (post (nI 0) S8)))) (fun k4 S5 => (k4 = 1 → (post (nI 1) S5)) ∧ (k4 = 2 → (post (nI 3) S5)) ∧ (k4 = 4 → (post (nI 2) S5)) ∧ (k4 = 1 ∨ k4 = 2 ∨ k4 = 4)))
set_option maxHeartbeats 4000000 in
set_option maxRecDepth 100000 in
theorem meL_lacks (l : Launch) (hl9 : l.stackTraces = false) (G : GT) (S : Mem) (a0 : Nat) (p1 : Int32) (p2 : Int32) (a3 : Nat) (post : Int32 → Mem → Prop) (hw : wpL_lacks S a0 p1 p2 a3 post) : CN emI l yL_lacks (wsH yL_lacks cL_lacks 5 (some .int) [(0, 10, 13, 19), (0, 10, 17, 32), (0, 10, 21, 13)]) rmL_lacks 3 18 G [.ref a0, .int p1, .int p2, .ref a3] S post := by
  refine ch_open RL rfl (by decide +kernel) (Nat.le_of_ble_eq_true rfl) ?_
  intro p e s m args below meth c A X h hr hTab ls hl
  have hl : lv_has ls 5 [(0, .ref a0), (1, .int p1), (2, .int p2), (3, .ref a3)] := hl
  have hx := X.1
  have hb := X.2.1
  have hown := X.2.2.2.1
  unfold wpL_lacks at hw
  refine lv_aload_n hx hb dL_lacks_0 rfl (lv_at hl 3 rfl) ?_
  refine lv_iconst (v := (nI 0)) hx hb dL_lacks_1 (by decide) ?_
  refine lv_aload_n hx hb dL_lacks_2 rfl (lv_at hl 0 rfl) ?_
  refine lv_iload_n hx hb dL_lacks_3 rfl (lv_at hl 1 rfl) ?_
  refine lv_iload_n hx hb dL_lacks_4 rfl (lv_at hl 2 rfl) ?_
  obtain ⟨k2, hw⟩ := hw
  refine rx_VH (As := [.int p1, .int p2]) (rest := [.int (nI 0), .ref a3]) X h k2 (by decide) rfl (meX6_lacks l hl9 G _ _ _ _ _ _ hw) gV_L_76 rfl rfl hdV_X6_lacks rfl ⟨Nat.le_of_ble_eq_true rfl, Nat.le_of_ble_eq_true rfl⟩ hl.1 rfl (Nat.le_of_ble_eq_true rfl) ⟨Nat.le_of_ble_eq_true rfl, Nat.le_of_ble_eq_true rfl⟩ dL_lacks_5 (fun k4 S5 H locs q9 ce hw h hce hcv hcl => ?_) (fun x3 S1 H locs hw h => ?_)
  · rcases hw.2.2.2 with hk9 | hk9 | hk9
    · subst hk9
      have hw := hw.1 rfl
      refine vx_catch (own := RL) (name := "java/lang/IndexOutOfBoundsException") (E := xn 1) hown [] ⟨0, 10, 13, 19⟩ [⟨0, 10, 17, 32⟩, ⟨0, 10, 21, 13⟩] (by rw [hTab]; rfl) (fun z hz => nomatch hz) (by decide) (by decide) (X.hts q277) (va_Nw.use (by rfl) (X.nw q311)) hce hcv hcl ?_
      refine lv_astore (lv' := [(4, .ref q9), (0, .ref a0), (1, .int p1), (2, .int p2), (3, .ref a3)]) hx hb dL_lacks_13 hl (by decide) rfl (fun ls hl => ?_)
      refine lv_iconst (v := (nI 1)) hx hb dL_lacks_15 (by decide) ?_
      exact (en_i X h hr hw (Nat.le_of_ble_eq_true rfl) (Nat.le_of_ble_eq_true rfl) dL_lacks_16)
    · subst hk9
      have hw := hw.2.1 rfl
      have hpass2 : ∀ z ∈ ([⟨0, 10, 13, 19⟩, ⟨0, 10, 17, 32⟩] : List ExceptionTableEntry), covers z 5 = false ∨ (z.catchType ≠ 0 ∧ ∃ nm : String, (Cond.classLink RL z.catchType nm).before args s = true ∧ va_Nc (xn 2) nm s) := by
        intro z hz
        rcases List.mem_cons.mp hz with rfl | hz
        · exact Or.inr ⟨by decide, "java/lang/IndexOutOfBoundsException", X.hts q277, X.2.2.2.2.2.2.1.2.2.2.2.1 ("java/lang/IllegalStateException", "java/lang/IndexOutOfBoundsException") (by decide +kernel)⟩
        rcases List.mem_cons.mp hz with rfl | hz
        · exact Or.inr ⟨by decide, "java/lang/IllegalArgumentException", X.hts q402, X.2.2.2.2.2.2.1.2.2.2.2.1 ("java/lang/IllegalStateException", "java/lang/IllegalArgumentException") (by decide +kernel)⟩
        cases hz
      refine vx_catch (own := RL) (name := "java/lang/IllegalStateException") (E := xn 2) hown [⟨0, 10, 13, 19⟩, ⟨0, 10, 17, 32⟩] ⟨0, 10, 21, 13⟩ [] (by rw [hTab]; rfl) (hpass2) (by decide) (by decide) (X.hts q193) (va_Nw.use (by rfl) (X.nw q200)) hce hcv hcl ?_
      refine lv_astore (lv' := [(4, .ref q9), (0, .ref a0), (1, .int p1), (2, .int p2), (3, .ref a3)]) hx hb dL_lacks_21 hl (by decide) rfl (fun ls hl => ?_)
      refine lv_iconst (v := (nI 3)) hx hb dL_lacks_23 (by decide) ?_
      exact (en_i X h hr hw (Nat.le_of_ble_eq_true rfl) (Nat.le_of_ble_eq_true rfl) dL_lacks_24)
    · subst hk9
      have hw := hw.2.2.1 rfl
      have hpass4 : ∀ z ∈ ([⟨0, 10, 13, 19⟩] : List ExceptionTableEntry), covers z 5 = false ∨ (z.catchType ≠ 0 ∧ ∃ nm : String, (Cond.classLink RL z.catchType nm).before args s = true ∧ va_Nc (xn 4) nm s) := by
        intro z hz
        rcases List.mem_cons.mp hz with rfl | hz
        · exact Or.inr ⟨by decide, "java/lang/IndexOutOfBoundsException", X.hts q277, X.2.2.2.2.2.2.1.2.2.2.2.1 ("java/lang/IllegalArgumentException", "java/lang/IndexOutOfBoundsException") (by decide +kernel)⟩
        cases hz
      refine vx_catch (own := RL) (name := "java/lang/IllegalArgumentException") (E := xn 4) hown [⟨0, 10, 13, 19⟩] ⟨0, 10, 17, 32⟩ [⟨0, 10, 21, 13⟩] (by rw [hTab]; rfl) (hpass4) (by decide) (by decide) (X.hts q402) (va_Nw.use (by rfl) (X.nw q409)) hce hcv hcl ?_
      refine lv_astore (lv' := [(4, .ref q9), (0, .ref a0), (1, .int p1), (2, .int p2), (3, .ref a3)]) hx hb dL_lacks_17 hl (by decide) rfl (fun ls hl => ?_)
      refine lv_iconst (v := (nI 2)) hx hb dL_lacks_19 (by decide) ?_
      exact (en_i X h hr hw (Nat.le_of_ble_eq_true rfl) (Nat.le_of_ble_eq_true rfl) dL_lacks_20)
  · refine lv_i2l (v := x3.toInt64) hx hb dL_lacks_8 rfl ?_
    obtain ⟨k6, hw⟩ := hw
    obtain ⟨v7, hw⟩ := hw
    refine r_last X h k6 v7 dL_lacks_9 (fun H locs h => ?_)
    obtain ⟨S8, eS8⟩ : ∃ z : Mem, z = (sJ S1 a3 (nI 0).toNatClampNeg x3.toInt64) := ⟨_, rfl⟩
    rw [← eS8] at h
    have hw := hw S8 eS8
    refine lv_goto (tgt := 25) hx hb dL_lacks_10 (by decide) ?_
    refine lv_iconst (v := (nI 0)) hx hb dL_lacks_25 (by decide) ?_
    exact (en_i X h hr hw (Nat.le_of_ble_eq_true rfl) (Nat.le_of_ble_eq_true rfl) dL_lacks_26)
abbrev rmX0_init : Room := { frames := 1, cells := 3, slots := 1212, locals := 20 }
def wpX0_init (S : Mem) (a0 : Nat) (post : Unit → Mem → Prop) : Prop := ∀ o1 : Nat, o1 ∉ mL S → (∀ S2 : Mem, S2 = (nA S o1 8 12) → (isK S2 a0 0 ∧ (∀ S4 : Mem, S4 = (sR S2 a0 0 (some o1)) → (∀ o5 : Nat, o5 ∉ mL S4 → (∀ S6 : Mem, S6 = (nA S4 o5 8 12) → (∀ S7 : Mem, S7 = (sR S6 a0 1 (some o5)) → (∀ o8 : Nat, o8 ∉ mL S7 → (∀ S9 : Mem, S9 = (nA S7 o8 8 1188) → (∀ S10 : Mem, S10 = (sR S9 a0 2 (some o8)) → (post () S10))))))))))
set_option maxHeartbeats 4000000 in
set_option maxRecDepth 100000 in
theorem meX0_init (l : Launch) (G : GT) (S : Mem) (a0 : Nat) (post : Unit → Mem → Prop) (hw : wpX0_init S a0 post) : CN emV l yX0_init (wsU yX0_init cX0_init 1 none) rmX0_init 3 1212 G [.ref a0] S post := by
  refine cn_open RX0 rfl (by decide +kernel) (Nat.le_of_ble_eq_true rfl) ?_
  intro p e s m args below meth c A X h hr hin ls hl
  have hl : lv_has ls 1 [(0, .ref a0)] := hl
  have hx := X.1
  have hb := X.2.1
  have hown := X.2.2.2.1
  unfold wpX0_init at hw
  refine lv_aload_n hx hb dX0_init_0 rfl (lv_at hl 0 rfl) ?_
  refine r_obj X hl.1 q66 q59 q60 ⟨Nat.le_of_ble_eq_true rfl, Nat.le_of_ble_eq_true rfl⟩ ⟨Nat.le_of_ble_eq_true rfl, Nat.le_of_ble_eq_true rfl⟩ dX0_init_1 ?_
  refine lv_aload_n hx hb dX0_init_4 rfl (lv_at hl 0 rfl) ?_
  refine lv_bipush (v := (nI 12)) hx hb dX0_init_5 (by decide) ?_
  refine r_newI X h 12 q85 (by decide) ⟨Nat.le_of_ble_eq_true rfl, Nat.le_of_ble_eq_true rfl⟩ dX0_init_7 (fun o1 H ho1 h => ?_)
  have hw := hw o1 ho1
  obtain ⟨S2, eS2⟩ : ∃ z : Mem, z = (nA S o1 8 12) := ⟨_, rfl⟩
  rw [← eS2] at h
  have hw := hw S2 eS2
  obtain ⟨k3, hw⟩ := hw
  refine r_putRF X h k3 0 (by decide) rfl inX0 tyX0 tyX0_ok nmX0 (by decide) rfl (Nat.le_of_ble_eq_true rfl) q67 rfl rfl hin rfl (tyX0_ok 0 (by decide)) rfl rfl dX0_init_9 (fun H locs h => ?_)
  obtain ⟨S4, eS4⟩ : ∃ z : Mem, z = (sR S2 a0 0 (some o1)) := ⟨_, rfl⟩
  rw [← eS4] at h
  have hw := hw S4 eS4
  refine lv_aload_n hx hb dX0_init_12 rfl (lv_at hl 0 rfl) ?_
  refine lv_bipush (v := (nI 12)) hx hb dX0_init_13 (by decide) ?_
  refine r_newI X h 12 q85 (by decide) ⟨Nat.le_of_ble_eq_true rfl, Nat.le_of_ble_eq_true rfl⟩ dX0_init_15 (fun o5 H ho5 h => ?_)
  have hw := hw o5 ho5
  obtain ⟨S6, eS6⟩ : ∃ z : Mem, z = (nA S4 o5 8 12) := ⟨_, rfl⟩
  rw [← eS6] at h
  have hw := hw S6 eS6
  refine r_putRF X h (kE eS6 (nA_keep (kR eS4 k3) ho5)) 1 (by decide) rfl inX0 tyX0 tyX0_ok nmX0 (by decide) rfl (Nat.le_of_ble_eq_true rfl) q68 rfl rfl hin rfl (tyX0_ok 1 (by decide)) rfl rfl dX0_init_17 (fun H locs h => ?_)
  obtain ⟨S7, eS7⟩ : ∃ z : Mem, z = (sR S6 a0 1 (some o5)) := ⟨_, rfl⟩
  rw [← eS7] at h
  have hw := hw S7 eS7
  refine lv_aload_n hx hb dX0_init_20 rfl (lv_at hl 0 rfl) ?_
  refine lv_sipush (v := (nI 1188)) hx hb dX0_init_21 (by decide) ?_
  refine r_newI X h 1188 q85 (by decide) ⟨Nat.le_of_ble_eq_true rfl, Nat.le_of_ble_eq_true rfl⟩ dX0_init_24 (fun o8 H ho8 h => ?_)
  have hw := hw o8 ho8
  obtain ⟨S9, eS9⟩ : ∃ z : Mem, z = (nA S7 o8 8 1188) := ⟨_, rfl⟩
  rw [← eS9] at h
  have hw := hw S9 eS9
  refine r_putRF X h (kE eS9 (nA_keep (kR eS7 (kE eS6 (nA_keep (kR eS4 k3) ho5))) ho8)) 2 (by decide) rfl inX0 tyX0 tyX0_ok nmX0 (by decide) rfl (Nat.le_of_ble_eq_true rfl) q69 rfl rfl hin rfl (tyX0_ok 2 (by decide)) rfl rfl dX0_init_26 (fun H locs h => ?_)
  obtain ⟨S10, eS10⟩ : ∃ z : Mem, z = (sR S9 a0 2 (some o8)) := ⟨_, rfl⟩
  rw [← eS10] at h
  have hw := hw S10 eS10
  exact (en_v X h hr hw (Nat.le_of_ble_eq_true rfl) (Nat.le_of_ble_eq_true rfl) dX0_init_29)
abbrev rmX5_init : Room := { frames := 1, cells := 0, slots := 0, locals := 20 }
def wpX5_init (S : Mem) (a0 : Nat) (post : Unit → Mem → Prop) : Prop := isK S a0 5 ∧ (∀ S2 : Mem, S2 = (sI S a0 0 (-1 : Int32)) → (∀ S3 : Mem, S3 = (sI S2 a0 1 (-1 : Int32)) → (vz_chr (nI 32) ∧ (∀ S5 : Mem, S5 = (sI S3 a0 2 (nI 32)) → (post () S5)))))
set_option maxHeartbeats 4000000 in
set_option maxRecDepth 100000 in
theorem meX5_init (l : Launch) (G : GT) (S : Mem) (a0 : Nat) (post : Unit → Mem → Prop) (hw : wpX5_init S a0 post) : CN emV l yX5_init (wsU yX5_init cX5_init 1 none) rmX5_init 0 0 G [.ref a0] S post := by
  refine cn_open RX5 rfl (by decide +kernel) (Nat.le_of_ble_eq_true rfl) ?_
  intro p e s m args below meth c A X h hr hin ls hl
  have hl : lv_has ls 1 [(0, .ref a0)] := hl
  have hx := X.1
  have hb := X.2.1
  have hown := X.2.2.2.1
  unfold wpX5_init at hw
  refine lv_aload_n hx hb dX5_init_0 rfl (lv_at hl 0 rfl) ?_
  refine r_obj X hl.1 q93 q59 q60 ⟨Nat.le_of_ble_eq_true rfl, Nat.le_of_ble_eq_true rfl⟩ ⟨Nat.le_of_ble_eq_true rfl, Nat.le_of_ble_eq_true rfl⟩ dX5_init_1 ?_
  refine lv_aload_n hx hb dX5_init_4 rfl (lv_at hl 0 rfl) ?_
  refine lv_iconst (v := (-1 : Int32)) hx hb dX5_init_5 (by decide) ?_
  obtain ⟨k1, hw⟩ := hw
  refine r_putI X h k1 0 (by decide) rfl inX5 tyX5 tyX5_ok nmX5 (by decide) rfl (Nat.le_of_ble_eq_true rfl) q94 rfl rfl (tyX5_ok 0 (by decide)) rfl rfl dX5_init_6 (fun H locs h => ?_)
  obtain ⟨S2, eS2⟩ : ∃ z : Mem, z = (sI S a0 0 (-1 : Int32)) := ⟨_, rfl⟩
  rw [← eS2] at h
  have hw := hw S2 eS2
  refine lv_aload_n hx hb dX5_init_9 rfl (lv_at hl 0 rfl) ?_
  refine lv_iconst (v := (-1 : Int32)) hx hb dX5_init_10 (by decide) ?_
  refine r_putI X h (kI eS2 k1) 1 (by decide) rfl inX5 tyX5 tyX5_ok nmX5 (by decide) rfl (Nat.le_of_ble_eq_true rfl) q96 rfl rfl (tyX5_ok 1 (by decide)) rfl rfl dX5_init_11 (fun H locs h => ?_)
  obtain ⟨S3, eS3⟩ : ∃ z : Mem, z = (sI S2 a0 1 (-1 : Int32)) := ⟨_, rfl⟩
  rw [← eS3] at h
  have hw := hw S3 eS3
  refine lv_aload_n hx hb dX5_init_14 rfl (lv_at hl 0 rfl) ?_
  refine lv_bipush (v := (nI 32)) hx hb dX5_init_15 (by decide) ?_
  obtain ⟨b4, hw⟩ := hw
  refine r_putI X h (kI eS3 (kI eS2 k1)) 2 (by decide) rfl inX5 tyX5 tyX5_ok nmX5 (by decide) rfl (Nat.le_of_ble_eq_true rfl) q98 rfl rfl (tyX5_ok 2 (by decide)) b4.1 b4.2 dX5_init_17 (fun H locs h => ?_)
  obtain ⟨S5, eS5⟩ : ∃ z : Mem, z = (sI S3 a0 2 (nI 32)) := ⟨_, rfl⟩
  rw [← eS5] at h
  have hw := hw S5 eS5
  exact (en_v X h hr hw (Nat.le_of_ble_eq_true rfl) (Nat.le_of_ble_eq_true rfl) dX5_init_20)
abbrev rmX4_init : Room := { frames := 1, cells := 1, slots := 156, locals := 20 }
def wlX4_init_15 (a0 : Nat)  (post : Unit → Mem → Prop)  : Nat → Int32 → Mem → Prop
  | 0 => fun _ _ => False
  | n + 1 => fun w1 S => isK S a0 4 ∧ (∃ o6, mR S a0 0 = some o6 ∧ (isK S o6 8 ∧ (((nI (mN S o6)) ≤ w1 → (post () S)) ∧ (¬ (nI (mN S o6)) ≤ w1 → (vp_in w1 (mN S o6) ∧ (∀ S10 : Mem, S10 = (sI S o6 w1.toNatClampNeg (-1 : Int32)) → (∀ x11 : Int32, x11 = (w1 + (nI 1)) → (wlX4_init_15 a0 post n x11 S10))))))))
set_option maxHeartbeats 4000000 in
set_option maxRecDepth 100000 in
theorem llX4_init_15 {p : Program} {l : Launch} {e : Env} {s : State} {m : MethodId} {args : Array Value} {below : List Frame} {meth : Method} {c : Code} {G : GT} {A : Nat → Prop} (hin : meth.name = "<init>") (X : Cx p s m args meth c cX4_init 2 RX4 G A) (hr : meth.sig.returnType = none) (a0 : Nat)  (post : Unit → Mem → Prop)   : ∀ (n : Nat) (w1 : Int32) (S : Mem), wlX4_init_15 a0 post n w1 S → ∀ (H : Heap) (locs : List Loc) (ls : Array Slot), Hx G A s.heap H locs S → lv_has ls 2 [(0, .ref a0), (1, .int w1)] → W p l e rmX4_init s m args below meth c H locs 1 156 (MQ below (QN emV post G A) args s 1 156 A) (F0 m 15 ls []) := by
  have hx := X.1
  have hb := X.2.1
  have hown := X.2.2.2.1
  intro n
  induction n with
  | zero =>
    intro _ _ hw
    exact hw.elim
  | succ n ih =>
    intro w1 S hw H locs ls h hl
    refine lv_iload_n hx hb dX4_init_15 rfl (lv_at hl 1 rfl) ?_
    refine lv_aload_n hx hb dX4_init_16 rfl (lv_at hl 0 rfl) ?_
    obtain ⟨k5, hw⟩ := hw
    obtain ⟨o6, eo6, hw⟩ := hw
    refine r_getR X h k5 0 eo6  (by decide) rfl inX4 (by decide) rfl q112 rfl dX4_init_17 ?_
    obtain ⟨k7, hw⟩ := hw
    refine r_alen X h k7 (by decide) dX4_init_20 ?_
    refine lv_icmp_ge (tgt := 37) hx hb dX4_init_21 (by decide) (fun c8 => ?_) (fun c8 => ?_)
    · have hw := hw.1 c8
      exact (en_v X h hr hw (Nat.le_of_ble_eq_true rfl) (Nat.le_of_ble_eq_true rfl) dX4_init_37)
    · have hw := hw.2 c8
      refine lv_aload_n hx hb dX4_init_24 rfl (lv_at hl 0 rfl) ?_
      refine r_getR X h k5 0 eo6  (by decide) rfl inX4 (by decide) rfl q112 rfl dX4_init_25 ?_
      refine lv_iload_n hx hb dX4_init_28 rfl (lv_at hl 1 rfl) ?_
      refine lv_iconst (v := (-1 : Int32)) hx hb dX4_init_29 (by decide) ?_
      obtain ⟨v9, hw⟩ := hw
      refine r_iast X h k7 v9 dX4_init_30 (fun H locs h => ?_)
      obtain ⟨S10, eS10⟩ : ∃ z : Mem, z = (sI S o6 w1.toNatClampNeg (-1 : Int32)) := ⟨_, rfl⟩
      rw [← eS10] at h
      have hw := hw S10 eS10
      obtain ⟨x11, ex11⟩ : ∃ y : Int32, y = (w1 + (nI 1)) := ⟨_, rfl⟩
      have hw := hw x11 ex11
      refine lv_iinc (v := x11) (lv' := [(1, .int x11), (0, .ref a0)]) hx hb dX4_init_31 hl (k := 1) rfl (by rw [ex11]; rfl) (by decide) rfl (fun ls hl => ?_)
      refine lv_goto (tgt := 15) hx hb dX4_init_34 (by decide) ?_
      exact ih _ _ hw _ _ _ h (lv_sub hl [1, 0] rfl)
def wpX4_init (S : Mem) (a0 : Nat) (post : Unit → Mem → Prop) : Prop := ∀ o1 : Nat, o1 ∉ mL S → (∀ S2 : Mem, S2 = (nA S o1 8 156) → (isK S2 a0 4 ∧ (∀ S4 : Mem, S4 = (sR S2 a0 0 (some o1)) → (∃ m, wlX4_init_15 a0 post m (nI 0) S4))))
set_option maxHeartbeats 4000000 in
set_option maxRecDepth 100000 in
theorem meX4_init (l : Launch) (G : GT) (S : Mem) (a0 : Nat) (post : Unit → Mem → Prop) (hw : wpX4_init S a0 post) : CN emV l yX4_init (wsU yX4_init cX4_init 2 none) rmX4_init 1 156 G [.ref a0] S post := by
  refine cn_open RX4 rfl (by decide +kernel) (Nat.le_of_ble_eq_true rfl) ?_
  intro p e s m args below meth c A X h hr hin ls hl
  have hl : lv_has ls 2 [(0, .ref a0)] := hl
  have hx := X.1
  have hb := X.2.1
  have hown := X.2.2.2.1
  unfold wpX4_init at hw
  refine lv_aload_n hx hb dX4_init_0 rfl (lv_at hl 0 rfl) ?_
  refine r_obj X hl.1 q111 q59 q60 ⟨Nat.le_of_ble_eq_true rfl, Nat.le_of_ble_eq_true rfl⟩ ⟨Nat.le_of_ble_eq_true rfl, Nat.le_of_ble_eq_true rfl⟩ dX4_init_1 ?_
  refine lv_aload_n hx hb dX4_init_4 rfl (lv_at hl 0 rfl) ?_
  refine lv_sipush (v := (nI 156)) hx hb dX4_init_5 (by decide) ?_
  refine r_newI X h 156 q85 (by decide) ⟨Nat.le_of_ble_eq_true rfl, Nat.le_of_ble_eq_true rfl⟩ dX4_init_8 (fun o1 H ho1 h => ?_)
  have hw := hw o1 ho1
  obtain ⟨S2, eS2⟩ : ∃ z : Mem, z = (nA S o1 8 156) := ⟨_, rfl⟩
  rw [← eS2] at h
  have hw := hw S2 eS2
  obtain ⟨k3, hw⟩ := hw
  refine r_putRF X h k3 0 (by decide) rfl inX4 tyX4 tyX4_ok nmX4 (by decide) rfl (Nat.le_of_ble_eq_true rfl) q112 rfl rfl hin rfl (tyX4_ok 0 (by decide)) rfl rfl dX4_init_10 (fun H locs h => ?_)
  obtain ⟨S4, eS4⟩ : ∃ z : Mem, z = (sR S2 a0 0 (some o1)) := ⟨_, rfl⟩
  rw [← eS4] at h
  have hw := hw S4 eS4
  refine lv_iconst (v := (nI 0)) hx hb dX4_init_13 (by decide) ?_
  refine lv_istore_n (lv' := [(1, .int (nI 0)), (0, .ref a0)]) hx hb dX4_init_14 rfl hl (by decide) rfl (fun ls hl => ?_)
  obtain ⟨n12, hw⟩ := hw
  exact llX4_init_15  hin X hr _ _ n12 _ _ hw _ _ _ h (lv_sub hl [1, 0] rfl)
abbrev rmX3_init : Room := { frames := 1, cells := 3, slots := 2066, locals := 20 }
def wpX3_init (S : Mem) (a0 : Nat) (post : Unit → Mem → Prop) : Prop := ∀ o1 : Nat, o1 ∉ mL S → (∀ S2 : Mem, S2 = (nA S o1 8 9) → (isK S2 a0 3 ∧ (∀ S4 : Mem, S4 = (sR S2 a0 0 (some o1)) → (∀ o5 : Nat, o5 ∉ mL S4 → (∀ S6 : Mem, S6 = (nA S4 o5 8 9) → (∀ S7 : Mem, S7 = (sR S6 a0 1 (some o5)) → (∀ o8 : Nat, o8 ∉ mL S7 → (∀ S9 : Mem, S9 = (nA S7 o8 8 2048) → (∀ S10 : Mem, S10 = (sR S9 a0 2 (some o8)) → (post () S10))))))))))
set_option maxHeartbeats 4000000 in
set_option maxRecDepth 100000 in
theorem meX3_init (l : Launch) (G : GT) (S : Mem) (a0 : Nat) (post : Unit → Mem → Prop) (hw : wpX3_init S a0 post) : CN emV l yX3_init (wsU yX3_init cX3_init 1 none) rmX3_init 3 2066 G [.ref a0] S post := by
  refine cn_open RX3 rfl (by decide +kernel) (Nat.le_of_ble_eq_true rfl) ?_
  intro p e s m args below meth c A X h hr hin ls hl
  have hl : lv_has ls 1 [(0, .ref a0)] := hl
  have hx := X.1
  have hb := X.2.1
  have hown := X.2.2.2.1
  unfold wpX3_init at hw
  refine lv_aload_n hx hb dX3_init_0 rfl (lv_at hl 0 rfl) ?_
  refine r_obj X hl.1 q125 q59 q60 ⟨Nat.le_of_ble_eq_true rfl, Nat.le_of_ble_eq_true rfl⟩ ⟨Nat.le_of_ble_eq_true rfl, Nat.le_of_ble_eq_true rfl⟩ dX3_init_1 ?_
  refine lv_aload_n hx hb dX3_init_4 rfl (lv_at hl 0 rfl) ?_
  refine lv_bipush (v := (nI 9)) hx hb dX3_init_5 (by decide) ?_
  refine r_newI X h 9 q85 (by decide) ⟨Nat.le_of_ble_eq_true rfl, Nat.le_of_ble_eq_true rfl⟩ dX3_init_7 (fun o1 H ho1 h => ?_)
  have hw := hw o1 ho1
  obtain ⟨S2, eS2⟩ : ∃ z : Mem, z = (nA S o1 8 9) := ⟨_, rfl⟩
  rw [← eS2] at h
  have hw := hw S2 eS2
  obtain ⟨k3, hw⟩ := hw
  refine r_putRF X h k3 0 (by decide) rfl inX3 tyX3 tyX3_ok nmX3 (by decide) rfl (Nat.le_of_ble_eq_true rfl) q126 rfl rfl hin rfl (tyX3_ok 0 (by decide)) rfl rfl dX3_init_9 (fun H locs h => ?_)
  obtain ⟨S4, eS4⟩ : ∃ z : Mem, z = (sR S2 a0 0 (some o1)) := ⟨_, rfl⟩
  rw [← eS4] at h
  have hw := hw S4 eS4
  refine lv_aload_n hx hb dX3_init_12 rfl (lv_at hl 0 rfl) ?_
  refine lv_bipush (v := (nI 9)) hx hb dX3_init_13 (by decide) ?_
  refine r_newI X h 9 q85 (by decide) ⟨Nat.le_of_ble_eq_true rfl, Nat.le_of_ble_eq_true rfl⟩ dX3_init_15 (fun o5 H ho5 h => ?_)
  have hw := hw o5 ho5
  obtain ⟨S6, eS6⟩ : ∃ z : Mem, z = (nA S4 o5 8 9) := ⟨_, rfl⟩
  rw [← eS6] at h
  have hw := hw S6 eS6
  refine r_putRF X h (kE eS6 (nA_keep (kR eS4 k3) ho5)) 1 (by decide) rfl inX3 tyX3 tyX3_ok nmX3 (by decide) rfl (Nat.le_of_ble_eq_true rfl) q127 rfl rfl hin rfl (tyX3_ok 1 (by decide)) rfl rfl dX3_init_17 (fun H locs h => ?_)
  obtain ⟨S7, eS7⟩ : ∃ z : Mem, z = (sR S6 a0 1 (some o5)) := ⟨_, rfl⟩
  rw [← eS7] at h
  have hw := hw S7 eS7
  refine lv_aload_n hx hb dX3_init_20 rfl (lv_at hl 0 rfl) ?_
  refine lv_sipush (v := (nI 2048)) hx hb dX3_init_21 (by decide) ?_
  refine r_newI X h 2048 q85 (by decide) ⟨Nat.le_of_ble_eq_true rfl, Nat.le_of_ble_eq_true rfl⟩ dX3_init_24 (fun o8 H ho8 h => ?_)
  have hw := hw o8 ho8
  obtain ⟨S9, eS9⟩ : ∃ z : Mem, z = (nA S7 o8 8 2048) := ⟨_, rfl⟩
  rw [← eS9] at h
  have hw := hw S9 eS9
  refine r_putRF X h (kE eS9 (nA_keep (kR eS7 (kE eS6 (nA_keep (kR eS4 k3) ho5))) ho8)) 2 (by decide) rfl inX3 tyX3 tyX3_ok nmX3 (by decide) rfl (Nat.le_of_ble_eq_true rfl) q128 rfl rfl hin rfl (tyX3_ok 2 (by decide)) rfl rfl dX3_init_26 (fun H locs h => ?_)
  obtain ⟨S10, eS10⟩ : ∃ z : Mem, z = (sR S9 a0 2 (some o8)) := ⟨_, rfl⟩
  rw [← eS10] at h
  have hw := hw S10 eS10
  exact (en_v X h hr hw (Nat.le_of_ble_eq_true rfl) (Nat.le_of_ble_eq_true rfl) dX3_init_29)
abbrev rmX6_init : Room := { frames := 2, cells := 13, slots := 3552, locals := 41 }
def wpX6_init (S : Mem) (a0 : Nat) (post : Unit → Mem → Prop) : Prop := ∀ o1 : Nat, o1 ∉ mL S → (∀ S2 : Mem, S2 = (nA S o1 0 0) → (wpX0_init S2 o1 (fun u4 S3 => isK S3 a0 6 ∧ (∀ S6 : Mem, S6 = (sR S3 a0 0 (some o1)) → (∀ o7 : Nat, o7 ∉ mL S6 → (∀ S8 : Mem, S8 = (nA S6 o7 10 4) → (∀ S9 : Mem, S9 = (sR S8 a0 1 (some o7)) → (∀ o10 : Nat, o10 ∉ mL S9 → (∀ S11 : Mem, S11 = (nA S9 o10 5 0) → (wpX5_init S11 o10 (fun u13 S12 => isK S12 a0 6 ∧ (∀ S15 : Mem, S15 = (sR S12 a0 2 (some o10)) → (∀ o16 : Nat, o16 ∉ mL S15 → (∀ S17 : Mem, S17 = (nA S15 o16 4 0) → (wpX4_init S17 o16 (fun u19 S18 => isK S18 a0 6 ∧ (∀ S21 : Mem, S21 = (sR S18 a0 3 (some o16)) → (∀ o22 : Nat, o22 ∉ mL S21 → (∀ S23 : Mem, S23 = (nA S21 o22 3 0) → (wpX3_init S23 o22 (fun u25 S24 => isK S24 a0 6 ∧ (∀ S27 : Mem, S27 = (sR S24 a0 4 (some o22)) → (∀ o28 : Nat, o28 ∉ mL S27 → (∀ S29 : Mem, S29 = (nA S27 o28 11 100) → (∀ S30 : Mem, S30 = (sR S29 a0 5 (some o28)) → (post () S30))))))))))))))))))))))))))
set_option maxHeartbeats 4000000 in
set_option maxRecDepth 100000 in
theorem meX6_init (l : Launch) (G : GT) (S : Mem) (a0 : Nat) (post : Unit → Mem → Prop) (hw : wpX6_init S a0 post) : CN emV l yX6_init (wsU yX6_init cX6_init 1 none) rmX6_init 13 3552 G [.ref a0] S post := by
  refine cn_open RX6 rfl (by decide +kernel) (Nat.le_of_ble_eq_true rfl) ?_
  intro p e s m args below meth c A X h hr hin ls hl
  have hl : lv_has ls 1 [(0, .ref a0)] := hl
  have hx := X.1
  have hb := X.2.1
  have hown := X.2.2.2.1
  unfold wpX6_init at hw
  refine lv_aload_n hx hb dX6_init_0 rfl (lv_at hl 0 rfl) ?_
  refine r_obj X hl.1 q58 q59 q60 ⟨Nat.le_of_ble_eq_true rfl, Nat.le_of_ble_eq_true rfl⟩ ⟨Nat.le_of_ble_eq_true rfl, Nat.le_of_ble_eq_true rfl⟩ dX6_init_1 ?_
  refine lv_aload_n hx hb dX6_init_4 rfl (lv_at hl 0 rfl) ?_
  refine r_new X h 0 (by decide) rfl inX0 tyX0 tyX0_ok q61 q62 q34 (by decide +kernel) ⟨Nat.le_of_ble_eq_true rfl, Nat.le_of_ble_eq_true rfl⟩ dX6_init_5 (fun o1 H ho1 h => ?_)
  have hw := hw o1 ho1
  obtain ⟨S2, eS2⟩ : ∃ z : Mem, z = (nA S o1 0 0) := ⟨_, rfl⟩
  rw [← eS2] at h
  have hw := hw S2 eS2
  refine lv_dup hx hb dX6_init_8 rfl ?_
  refine rc_I (As := []) (rest := [.ref o1, .ref a0]) X h (meX0_init l G _ _ _ hw) gU_X6_11 q34 q63 q64 rfl rfl rfl hdS_X0_init rfl ⟨Nat.le_of_ble_eq_true rfl, Nat.le_of_ble_eq_true rfl⟩ hl.1 rfl (Nat.le_of_ble_eq_true rfl) ⟨Nat.le_of_ble_eq_true rfl, Nat.le_of_ble_eq_true rfl⟩ dX6_init_9 (fun u4 S3 H locs hw h => ?_)
  obtain ⟨k5, hw⟩ := hw
  refine r_putRF X h k5 0 (by decide) rfl inX6 tyX6 tyX6_ok nmX6 (by decide) rfl (Nat.le_of_ble_eq_true rfl) q141 rfl rfl hin rfl (tyX6_ok 0 (by decide)) rfl rfl dX6_init_12 (fun H locs h => ?_)
  obtain ⟨S6, eS6⟩ : ∃ z : Mem, z = (sR S3 a0 0 (some o1)) := ⟨_, rfl⟩
  rw [← eS6] at h
  have hw := hw S6 eS6
  refine lv_aload_n hx hb dX6_init_15 rfl (lv_at hl 0 rfl) ?_
  refine lv_iconst (v := (nI 4)) hx hb dX6_init_16 (by decide) ?_
  refine r_newJob X h 4 q86 (by decide) ⟨Nat.le_of_ble_eq_true rfl, Nat.le_of_ble_eq_true rfl⟩ dX6_init_17 (fun o7 H ho7 h => ?_)
  have hw := hw o7 ho7
  obtain ⟨S8, eS8⟩ : ∃ z : Mem, z = (nA S6 o7 10 4) := ⟨_, rfl⟩
  rw [← eS8] at h
  have hw := hw S8 eS8
  refine r_putRF X h (kE eS8 (nA_keep (kR eS6 k5) ho7)) 1 (by decide) rfl inX6 tyX6 tyX6_ok nmX6 (by decide) rfl (Nat.le_of_ble_eq_true rfl) q142 rfl rfl hin rfl (tyX6_ok 1 (by decide)) rfl rfl dX6_init_20 (fun H locs h => ?_)
  obtain ⟨S9, eS9⟩ : ∃ z : Mem, z = (sR S8 a0 1 (some o7)) := ⟨_, rfl⟩
  rw [← eS9] at h
  have hw := hw S9 eS9
  refine lv_aload_n hx hb dX6_init_23 rfl (lv_at hl 0 rfl) ?_
  refine r_new X h 5 (by decide) rfl inX5 tyX5 tyX5_ok q88 q89 q35 (by decide +kernel) ⟨Nat.le_of_ble_eq_true rfl, Nat.le_of_ble_eq_true rfl⟩ dX6_init_24 (fun o10 H ho10 h => ?_)
  have hw := hw o10 ho10
  obtain ⟨S11, eS11⟩ : ∃ z : Mem, z = (nA S9 o10 5 0) := ⟨_, rfl⟩
  rw [← eS11] at h
  have hw := hw S11 eS11
  refine lv_dup hx hb dX6_init_27 rfl ?_
  refine rc_I (As := []) (rest := [.ref o10, .ref a0]) X h (meX5_init l G _ _ _ hw) gU_X6_24 q35 q90 q91 rfl rfl rfl hdS_X5_init rfl ⟨Nat.le_of_ble_eq_true rfl, Nat.le_of_ble_eq_true rfl⟩ hl.1 rfl (Nat.le_of_ble_eq_true rfl) ⟨Nat.le_of_ble_eq_true rfl, Nat.le_of_ble_eq_true rfl⟩ dX6_init_28 (fun u13 S12 H locs hw h => ?_)
  obtain ⟨k14, hw⟩ := hw
  refine r_putRF X h k14 2 (by decide) rfl inX6 tyX6 tyX6_ok nmX6 (by decide) rfl (Nat.le_of_ble_eq_true rfl) q143 rfl rfl hin rfl (tyX6_ok 2 (by decide)) rfl rfl dX6_init_31 (fun H locs h => ?_)
  obtain ⟨S15, eS15⟩ : ∃ z : Mem, z = (sR S12 a0 2 (some o10)) := ⟨_, rfl⟩
  rw [← eS15] at h
  have hw := hw S15 eS15
  refine lv_aload_n hx hb dX6_init_34 rfl (lv_at hl 0 rfl) ?_
  refine r_new X h 4 (by decide) rfl inX4 tyX4 tyX4_ok q106 q107 q36 (by decide +kernel) ⟨Nat.le_of_ble_eq_true rfl, Nat.le_of_ble_eq_true rfl⟩ dX6_init_35 (fun o16 H ho16 h => ?_)
  have hw := hw o16 ho16
  obtain ⟨S17, eS17⟩ : ∃ z : Mem, z = (nA S15 o16 4 0) := ⟨_, rfl⟩
  rw [← eS17] at h
  have hw := hw S17 eS17
  refine lv_dup hx hb dX6_init_38 rfl ?_
  refine rc_I (As := []) (rest := [.ref o16, .ref a0]) X h (meX4_init l G _ _ _ hw) gU_X6_31 q36 q108 q109 rfl rfl rfl hdS_X4_init rfl ⟨Nat.le_of_ble_eq_true rfl, Nat.le_of_ble_eq_true rfl⟩ hl.1 rfl (Nat.le_of_ble_eq_true rfl) ⟨Nat.le_of_ble_eq_true rfl, Nat.le_of_ble_eq_true rfl⟩ dX6_init_39 (fun u19 S18 H locs hw h => ?_)
  obtain ⟨k20, hw⟩ := hw
  refine r_putRF X h k20 3 (by decide) rfl inX6 tyX6 tyX6_ok nmX6 (by decide) rfl (Nat.le_of_ble_eq_true rfl) q144 rfl rfl hin rfl (tyX6_ok 3 (by decide)) rfl rfl dX6_init_42 (fun H locs h => ?_)
  obtain ⟨S21, eS21⟩ : ∃ z : Mem, z = (sR S18 a0 3 (some o16)) := ⟨_, rfl⟩
  rw [← eS21] at h
  have hw := hw S21 eS21
  refine lv_aload_n hx hb dX6_init_45 rfl (lv_at hl 0 rfl) ?_
  refine r_new X h 3 (by decide) rfl inX3 tyX3 tyX3_ok q120 q121 q37 (by decide +kernel) ⟨Nat.le_of_ble_eq_true rfl, Nat.le_of_ble_eq_true rfl⟩ dX6_init_46 (fun o22 H ho22 h => ?_)
  have hw := hw o22 ho22
  obtain ⟨S23, eS23⟩ : ∃ z : Mem, z = (nA S21 o22 3 0) := ⟨_, rfl⟩
  rw [← eS23] at h
  have hw := hw S23 eS23
  refine lv_dup hx hb dX6_init_49 rfl ?_
  refine rc_I (As := []) (rest := [.ref o22, .ref a0]) X h (meX3_init l G _ _ _ hw) gU_X6_38 q37 q122 q123 rfl rfl rfl hdS_X3_init rfl ⟨Nat.le_of_ble_eq_true rfl, Nat.le_of_ble_eq_true rfl⟩ hl.1 rfl (Nat.le_of_ble_eq_true rfl) ⟨Nat.le_of_ble_eq_true rfl, Nat.le_of_ble_eq_true rfl⟩ dX6_init_50 (fun u25 S24 H locs hw h => ?_)
  obtain ⟨k26, hw⟩ := hw
  refine r_putRF X h k26 4 (by decide) rfl inX6 tyX6 tyX6_ok nmX6 (by decide) rfl (Nat.le_of_ble_eq_true rfl) q145 rfl rfl hin rfl (tyX6_ok 4 (by decide)) rfl rfl dX6_init_53 (fun H locs h => ?_)
  obtain ⟨S27, eS27⟩ : ∃ z : Mem, z = (sR S24 a0 4 (some o22)) := ⟨_, rfl⟩
  rw [← eS27] at h
  have hw := hw S27 eS27
  refine lv_aload_n hx hb dX6_init_56 rfl (lv_at hl 0 rfl) ?_
  refine lv_bipush (v := (nI 100)) hx hb dX6_init_57 (by decide) ?_
  refine r_newLot X h 100 q139 (by decide) ⟨Nat.le_of_ble_eq_true rfl, Nat.le_of_ble_eq_true rfl⟩ dX6_init_59 (fun o28 H ho28 h => ?_)
  have hw := hw o28 ho28
  obtain ⟨S29, eS29⟩ : ∃ z : Mem, z = (nA S27 o28 11 100) := ⟨_, rfl⟩
  rw [← eS29] at h
  have hw := hw S29 eS29
  refine r_putRF X h (kE eS29 (nA_keep (kR eS27 k26) ho28)) 5 (by decide) rfl inX6 tyX6 tyX6_ok nmX6 (by decide) rfl (Nat.le_of_ble_eq_true rfl) q146 rfl rfl hin rfl (tyX6_ok 5 (by decide)) rfl rfl dX6_init_62 (fun H locs h => ?_)
  obtain ⟨S30, eS30⟩ : ∃ z : Mem, z = (sR S29 a0 5 (some o28)) := ⟨_, rfl⟩
  rw [← eS30] at h
  have hw := hw S30 eS30
  exact (en_v X h hr hw (Nat.le_of_ble_eq_true rfl) (Nat.le_of_ble_eq_true rfl) dX6_init_65)
abbrev rmX7_init : Room := { frames := 1, cells := 14, slots := 5192, locals := 20 }
def wpX7_init (S : Mem) (a0 : Nat) (post : Unit → Mem → Prop) : Prop := ∀ o1 : Nat, o1 ∉ mL S → (∀ S2 : Mem, S2 = (nA S o1 8 12) → (isK S2 a0 7 ∧ (∀ S4 : Mem, S4 = (sR S2 a0 12 (some o1)) → (∀ o5 : Nat, o5 ∉ mL S4 → (∀ S6 : Mem, S6 = (nA S4 o5 8 4) → (∀ S7 : Mem, S7 = (sR S6 a0 13 (some o5)) → (∀ o8 : Nat, o8 ∉ mL S7 → (∀ S9 : Mem, S9 = (nA S7 o8 8 4) → (∀ S10 : Mem, S10 = (sR S9 a0 14 (some o8)) → (∀ o11 : Nat, o11 ∉ mL S10 → (∀ S12 : Mem, S12 = (nA S10 o11 8 64) → (∀ S13 : Mem, S13 = (sR S12 a0 15 (some o11)) → (∀ o14 : Nat, o14 ∉ mL S13 → (∀ S15 : Mem, S15 = (nA S13 o14 8 32) → (∀ S16 : Mem, S16 = (sR S15 a0 16 (some o14)) → (∀ o17 : Nat, o17 ∉ mL S16 → (∀ S18 : Mem, S18 = (nA S16 o17 9 12) → (∀ S19 : Mem, S19 = (sR S18 a0 17 (some o17)) → (∀ o20 : Nat, o20 ∉ mL S19 → (∀ S21 : Mem, S21 = (nA S19 o20 8 1100) → (∀ S22 : Mem, S22 = (sR S21 a0 18 (some o20)) → (∀ o23 : Nat, o23 ∉ mL S22 → (∀ S24 : Mem, S24 = (nA S22 o23 8 8) → (∀ S25 : Mem, S25 = (sR S24 a0 19 (some o23)) → (∀ o26 : Nat, o26 ∉ mL S25 → (∀ S27 : Mem, S27 = (nA S25 o26 8 8) → (∀ S28 : Mem, S28 = (sR S27 a0 20 (some o26)) → (∀ o29 : Nat, o29 ∉ mL S28 → (∀ S30 : Mem, S30 = (nA S28 o29 8 2048) → (∀ S31 : Mem, S31 = (sR S30 a0 21 (some o29)) → (∀ o32 : Nat, o32 ∉ mL S31 → (∀ S33 : Mem, S33 = (nA S31 o32 8 100) → (∀ S34 : Mem, S34 = (sR S33 a0 22 (some o32)) → (∀ o35 : Nat, o35 ∉ mL S34 → (∀ S36 : Mem, S36 = (nA S34 o35 8 100) → (∀ S37 : Mem, S37 = (sR S36 a0 23 (some o35)) → (∀ o38 : Nat, o38 ∉ mL S37 → (∀ S39 : Mem, S39 = (nA S37 o38 8 100) → (∀ S40 : Mem, S40 = (sR S39 a0 24 (some o38)) → (∀ o41 : Nat, o41 ∉ mL S40 → (∀ S42 : Mem, S42 = (nA S40 o41 8 1600) → (∀ S43 : Mem, S43 = (sR S42 a0 25 (some o41)) → (post () S43)))))))))))))))))))))))))))))))))))))))))))
set_option maxHeartbeats 4000000 in
set_option maxRecDepth 100000 in
theorem meX7_init (l : Launch) (G : GT) (S : Mem) (a0 : Nat) (post : Unit → Mem → Prop) (hw : wpX7_init S a0 post) : CN emV l yX7_init (wsU yX7_init cX7_init 1 none) rmX7_init 14 5192 G [.ref a0] S post := by
  refine cn_open RX7 rfl (by decide +kernel) (Nat.le_of_ble_eq_true rfl) ?_
  intro p e s m args below meth c A X h hr hin ls hl
  have hl : lv_has ls 1 [(0, .ref a0)] := hl
  have hx := X.1
  have hb := X.2.1
  have hown := X.2.2.2.1
  unfold wpX7_init at hw
  refine lv_aload_n hx hb dX7_init_0 rfl (lv_at hl 0 rfl) ?_
  refine r_obj X hl.1 q847 q59 q60 ⟨Nat.le_of_ble_eq_true rfl, Nat.le_of_ble_eq_true rfl⟩ ⟨Nat.le_of_ble_eq_true rfl, Nat.le_of_ble_eq_true rfl⟩ dX7_init_1 ?_
  refine lv_aload_n hx hb dX7_init_4 rfl (lv_at hl 0 rfl) ?_
  refine lv_bipush (v := (nI 12)) hx hb dX7_init_5 (by decide) ?_
  refine r_newI X h 12 q85 (by decide) ⟨Nat.le_of_ble_eq_true rfl, Nat.le_of_ble_eq_true rfl⟩ dX7_init_7 (fun o1 H ho1 h => ?_)
  have hw := hw o1 ho1
  obtain ⟨S2, eS2⟩ : ∃ z : Mem, z = (nA S o1 8 12) := ⟨_, rfl⟩
  rw [← eS2] at h
  have hw := hw S2 eS2
  obtain ⟨k3, hw⟩ := hw
  refine r_putRF X h k3 12 (by decide) rfl inX7 tyX7 tyX7_ok nmX7 (by decide) rfl (Nat.le_of_ble_eq_true rfl) q860 rfl rfl hin rfl (tyX7_ok 12 (by decide)) rfl rfl dX7_init_9 (fun H locs h => ?_)
  obtain ⟨S4, eS4⟩ : ∃ z : Mem, z = (sR S2 a0 12 (some o1)) := ⟨_, rfl⟩
  rw [← eS4] at h
  have hw := hw S4 eS4
  refine lv_aload_n hx hb dX7_init_12 rfl (lv_at hl 0 rfl) ?_
  refine lv_iconst (v := (nI 4)) hx hb dX7_init_13 (by decide) ?_
  refine r_newI X h 4 q85 (by decide) ⟨Nat.le_of_ble_eq_true rfl, Nat.le_of_ble_eq_true rfl⟩ dX7_init_14 (fun o5 H ho5 h => ?_)
  have hw := hw o5 ho5
  obtain ⟨S6, eS6⟩ : ∃ z : Mem, z = (nA S4 o5 8 4) := ⟨_, rfl⟩
  rw [← eS6] at h
  have hw := hw S6 eS6
  refine r_putRF X h (kE eS6 (nA_keep (kR eS4 k3) ho5)) 13 (by decide) rfl inX7 tyX7 tyX7_ok nmX7 (by decide) rfl (Nat.le_of_ble_eq_true rfl) q861 rfl rfl hin rfl (tyX7_ok 13 (by decide)) rfl rfl dX7_init_16 (fun H locs h => ?_)
  obtain ⟨S7, eS7⟩ : ∃ z : Mem, z = (sR S6 a0 13 (some o5)) := ⟨_, rfl⟩
  rw [← eS7] at h
  have hw := hw S7 eS7
  refine lv_aload_n hx hb dX7_init_19 rfl (lv_at hl 0 rfl) ?_
  refine lv_iconst (v := (nI 4)) hx hb dX7_init_20 (by decide) ?_
  refine r_newI X h 4 q85 (by decide) ⟨Nat.le_of_ble_eq_true rfl, Nat.le_of_ble_eq_true rfl⟩ dX7_init_21 (fun o8 H ho8 h => ?_)
  have hw := hw o8 ho8
  obtain ⟨S9, eS9⟩ : ∃ z : Mem, z = (nA S7 o8 8 4) := ⟨_, rfl⟩
  rw [← eS9] at h
  have hw := hw S9 eS9
  refine r_putRF X h (kE eS9 (nA_keep (kR eS7 (kE eS6 (nA_keep (kR eS4 k3) ho5))) ho8)) 14 (by decide) rfl inX7 tyX7 tyX7_ok nmX7 (by decide) rfl (Nat.le_of_ble_eq_true rfl) q862 rfl rfl hin rfl (tyX7_ok 14 (by decide)) rfl rfl dX7_init_23 (fun H locs h => ?_)
  obtain ⟨S10, eS10⟩ : ∃ z : Mem, z = (sR S9 a0 14 (some o8)) := ⟨_, rfl⟩
  rw [← eS10] at h
  have hw := hw S10 eS10
  refine lv_aload_n hx hb dX7_init_26 rfl (lv_at hl 0 rfl) ?_
  refine lv_bipush (v := (nI 64)) hx hb dX7_init_27 (by decide) ?_
  refine r_newI X h 64 q85 (by decide) ⟨Nat.le_of_ble_eq_true rfl, Nat.le_of_ble_eq_true rfl⟩ dX7_init_29 (fun o11 H ho11 h => ?_)
  have hw := hw o11 ho11
  obtain ⟨S12, eS12⟩ : ∃ z : Mem, z = (nA S10 o11 8 64) := ⟨_, rfl⟩
  rw [← eS12] at h
  have hw := hw S12 eS12
  refine r_putRF X h (kE eS12 (nA_keep (kR eS10 (kE eS9 (nA_keep (kR eS7 (kE eS6 (nA_keep (kR eS4 k3) ho5))) ho8))) ho11)) 15 (by decide) rfl inX7 tyX7 tyX7_ok nmX7 (by decide) rfl (Nat.le_of_ble_eq_true rfl) q863 rfl rfl hin rfl (tyX7_ok 15 (by decide)) rfl rfl dX7_init_31 (fun H locs h => ?_)
  obtain ⟨S13, eS13⟩ : ∃ z : Mem, z = (sR S12 a0 15 (some o11)) := ⟨_, rfl⟩
  rw [← eS13] at h
  have hw := hw S13 eS13
  refine lv_aload_n hx hb dX7_init_34 rfl (lv_at hl 0 rfl) ?_
  refine lv_bipush (v := (nI 32)) hx hb dX7_init_35 (by decide) ?_
  refine r_newI X h 32 q85 (by decide) ⟨Nat.le_of_ble_eq_true rfl, Nat.le_of_ble_eq_true rfl⟩ dX7_init_37 (fun o14 H ho14 h => ?_)
  have hw := hw o14 ho14
  obtain ⟨S15, eS15⟩ : ∃ z : Mem, z = (nA S13 o14 8 32) := ⟨_, rfl⟩
  rw [← eS15] at h
  have hw := hw S15 eS15
  refine r_putRF X h (kE eS15 (nA_keep (kR eS13 (kE eS12 (nA_keep (kR eS10 (kE eS9 (nA_keep (kR eS7 (kE eS6 (nA_keep (kR eS4 k3) ho5))) ho8))) ho11))) ho14)) 16 (by decide) rfl inX7 tyX7 tyX7_ok nmX7 (by decide) rfl (Nat.le_of_ble_eq_true rfl) q864 rfl rfl hin rfl (tyX7_ok 16 (by decide)) rfl rfl dX7_init_39 (fun H locs h => ?_)
  obtain ⟨S16, eS16⟩ : ∃ z : Mem, z = (sR S15 a0 16 (some o14)) := ⟨_, rfl⟩
  rw [← eS16] at h
  have hw := hw S16 eS16
  refine lv_aload_n hx hb dX7_init_42 rfl (lv_at hl 0 rfl) ?_
  refine lv_bipush (v := (nI 12)) hx hb dX7_init_43 (by decide) ?_
  refine r_newZ X h 12 q927 (by decide) ⟨Nat.le_of_ble_eq_true rfl, Nat.le_of_ble_eq_true rfl⟩ dX7_init_45 (fun o17 H ho17 h => ?_)
  have hw := hw o17 ho17
  obtain ⟨S18, eS18⟩ : ∃ z : Mem, z = (nA S16 o17 9 12) := ⟨_, rfl⟩
  rw [← eS18] at h
  have hw := hw S18 eS18
  refine r_putRF X h (kE eS18 (nA_keep (kR eS16 (kE eS15 (nA_keep (kR eS13 (kE eS12 (nA_keep (kR eS10 (kE eS9 (nA_keep (kR eS7 (kE eS6 (nA_keep (kR eS4 k3) ho5))) ho8))) ho11))) ho14))) ho17)) 17 (by decide) rfl inX7 tyX7 tyX7_ok nmX7 (by decide) rfl (Nat.le_of_ble_eq_true rfl) q865 rfl rfl hin rfl (tyX7_ok 17 (by decide)) rfl rfl dX7_init_47 (fun H locs h => ?_)
  obtain ⟨S19, eS19⟩ : ∃ z : Mem, z = (sR S18 a0 17 (some o17)) := ⟨_, rfl⟩
  rw [← eS19] at h
  have hw := hw S19 eS19
  refine lv_aload_n hx hb dX7_init_50 rfl (lv_at hl 0 rfl) ?_
  refine lv_sipush (v := (nI 1100)) hx hb dX7_init_51 (by decide) ?_
  refine r_newI X h 1100 q85 (by decide) ⟨Nat.le_of_ble_eq_true rfl, Nat.le_of_ble_eq_true rfl⟩ dX7_init_54 (fun o20 H ho20 h => ?_)
  have hw := hw o20 ho20
  obtain ⟨S21, eS21⟩ : ∃ z : Mem, z = (nA S19 o20 8 1100) := ⟨_, rfl⟩
  rw [← eS21] at h
  have hw := hw S21 eS21
  refine r_putRF X h (kE eS21 (nA_keep (kR eS19 (kE eS18 (nA_keep (kR eS16 (kE eS15 (nA_keep (kR eS13 (kE eS12 (nA_keep (kR eS10 (kE eS9 (nA_keep (kR eS7 (kE eS6 (nA_keep (kR eS4 k3) ho5))) ho8))) ho11))) ho14))) ho17))) ho20)) 18 (by decide) rfl inX7 tyX7 tyX7_ok nmX7 (by decide) rfl (Nat.le_of_ble_eq_true rfl) q866 rfl rfl hin rfl (tyX7_ok 18 (by decide)) rfl rfl dX7_init_56 (fun H locs h => ?_)
  obtain ⟨S22, eS22⟩ : ∃ z : Mem, z = (sR S21 a0 18 (some o20)) := ⟨_, rfl⟩
  rw [← eS22] at h
  have hw := hw S22 eS22
  refine lv_aload_n hx hb dX7_init_59 rfl (lv_at hl 0 rfl) ?_
  refine lv_bipush (v := (nI 8)) hx hb dX7_init_60 (by decide) ?_
  refine r_newI X h 8 q85 (by decide) ⟨Nat.le_of_ble_eq_true rfl, Nat.le_of_ble_eq_true rfl⟩ dX7_init_62 (fun o23 H ho23 h => ?_)
  have hw := hw o23 ho23
  obtain ⟨S24, eS24⟩ : ∃ z : Mem, z = (nA S22 o23 8 8) := ⟨_, rfl⟩
  rw [← eS24] at h
  have hw := hw S24 eS24
  refine r_putRF X h (kE eS24 (nA_keep (kR eS22 (kE eS21 (nA_keep (kR eS19 (kE eS18 (nA_keep (kR eS16 (kE eS15 (nA_keep (kR eS13 (kE eS12 (nA_keep (kR eS10 (kE eS9 (nA_keep (kR eS7 (kE eS6 (nA_keep (kR eS4 k3) ho5))) ho8))) ho11))) ho14))) ho17))) ho20))) ho23)) 19 (by decide) rfl inX7 tyX7 tyX7_ok nmX7 (by decide) rfl (Nat.le_of_ble_eq_true rfl) q867 rfl rfl hin rfl (tyX7_ok 19 (by decide)) rfl rfl dX7_init_64 (fun H locs h => ?_)
  obtain ⟨S25, eS25⟩ : ∃ z : Mem, z = (sR S24 a0 19 (some o23)) := ⟨_, rfl⟩
  rw [← eS25] at h
  have hw := hw S25 eS25
  refine lv_aload_n hx hb dX7_init_67 rfl (lv_at hl 0 rfl) ?_
  refine lv_bipush (v := (nI 8)) hx hb dX7_init_68 (by decide) ?_
  refine r_newI X h 8 q85 (by decide) ⟨Nat.le_of_ble_eq_true rfl, Nat.le_of_ble_eq_true rfl⟩ dX7_init_70 (fun o26 H ho26 h => ?_)
  have hw := hw o26 ho26
  obtain ⟨S27, eS27⟩ : ∃ z : Mem, z = (nA S25 o26 8 8) := ⟨_, rfl⟩
  rw [← eS27] at h
  have hw := hw S27 eS27
  refine r_putRF X h (kE eS27 (nA_keep (kR eS25 (kE eS24 (nA_keep (kR eS22 (kE eS21 (nA_keep (kR eS19 (kE eS18 (nA_keep (kR eS16 (kE eS15 (nA_keep (kR eS13 (kE eS12 (nA_keep (kR eS10 (kE eS9 (nA_keep (kR eS7 (kE eS6 (nA_keep (kR eS4 k3) ho5))) ho8))) ho11))) ho14))) ho17))) ho20))) ho23))) ho26)) 20 (by decide) rfl inX7 tyX7 tyX7_ok nmX7 (by decide) rfl (Nat.le_of_ble_eq_true rfl) q868 rfl rfl hin rfl (tyX7_ok 20 (by decide)) rfl rfl dX7_init_72 (fun H locs h => ?_)
  obtain ⟨S28, eS28⟩ : ∃ z : Mem, z = (sR S27 a0 20 (some o26)) := ⟨_, rfl⟩
  rw [← eS28] at h
  have hw := hw S28 eS28
  refine lv_aload_n hx hb dX7_init_75 rfl (lv_at hl 0 rfl) ?_
  refine lv_sipush (v := (nI 2048)) hx hb dX7_init_76 (by decide) ?_
  refine r_newI X h 2048 q85 (by decide) ⟨Nat.le_of_ble_eq_true rfl, Nat.le_of_ble_eq_true rfl⟩ dX7_init_79 (fun o29 H ho29 h => ?_)
  have hw := hw o29 ho29
  obtain ⟨S30, eS30⟩ : ∃ z : Mem, z = (nA S28 o29 8 2048) := ⟨_, rfl⟩
  rw [← eS30] at h
  have hw := hw S30 eS30
  refine r_putRF X h (kE eS30 (nA_keep (kR eS28 (kE eS27 (nA_keep (kR eS25 (kE eS24 (nA_keep (kR eS22 (kE eS21 (nA_keep (kR eS19 (kE eS18 (nA_keep (kR eS16 (kE eS15 (nA_keep (kR eS13 (kE eS12 (nA_keep (kR eS10 (kE eS9 (nA_keep (kR eS7 (kE eS6 (nA_keep (kR eS4 k3) ho5))) ho8))) ho11))) ho14))) ho17))) ho20))) ho23))) ho26))) ho29)) 21 (by decide) rfl inX7 tyX7 tyX7_ok nmX7 (by decide) rfl (Nat.le_of_ble_eq_true rfl) q869 rfl rfl hin rfl (tyX7_ok 21 (by decide)) rfl rfl dX7_init_81 (fun H locs h => ?_)
  obtain ⟨S31, eS31⟩ : ∃ z : Mem, z = (sR S30 a0 21 (some o29)) := ⟨_, rfl⟩
  rw [← eS31] at h
  have hw := hw S31 eS31
  refine lv_aload_n hx hb dX7_init_84 rfl (lv_at hl 0 rfl) ?_
  refine lv_bipush (v := (nI 100)) hx hb dX7_init_85 (by decide) ?_
  refine r_newI X h 100 q85 (by decide) ⟨Nat.le_of_ble_eq_true rfl, Nat.le_of_ble_eq_true rfl⟩ dX7_init_87 (fun o32 H ho32 h => ?_)
  have hw := hw o32 ho32
  obtain ⟨S33, eS33⟩ : ∃ z : Mem, z = (nA S31 o32 8 100) := ⟨_, rfl⟩
  rw [← eS33] at h
  have hw := hw S33 eS33
  refine r_putRF X h (kE eS33 (nA_keep (kR eS31 (kE eS30 (nA_keep (kR eS28 (kE eS27 (nA_keep (kR eS25 (kE eS24 (nA_keep (kR eS22 (kE eS21 (nA_keep (kR eS19 (kE eS18 (nA_keep (kR eS16 (kE eS15 (nA_keep (kR eS13 (kE eS12 (nA_keep (kR eS10 (kE eS9 (nA_keep (kR eS7 (kE eS6 (nA_keep (kR eS4 k3) ho5))) ho8))) ho11))) ho14))) ho17))) ho20))) ho23))) ho26))) ho29))) ho32)) 22 (by decide) rfl inX7 tyX7 tyX7_ok nmX7 (by decide) rfl (Nat.le_of_ble_eq_true rfl) q870 rfl rfl hin rfl (tyX7_ok 22 (by decide)) rfl rfl dX7_init_89 (fun H locs h => ?_)
  obtain ⟨S34, eS34⟩ : ∃ z : Mem, z = (sR S33 a0 22 (some o32)) := ⟨_, rfl⟩
  rw [← eS34] at h
  have hw := hw S34 eS34
  refine lv_aload_n hx hb dX7_init_92 rfl (lv_at hl 0 rfl) ?_
  refine lv_bipush (v := (nI 100)) hx hb dX7_init_93 (by decide) ?_
  refine r_newI X h 100 q85 (by decide) ⟨Nat.le_of_ble_eq_true rfl, Nat.le_of_ble_eq_true rfl⟩ dX7_init_95 (fun o35 H ho35 h => ?_)
  have hw := hw o35 ho35
  obtain ⟨S36, eS36⟩ : ∃ z : Mem, z = (nA S34 o35 8 100) := ⟨_, rfl⟩
  rw [← eS36] at h
  have hw := hw S36 eS36
  refine r_putRF X h (kE eS36 (nA_keep (kR eS34 (kE eS33 (nA_keep (kR eS31 (kE eS30 (nA_keep (kR eS28 (kE eS27 (nA_keep (kR eS25 (kE eS24 (nA_keep (kR eS22 (kE eS21 (nA_keep (kR eS19 (kE eS18 (nA_keep (kR eS16 (kE eS15 (nA_keep (kR eS13 (kE eS12 (nA_keep (kR eS10 (kE eS9 (nA_keep (kR eS7 (kE eS6 (nA_keep (kR eS4 k3) ho5))) ho8))) ho11))) ho14))) ho17))) ho20))) ho23))) ho26))) ho29))) ho32))) ho35)) 23 (by decide) rfl inX7 tyX7 tyX7_ok nmX7 (by decide) rfl (Nat.le_of_ble_eq_true rfl) q871 rfl rfl hin rfl (tyX7_ok 23 (by decide)) rfl rfl dX7_init_97 (fun H locs h => ?_)
  obtain ⟨S37, eS37⟩ : ∃ z : Mem, z = (sR S36 a0 23 (some o35)) := ⟨_, rfl⟩
  rw [← eS37] at h
  have hw := hw S37 eS37
  refine lv_aload_n hx hb dX7_init_100 rfl (lv_at hl 0 rfl) ?_
  refine lv_bipush (v := (nI 100)) hx hb dX7_init_101 (by decide) ?_
  refine r_newI X h 100 q85 (by decide) ⟨Nat.le_of_ble_eq_true rfl, Nat.le_of_ble_eq_true rfl⟩ dX7_init_103 (fun o38 H ho38 h => ?_)
  have hw := hw o38 ho38
  obtain ⟨S39, eS39⟩ : ∃ z : Mem, z = (nA S37 o38 8 100) := ⟨_, rfl⟩
  rw [← eS39] at h
  have hw := hw S39 eS39
  refine r_putRF X h (kE eS39 (nA_keep (kR eS37 (kE eS36 (nA_keep (kR eS34 (kE eS33 (nA_keep (kR eS31 (kE eS30 (nA_keep (kR eS28 (kE eS27 (nA_keep (kR eS25 (kE eS24 (nA_keep (kR eS22 (kE eS21 (nA_keep (kR eS19 (kE eS18 (nA_keep (kR eS16 (kE eS15 (nA_keep (kR eS13 (kE eS12 (nA_keep (kR eS10 (kE eS9 (nA_keep (kR eS7 (kE eS6 (nA_keep (kR eS4 k3) ho5))) ho8))) ho11))) ho14))) ho17))) ho20))) ho23))) ho26))) ho29))) ho32))) ho35))) ho38)) 24 (by decide) rfl inX7 tyX7 tyX7_ok nmX7 (by decide) rfl (Nat.le_of_ble_eq_true rfl) q872 rfl rfl hin rfl (tyX7_ok 24 (by decide)) rfl rfl dX7_init_105 (fun H locs h => ?_)
  obtain ⟨S40, eS40⟩ : ∃ z : Mem, z = (sR S39 a0 24 (some o38)) := ⟨_, rfl⟩
  rw [← eS40] at h
  have hw := hw S40 eS40
  refine lv_aload_n hx hb dX7_init_108 rfl (lv_at hl 0 rfl) ?_
  refine lv_sipush (v := (nI 1600)) hx hb dX7_init_109 (by decide) ?_
  refine r_newI X h 1600 q85 (by decide) ⟨Nat.le_of_ble_eq_true rfl, Nat.le_of_ble_eq_true rfl⟩ dX7_init_112 (fun o41 H ho41 h => ?_)
  have hw := hw o41 ho41
  obtain ⟨S42, eS42⟩ : ∃ z : Mem, z = (nA S40 o41 8 1600) := ⟨_, rfl⟩
  rw [← eS42] at h
  have hw := hw S42 eS42
  refine r_putRF X h (kE eS42 (nA_keep (kR eS40 (kE eS39 (nA_keep (kR eS37 (kE eS36 (nA_keep (kR eS34 (kE eS33 (nA_keep (kR eS31 (kE eS30 (nA_keep (kR eS28 (kE eS27 (nA_keep (kR eS25 (kE eS24 (nA_keep (kR eS22 (kE eS21 (nA_keep (kR eS19 (kE eS18 (nA_keep (kR eS16 (kE eS15 (nA_keep (kR eS13 (kE eS12 (nA_keep (kR eS10 (kE eS9 (nA_keep (kR eS7 (kE eS6 (nA_keep (kR eS4 k3) ho5))) ho8))) ho11))) ho14))) ho17))) ho20))) ho23))) ho26))) ho29))) ho32))) ho35))) ho38))) ho41)) 25 (by decide) rfl inX7 tyX7 tyX7_ok nmX7 (by decide) rfl (Nat.le_of_ble_eq_true rfl) q873 rfl rfl hin rfl (tyX7_ok 25 (by decide)) rfl rfl dX7_init_114 (fun H locs h => ?_)
  obtain ⟨S43, eS43⟩ : ∃ z : Mem, z = (sR S42 a0 25 (some o41)) := ⟨_, rfl⟩
  rw [← eS43] at h
  have hw := hw S43 eS43
  exact (en_v X h hr hw (Nat.le_of_ble_eq_true rfl) (Nat.le_of_ble_eq_true rfl) dX7_init_117)
abbrev rmX7_fails : Room := { frames := 0, cells := 0, slots := 0, locals := 0 }
def wpX7_fails (S : Mem) (a0 : Nat) (p1 : Int32) (post : Int32 → Mem → Prop) : Prop := isK S a0 7 ∧ (∀ S2 : Mem, S2 = (sI S a0 0 p1) → (post (nI 0) S2))
set_option maxHeartbeats 4000000 in
set_option maxRecDepth 100000 in
theorem meX7_fails (l : Launch) (G : GT) (S : Mem) (a0 : Nat) (p1 : Int32) (post : Int32 → Mem → Prop) (hw : wpX7_fails S a0 p1 post) : CN emI l yX7_fails (wsU yX7_fails cX7_fails 2 (some .int)) rmX7_fails 0 0 G [.ref a0, .int p1] S post := by
  refine cn_open RX7 rfl (by decide +kernel) (Nat.le_of_ble_eq_true rfl) ?_
  intro p e s m args below meth c A X h hr hin ls hl
  have hl : lv_has ls 2 [(0, .ref a0), (1, .int p1)] := hl
  have hx := X.1
  have hb := X.2.1
  have hown := X.2.2.2.1
  unfold wpX7_fails at hw
  refine lv_aload_n hx hb dX7_fails_0 rfl (lv_at hl 0 rfl) ?_
  refine lv_iload_n hx hb dX7_fails_1 rfl (lv_at hl 1 rfl) ?_
  obtain ⟨k1, hw⟩ := hw
  refine r_putI X h k1 0 (by decide) rfl inX7 tyX7 tyX7_ok nmX7 (by decide) rfl (Nat.le_of_ble_eq_true rfl) q848 rfl rfl (tyX7_ok 0 (by decide)) rfl rfl dX7_fails_2 (fun H locs h => ?_)
  obtain ⟨S2, eS2⟩ : ∃ z : Mem, z = (sI S a0 0 p1) := ⟨_, rfl⟩
  rw [← eS2] at h
  have hw := hw S2 eS2
  refine lv_iconst (v := (nI 0)) hx hb dX7_fails_5 (by decide) ?_
  exact (en_i X h hr hw (Nat.le_of_ble_eq_true rfl) (Nat.le_of_ble_eq_true rfl) dX7_fails_6)
abbrev rmX7_addContent : Room := { frames := 1, cells := 0, slots := 0, locals := 21 }
def wpX7_addContent (S : Mem) (a0 : Nat) (post : Int32 → Mem → Prop) : Prop := isK S a0 7 ∧ ((¬ (mI S a0 1) = (nI 12) → (∀ S3 : Mem, S3 = (sI S a0 0 (nI 0)) → (∀ x4 : Int32, x4 = ((mI S3 a0 1) + (nI 1)) → (∀ S5 : Mem, S5 = (sI S3 a0 1 x4) → (post ((mI S5 a0 1) - (nI 1)) S5))))) ∧ ((mI S a0 1) = (nI 12) → (wpX7_fails S a0 (nI 1) (fun x7 S6 => post x7 S6))))
set_option maxHeartbeats 4000000 in
set_option maxRecDepth 100000 in
theorem meX7_addContent (l : Launch) (G : GT) (S : Mem) (a0 : Nat) (post : Int32 → Mem → Prop) (hw : wpX7_addContent S a0 post) : CN emI l yX7_addContent (wsU yX7_addContent cX7_addContent 1 (some .int)) rmX7_addContent 0 0 G [.ref a0] S post := by
  refine cn_open RX7 rfl (by decide +kernel) (Nat.le_of_ble_eq_true rfl) ?_
  intro p e s m args below meth c A X h hr hin ls hl
  have hl : lv_has ls 1 [(0, .ref a0)] := hl
  have hx := X.1
  have hb := X.2.1
  have hown := X.2.2.2.1
  unfold wpX7_addContent at hw
  refine lv_aload_n hx hb dX7_addContent_0 rfl (lv_at hl 0 rfl) ?_
  obtain ⟨k1, hw⟩ := hw
  refine r_getI X h k1 1  (by decide) rfl inX7 (by decide) rfl q849 rfl dX7_addContent_1 ?_
  refine lv_bipush (v := (nI 12)) hx hb dX7_addContent_4 (by decide) ?_
  refine lv_icmp_ne (tgt := 15) hx hb dX7_addContent_6 (by decide) (fun c2 => ?_) (fun c2 => ?_)
  · have hw := hw.1 c2
    refine lv_aload_n hx hb dX7_addContent_15 rfl (lv_at hl 0 rfl) ?_
    refine lv_iconst (v := (nI 0)) hx hb dX7_addContent_16 (by decide) ?_
    refine r_putI X h k1 0 (by decide) rfl inX7 tyX7 tyX7_ok nmX7 (by decide) rfl (Nat.le_of_ble_eq_true rfl) q848 rfl rfl (tyX7_ok 0 (by decide)) rfl rfl dX7_addContent_17 (fun H locs h => ?_)
    obtain ⟨S3, eS3⟩ : ∃ z : Mem, z = (sI S a0 0 (nI 0)) := ⟨_, rfl⟩
    rw [← eS3] at h
    have hw := hw S3 eS3
    refine lv_aload_n hx hb dX7_addContent_20 rfl (lv_at hl 0 rfl) ?_
    refine lv_dup hx hb dX7_addContent_21 rfl ?_
    refine r_getI X h (kI eS3 k1) 1  (by decide) rfl inX7 (by decide) rfl q849 rfl dX7_addContent_22 ?_
    refine lv_iconst (v := (nI 1)) hx hb dX7_addContent_25 (by decide) ?_
    refine lv_iadd hx hb dX7_addContent_26 ?_
    refine lv_topi (fun x4 ex4 => ?_)
    have hw := hw x4 ex4
    refine r_putI X h (kI eS3 k1) 1 (by decide) rfl inX7 tyX7 tyX7_ok nmX7 (by decide) rfl (Nat.le_of_ble_eq_true rfl) q849 rfl rfl (tyX7_ok 1 (by decide)) rfl rfl dX7_addContent_27 (fun H locs h => ?_)
    obtain ⟨S5, eS5⟩ : ∃ z : Mem, z = (sI S3 a0 1 x4) := ⟨_, rfl⟩
    rw [← eS5] at h
    have hw := hw S5 eS5
    refine lv_aload_n hx hb dX7_addContent_30 rfl (lv_at hl 0 rfl) ?_
    refine r_getI X h (kI eS5 (kI eS3 k1)) 1  (by decide) rfl inX7 (by decide) rfl q849 rfl dX7_addContent_31 ?_
    refine lv_iconst (v := (nI 1)) hx hb dX7_addContent_34 (by decide) ?_
    refine lv_isub hx hb dX7_addContent_35 ?_
    exact (en_i X h hr hw (Nat.le_of_ble_eq_true rfl) (Nat.le_of_ble_eq_true rfl) dX7_addContent_36)
  · have hw := hw.2 c2
    refine lv_aload_n hx hb dX7_addContent_9 rfl (lv_at hl 0 rfl) ?_
    refine lv_iconst (v := (nI 1)) hx hb dX7_addContent_10 (by decide) ?_
    refine rc_V (As := [.int (nI 1)]) (rest := []) X h k1 (by decide) rfl (meX7_fails l G _ _ _ _ hw) gV_X7_101 rfl rfl hdV_X7_fails rfl ⟨Nat.le_of_ble_eq_true rfl, Nat.le_of_ble_eq_true rfl⟩ hl.1 rfl (Nat.le_of_ble_eq_true rfl) ⟨Nat.le_of_ble_eq_true rfl, Nat.le_of_ble_eq_true rfl⟩ dX7_addContent_11 (fun x7 S6 H locs hw h => ?_)
    exact (en_i X h hr hw (Nat.le_of_ble_eq_true rfl) (Nat.le_of_ble_eq_true rfl) dX7_addContent_14)
abbrev rmX7_thrown : Room := { frames := 0, cells := 0, slots := 0, locals := 0 }
def wpX7_thrown (S : Mem) (a0 : Nat) (post : Int32 → Mem → Prop) : Prop := isK S a0 7 ∧ (post (mI S a0 0) S)
set_option maxHeartbeats 4000000 in
set_option maxRecDepth 100000 in
theorem meX7_thrown (l : Launch) (G : GT) (S : Mem) (a0 : Nat) (post : Int32 → Mem → Prop) (hw : wpX7_thrown S a0 post) : CN emI l yX7_thrown (wsU yX7_thrown cX7_thrown 1 (some .int)) rmX7_thrown 0 0 G [.ref a0] S post := by
  refine cn_open RX7 rfl (by decide +kernel) (Nat.le_of_ble_eq_true rfl) ?_
  intro p e s m args below meth c A X h hr hin ls hl
  have hl : lv_has ls 1 [(0, .ref a0)] := hl
  have hx := X.1
  have hb := X.2.1
  have hown := X.2.2.2.1
  unfold wpX7_thrown at hw
  refine lv_aload_n hx hb dX7_thrown_0 rfl (lv_at hl 0 rfl) ?_
  obtain ⟨k1, hw⟩ := hw
  refine r_getI X h k1 0  (by decide) rfl inX7 (by decide) rfl q848 rfl dX7_thrown_1 ?_
  exact (en_i X h hr hw (Nat.le_of_ble_eq_true rfl) (Nat.le_of_ble_eq_true rfl) dX7_thrown_4)
abbrev rmX7_in : Room := { frames := 0, cells := 0, slots := 0, locals := 0 }
def wpX7_in (S : Mem) (p0 : Int32) (p1 : Int32) (p2 : Int32) (post : Int32 → Mem → Prop) : Prop := (p0 < p1 → (vz_nar (nI 0) ∧ (post (nI 0) S))) ∧ (¬ p0 < p1 → ((p2 < p0 → (vz_nar (nI 0) ∧ (post (nI 0) S))) ∧ (¬ p2 < p0 → (vz_nar (nI 1) ∧ (post (nI 1) S)))))
set_option maxHeartbeats 4000000 in
set_option maxRecDepth 100000 in
theorem meX7_in (l : Launch) (G : GT) (S : Mem) (p0 : Int32) (p1 : Int32) (p2 : Int32) (post : Int32 → Mem → Prop) (hw : wpX7_in S p0 p1 p2 post) : CN emI l yX7_in (wsU yX7_in cX7_in 3 (some .boolean)) rmX7_in 0 0 G [.int p0, .int p1, .int p2] S post := by
  refine cn_open RX7 rfl (by decide +kernel) (Nat.le_of_ble_eq_true rfl) ?_
  intro p e s m args below meth c A X h hr hin ls hl
  have hl : lv_has ls 3 [(0, .int p0), (1, .int p1), (2, .int p2)] := hl
  have hx := X.1
  have hb := X.2.1
  have hown := X.2.2.2.1
  unfold wpX7_in at hw
  refine lv_iload_n hx hb dX7_in_0 rfl (lv_at hl 0 rfl) ?_
  refine lv_iload_n hx hb dX7_in_1 rfl (lv_at hl 1 rfl) ?_
  refine lv_icmp_lt (tgt := 14) hx hb dX7_in_2 (by decide) (fun c1 => ?_) (fun c1 => ?_)
  · have hw := hw.1 c1
    refine lv_iconst (v := (nI 0)) hx hb dX7_in_14 (by decide) ?_
    obtain ⟨b2, hw⟩ := hw
    exact (en_z X h hr b2 hw (Nat.le_of_ble_eq_true rfl) (Nat.le_of_ble_eq_true rfl) dX7_in_15)
  · have hw := hw.2 c1
    refine lv_iload_n hx hb dX7_in_5 rfl (lv_at hl 0 rfl) ?_
    refine lv_iload_n hx hb dX7_in_6 rfl (lv_at hl 2 rfl) ?_
    refine lv_icmp_gt (tgt := 14) hx hb dX7_in_7 (by decide) (fun c3 => ?_) (fun c3 => ?_)
    · have hw := hw.1 c3
      refine lv_iconst (v := (nI 0)) hx hb dX7_in_14 (by decide) ?_
      obtain ⟨b4, hw⟩ := hw
      exact (en_z X h hr b4 hw (Nat.le_of_ble_eq_true rfl) (Nat.le_of_ble_eq_true rfl) dX7_in_15)
    · have hw := hw.2 c3
      refine lv_iconst (v := (nI 1)) hx hb dX7_in_10 (by decide) ?_
      refine lv_goto (tgt := 15) hx hb dX7_in_11 (by decide) ?_
      obtain ⟨b5, hw⟩ := hw
      exact (en_z X h hr b5 hw (Nat.le_of_ble_eq_true rfl) (Nat.le_of_ble_eq_true rfl) dX7_in_15)
abbrev rmX7_isContent : Room := { frames := 1, cells := 0, slots := 0, locals := 22 }
def wpX7_isContent (S : Mem) (a0 : Nat) (p1 : Int32) (post : Int32 → Mem → Prop) : Prop := isK S a0 7 ∧ (wpX7_in S p1 (nI 0) ((mI S a0 1) - (nI 1)) (fun x3 S2 => (x3 = 0 → (isK S2 a0 7 ∧ (∀ S6 : Mem, S6 = (sI S2 a0 0 (nI 1)) → ((¬ (mI S6 a0 0) = 0 → (vz_nar (nI 0) ∧ (post (nI 0) S6))) ∧ ((mI S6 a0 0) = 0 → (vz_nar (nI 1) ∧ (post (nI 1) S6))))))) ∧ (¬ x3 = 0 → (isK S2 a0 7 ∧ (∀ S11 : Mem, S11 = (sI S2 a0 0 (nI 0)) → ((¬ (mI S11 a0 0) = 0 → (vz_nar (nI 0) ∧ (post (nI 0) S11))) ∧ ((mI S11 a0 0) = 0 → (vz_nar (nI 1) ∧ (post (nI 1) S11)))))))))
set_option maxHeartbeats 4000000 in
set_option maxRecDepth 100000 in
theorem meX7_isContent (l : Launch) (G : GT) (S : Mem) (a0 : Nat) (p1 : Int32) (post : Int32 → Mem → Prop) (hw : wpX7_isContent S a0 p1 post) : CN emI l yX7_isContent (wsU yX7_isContent cX7_isContent 2 (some .boolean)) rmX7_isContent 0 0 G [.ref a0, .int p1] S post := by
  refine cn_open RX7 rfl (by decide +kernel) (Nat.le_of_ble_eq_true rfl) ?_
  intro p e s m args below meth c A X h hr hin ls hl
  have hl : lv_has ls 2 [(0, .ref a0), (1, .int p1)] := hl
  have hx := X.1
  have hb := X.2.1
  have hown := X.2.2.2.1
  unfold wpX7_isContent at hw
  refine lv_aload_n hx hb dX7_isContent_0 rfl (lv_at hl 0 rfl) ?_
  refine lv_iload_n hx hb dX7_isContent_1 rfl (lv_at hl 1 rfl) ?_
  refine lv_iconst (v := (nI 0)) hx hb dX7_isContent_2 (by decide) ?_
  refine lv_aload_n hx hb dX7_isContent_3 rfl (lv_at hl 0 rfl) ?_
  obtain ⟨k1, hw⟩ := hw
  refine r_getI X h k1 1  (by decide) rfl inX7 (by decide) rfl q849 rfl dX7_isContent_4 ?_
  refine lv_iconst (v := (nI 1)) hx hb dX7_isContent_7 (by decide) ?_
  refine lv_isub hx hb dX7_isContent_8 ?_
  refine rc_S (As := [.int p1, .int (nI 0), .int ((mI S a0 1) - (nI 1))]) (rest := [.ref a0]) X h (meX7_in l G _ _ _ _ _ hw) gS_X7_60 rfl rfl hdS_X7_in rfl ⟨Nat.le_of_ble_eq_true rfl, Nat.le_of_ble_eq_true rfl⟩ hl.1 rfl (Nat.le_of_ble_eq_true rfl) ⟨Nat.le_of_ble_eq_true rfl, Nat.le_of_ble_eq_true rfl⟩ dX7_isContent_9 (fun x3 S2 H locs hw h => ?_)
  refine lv_if_eq (tgt := 19) hx hb dX7_isContent_12 (by decide) (fun c4 => ?_) (fun c4 => ?_)
  · have hw := hw.1 c4
    refine lv_iconst (v := (nI 1)) hx hb dX7_isContent_19 (by decide) ?_
    obtain ⟨k5, hw⟩ := hw
    refine r_putI X h k5 0 (by decide) rfl inX7 tyX7 tyX7_ok nmX7 (by decide) rfl (Nat.le_of_ble_eq_true rfl) q848 rfl rfl (tyX7_ok 0 (by decide)) rfl rfl dX7_isContent_20 (fun H locs h => ?_)
    obtain ⟨S6, eS6⟩ : ∃ z : Mem, z = (sI S2 a0 0 (nI 1)) := ⟨_, rfl⟩
    rw [← eS6] at h
    have hw := hw S6 eS6
    refine lv_aload_n hx hb dX7_isContent_23 rfl (lv_at hl 0 rfl) ?_
    refine r_getI X h (kI eS6 k5) 0  (by decide) rfl inX7 (by decide) rfl q848 rfl dX7_isContent_24 ?_
    refine lv_if_ne (tgt := 34) hx hb dX7_isContent_27 (by decide) (fun c7 => ?_) (fun c7 => ?_)
    · have hw := hw.1 c7
      refine lv_iconst (v := (nI 0)) hx hb dX7_isContent_34 (by decide) ?_
      obtain ⟨b8, hw⟩ := hw
      exact (en_z X h hr b8 hw (Nat.le_of_ble_eq_true rfl) (Nat.le_of_ble_eq_true rfl) dX7_isContent_35)
    · have hw := hw.2 c7
      refine lv_iconst (v := (nI 1)) hx hb dX7_isContent_30 (by decide) ?_
      refine lv_goto (tgt := 35) hx hb dX7_isContent_31 (by decide) ?_
      obtain ⟨b9, hw⟩ := hw
      exact (en_z X h hr b9 hw (Nat.le_of_ble_eq_true rfl) (Nat.le_of_ble_eq_true rfl) dX7_isContent_35)
  · have hw := hw.2 c4
    refine lv_iconst (v := (nI 0)) hx hb dX7_isContent_15 (by decide) ?_
    refine lv_goto (tgt := 20) hx hb dX7_isContent_16 (by decide) ?_
    obtain ⟨k10, hw⟩ := hw
    refine r_putI X h k10 0 (by decide) rfl inX7 tyX7 tyX7_ok nmX7 (by decide) rfl (Nat.le_of_ble_eq_true rfl) q848 rfl rfl (tyX7_ok 0 (by decide)) rfl rfl dX7_isContent_20 (fun H locs h => ?_)
    obtain ⟨S11, eS11⟩ : ∃ z : Mem, z = (sI S2 a0 0 (nI 0)) := ⟨_, rfl⟩
    rw [← eS11] at h
    have hw := hw S11 eS11
    refine lv_aload_n hx hb dX7_isContent_23 rfl (lv_at hl 0 rfl) ?_
    refine r_getI X h (kI eS11 k10) 0  (by decide) rfl inX7 (by decide) rfl q848 rfl dX7_isContent_24 ?_
    refine lv_if_ne (tgt := 34) hx hb dX7_isContent_27 (by decide) (fun c12 => ?_) (fun c12 => ?_)
    · have hw := hw.1 c12
      refine lv_iconst (v := (nI 0)) hx hb dX7_isContent_34 (by decide) ?_
      obtain ⟨b13, hw⟩ := hw
      exact (en_z X h hr b13 hw (Nat.le_of_ble_eq_true rfl) (Nat.le_of_ble_eq_true rfl) dX7_isContent_35)
    · have hw := hw.2 c12
      refine lv_iconst (v := (nI 1)) hx hb dX7_isContent_30 (by decide) ?_
      refine lv_goto (tgt := 35) hx hb dX7_isContent_31 (by decide) ?_
      obtain ⟨b14, hw⟩ := hw
      exact (en_z X h hr b14 hw (Nat.le_of_ble_eq_true rfl) (Nat.le_of_ble_eq_true rfl) dX7_isContent_35)
abbrev rmX7_approve : Room := { frames := 2, cells := 0, slots := 0, locals := 43 }
def wpX7_approve (S : Mem) (a0 : Nat) (p1 : Int32) (post : Int32 → Mem → Prop) : Prop := isK S a0 7 ∧ (wpX7_isContent S a0 p1 (fun x3 S1 => (¬ x3 = 0 → (isK S1 a0 7 ∧ (∃ o6, mR S1 a0 17 = some o6 ∧ (isK S1 o6 9 ∧ (vp_in p1 (mN S1 o6) ∧ (∀ x9 : Int32, x9 = (mI S1 o6 p1.toNatClampNeg) → (vp_in p1 (mN S1 o6) ∧ (∀ S11 : Mem, S11 = (sI S1 o6 p1.toNatClampNeg (vp_nar .boolean (nI 1))) → (vz_nar x9 ∧ (post x9 S11)))))))))) ∧ (x3 = 0 → (vz_nar (nI 0) ∧ (post (nI 0) S1)))))
set_option maxHeartbeats 4000000 in
set_option maxRecDepth 100000 in
theorem meX7_approve (l : Launch) (G : GT) (S : Mem) (a0 : Nat) (p1 : Int32) (post : Int32 → Mem → Prop) (hw : wpX7_approve S a0 p1 post) : CN emI l yX7_approve (wsU yX7_approve cX7_approve 3 (some .boolean)) rmX7_approve 0 0 G [.ref a0, .int p1] S post := by
  refine cn_open RX7 rfl (by decide +kernel) (Nat.le_of_ble_eq_true rfl) ?_
  intro p e s m args below meth c A X h hr hin ls hl
  have hl : lv_has ls 3 [(0, .ref a0), (1, .int p1)] := hl
  have hx := X.1
  have hb := X.2.1
  have hown := X.2.2.2.1
  unfold wpX7_approve at hw
  refine lv_aload_n hx hb dX7_approve_0 rfl (lv_at hl 0 rfl) ?_
  refine lv_iload_n hx hb dX7_approve_1 rfl (lv_at hl 1 rfl) ?_
  obtain ⟨k2, hw⟩ := hw
  refine rc_V (As := [.int p1]) (rest := []) X h k2 (by decide) rfl (meX7_isContent l G _ _ _ _ hw) gV_X7_104 rfl rfl hdV_X7_isContent rfl ⟨Nat.le_of_ble_eq_true rfl, Nat.le_of_ble_eq_true rfl⟩ hl.1 rfl (Nat.le_of_ble_eq_true rfl) ⟨Nat.le_of_ble_eq_true rfl, Nat.le_of_ble_eq_true rfl⟩ dX7_approve_2 (fun x3 S1 H locs hw h => ?_)
  refine lv_if_ne (tgt := 10) hx hb dX7_approve_5 (by decide) (fun c4 => ?_) (fun c4 => ?_)
  · have hw := hw.1 c4
    refine lv_aload_n hx hb dX7_approve_10 rfl (lv_at hl 0 rfl) ?_
    obtain ⟨k5, hw⟩ := hw
    obtain ⟨o6, eo6, hw⟩ := hw
    refine r_getR X h k5 17 eo6  (by decide) rfl inX7 (by decide) rfl q865 rfl dX7_approve_11 ?_
    refine lv_iload_n hx hb dX7_approve_14 rfl (lv_at hl 1 rfl) ?_
    obtain ⟨k7, hw⟩ := hw
    obtain ⟨v8, hw⟩ := hw
    refine r_zald X h k7 v8 dX7_approve_15 ?_
    refine lv_topi (fun x9 ex9 => ?_)
    have hw := hw x9 ex9
    refine lv_istore_n (lv' := [(2, .int x9), (0, .ref a0), (1, .int p1)]) hx hb dX7_approve_16 rfl hl (by decide) rfl (fun ls hl => ?_)
    refine lv_aload_n hx hb dX7_approve_17 rfl (lv_at hl 1 rfl) ?_
    refine r_getR X h k5 17 eo6  (by decide) rfl inX7 (by decide) rfl q865 rfl dX7_approve_18 ?_
    refine lv_iload_n hx hb dX7_approve_21 rfl (lv_at hl 2 rfl) ?_
    refine lv_iconst (v := (nI 1)) hx hb dX7_approve_22 (by decide) ?_
    obtain ⟨v10, hw⟩ := hw
    refine r_zast X h k7 v10 dX7_approve_23 (fun H locs h => ?_)
    obtain ⟨S11, eS11⟩ : ∃ z : Mem, z = (sI S1 o6 p1.toNatClampNeg (vp_nar .boolean (nI 1))) := ⟨_, rfl⟩
    rw [← eS11] at h
    have hw := hw S11 eS11
    refine lv_iload_n hx hb dX7_approve_24 rfl (lv_at hl 0 rfl) ?_
    obtain ⟨b12, hw⟩ := hw
    exact (en_z X h hr b12 hw (Nat.le_of_ble_eq_true rfl) (Nat.le_of_ble_eq_true rfl) dX7_approve_25)
  · have hw := hw.2 c4
    refine lv_iconst (v := (nI 0)) hx hb dX7_approve_8 (by decide) ?_
    obtain ⟨b13, hw⟩ := hw
    exact (en_z X h hr b13 hw (Nat.le_of_ble_eq_true rfl) (Nat.le_of_ble_eq_true rfl) dX7_approve_9)
abbrev rmX7_places : Room := { frames := 0, cells := 0, slots := 0, locals := 0 }
def wpX7_places (S : Mem) (a0 : Nat) (p1 : Int32) (post : Int32 → Mem → Prop) : Prop := isK S a0 7 ∧ (∃ o2, mR S a0 13 = some o2 ∧ (isK S o2 8 ∧ (vp_in p1 (mN S o2) ∧ ((¬ (mI S o2 p1.toNatClampNeg) = (nI 119) → (post (nI 4) S)) ∧ ((mI S o2 p1.toNatClampNeg) = (nI 119) → (post (nI 2) S))))))
set_option maxHeartbeats 4000000 in
set_option maxRecDepth 100000 in
theorem meX7_places (l : Launch) (G : GT) (S : Mem) (a0 : Nat) (p1 : Int32) (post : Int32 → Mem → Prop) (hw : wpX7_places S a0 p1 post) : CN emI l yX7_places (wsU yX7_places cX7_places 2 (some .int)) rmX7_places 0 0 G [.ref a0, .int p1] S post := by
  refine cn_open RX7 rfl (by decide +kernel) (Nat.le_of_ble_eq_true rfl) ?_
  intro p e s m args below meth c A X h hr hin ls hl
  have hl : lv_has ls 2 [(0, .ref a0), (1, .int p1)] := hl
  have hx := X.1
  have hb := X.2.1
  have hown := X.2.2.2.1
  unfold wpX7_places at hw
  refine lv_aload_n hx hb dX7_places_0 rfl (lv_at hl 0 rfl) ?_
  obtain ⟨k1, hw⟩ := hw
  obtain ⟨o2, eo2, hw⟩ := hw
  refine r_getR X h k1 13 eo2  (by decide) rfl inX7 (by decide) rfl q861 rfl dX7_places_1 ?_
  refine lv_iload_n hx hb dX7_places_4 rfl (lv_at hl 1 rfl) ?_
  obtain ⟨k3, hw⟩ := hw
  obtain ⟨v4, hw⟩ := hw
  refine r_iald X h k3 v4 dX7_places_5 ?_
  refine lv_bipush (v := (nI 119)) hx hb dX7_places_6 (by decide) ?_
  refine lv_icmp_ne (tgt := 15) hx hb dX7_places_8 (by decide) (fun c5 => ?_) (fun c5 => ?_)
  · have hw := hw.1 c5
    refine lv_iconst (v := (nI 4)) hx hb dX7_places_15 (by decide) ?_
    exact (en_i X h hr hw (Nat.le_of_ble_eq_true rfl) (Nat.le_of_ble_eq_true rfl) dX7_places_16)
  · have hw := hw.2 c5
    refine lv_iconst (v := (nI 2)) hx hb dX7_places_11 (by decide) ?_
    refine lv_goto (tgt := 16) hx hb dX7_places_12 (by decide) ?_
    exact (en_i X h hr hw (Nat.le_of_ble_eq_true rfl) (Nat.le_of_ble_eq_true rfl) dX7_places_16)
abbrev rmX7_isWhole : Room := { frames := 1, cells := 0, slots := 0, locals := 21 }
def wpX7_isWhole (S : Mem) (a0 : Nat) (p1 : Int32) (post : Int32 → Mem → Prop) : Prop := isK S a0 7 ∧ (∃ o2, mR S a0 14 = some o2 ∧ (isK S o2 8 ∧ (vp_in p1 (mN S o2) ∧ (((mI S o2 p1.toNatClampNeg) ≤ 0 → (vz_nar (nI 0) ∧ (post (nI 0) S))) ∧ (¬ (mI S o2 p1.toNatClampNeg) ≤ 0 → (vp_in p1 (mN S o2) ∧ (wpX7_places S a0 p1 (fun x9 S8 => ¬ x9 = 0 ∧ ((¬ ((mI S o2 p1.toNatClampNeg) - (mI S o2 p1.toNatClampNeg) / x9 * x9) = 0 → (vz_nar (nI 0) ∧ (post (nI 0) S8))) ∧ (((mI S o2 p1.toNatClampNeg) - (mI S o2 p1.toNatClampNeg) / x9 * x9) = 0 → (vz_nar (nI 1) ∧ (post (nI 1) S8))))))))))))
set_option maxHeartbeats 4000000 in
set_option maxRecDepth 100000 in
theorem meX7_isWhole (l : Launch) (G : GT) (S : Mem) (a0 : Nat) (p1 : Int32) (post : Int32 → Mem → Prop) (hw : wpX7_isWhole S a0 p1 post) : CN emI l yX7_isWhole (wsU yX7_isWhole cX7_isWhole 2 (some .boolean)) rmX7_isWhole 0 0 G [.ref a0, .int p1] S post := by
  refine cn_open RX7 rfl (by decide +kernel) (Nat.le_of_ble_eq_true rfl) ?_
  intro p e s m args below meth c A X h hr hin ls hl
  have hl : lv_has ls 2 [(0, .ref a0), (1, .int p1)] := hl
  have hx := X.1
  have hb := X.2.1
  have hown := X.2.2.2.1
  unfold wpX7_isWhole at hw
  refine lv_aload_n hx hb dX7_isWhole_0 rfl (lv_at hl 0 rfl) ?_
  obtain ⟨k1, hw⟩ := hw
  obtain ⟨o2, eo2, hw⟩ := hw
  refine r_getR X h k1 14 eo2  (by decide) rfl inX7 (by decide) rfl q862 rfl dX7_isWhole_1 ?_
  refine lv_iload_n hx hb dX7_isWhole_4 rfl (lv_at hl 1 rfl) ?_
  obtain ⟨k3, hw⟩ := hw
  obtain ⟨v4, hw⟩ := hw
  refine r_iald X h k3 v4 dX7_isWhole_5 ?_
  refine lv_if_le (tgt := 28) hx hb dX7_isWhole_6 (by decide) (fun c5 => ?_) (fun c5 => ?_)
  · have hw := hw.1 c5
    refine lv_iconst (v := (nI 0)) hx hb dX7_isWhole_28 (by decide) ?_
    obtain ⟨b6, hw⟩ := hw
    exact (en_z X h hr b6 hw (Nat.le_of_ble_eq_true rfl) (Nat.le_of_ble_eq_true rfl) dX7_isWhole_29)
  · have hw := hw.2 c5
    refine lv_aload_n hx hb dX7_isWhole_9 rfl (lv_at hl 0 rfl) ?_
    refine r_getR X h k1 14 eo2  (by decide) rfl inX7 (by decide) rfl q862 rfl dX7_isWhole_10 ?_
    refine lv_iload_n hx hb dX7_isWhole_13 rfl (lv_at hl 1 rfl) ?_
    obtain ⟨v7, hw⟩ := hw
    refine r_iald X h k3 v7 dX7_isWhole_14 ?_
    refine lv_aload_n hx hb dX7_isWhole_15 rfl (lv_at hl 0 rfl) ?_
    refine lv_iload_n hx hb dX7_isWhole_16 rfl (lv_at hl 1 rfl) ?_
    refine rc_V (As := [.int p1]) (rest := [.int (mI S o2 p1.toNatClampNeg)]) X h k1 (by decide) rfl (meX7_places l G _ _ _ _ hw) gV_X7_64 rfl rfl hdV_X7_places rfl ⟨Nat.le_of_ble_eq_true rfl, Nat.le_of_ble_eq_true rfl⟩ hl.1 rfl (Nat.le_of_ble_eq_true rfl) ⟨Nat.le_of_ble_eq_true rfl, Nat.le_of_ble_eq_true rfl⟩ dX7_isWhole_17 (fun x9 S8 H locs hw h => ?_)
    obtain ⟨z10, hw⟩ := hw
    refine lv_irem hx hb dX7_isWhole_20 z10 ?_
    refine lv_if_ne (tgt := 28) hx hb dX7_isWhole_21 (by decide) (fun c11 => ?_) (fun c11 => ?_)
    · have hw := hw.1 c11
      refine lv_iconst (v := (nI 0)) hx hb dX7_isWhole_28 (by decide) ?_
      obtain ⟨b12, hw⟩ := hw
      exact (en_z X h hr b12 hw (Nat.le_of_ble_eq_true rfl) (Nat.le_of_ble_eq_true rfl) dX7_isWhole_29)
    · have hw := hw.2 c11
      refine lv_iconst (v := (nI 1)) hx hb dX7_isWhole_24 (by decide) ?_
      refine lv_goto (tgt := 29) hx hb dX7_isWhole_25 (by decide) ?_
      obtain ⟨b13, hw⟩ := hw
      exact (en_z X h hr b13 hw (Nat.le_of_ble_eq_true rfl) (Nat.le_of_ble_eq_true rfl) dX7_isWhole_29)
abbrev rmX7_count : Room := { frames := 1, cells := 0, slots := 0, locals := 21 }
def wpX7_count (S : Mem) (a0 : Nat) (p1 : Int32) (post : Int32 → Mem → Prop) : Prop := isK S a0 7 ∧ (∃ o2, mR S a0 14 = some o2 ∧ (isK S o2 8 ∧ (vp_in p1 (mN S o2) ∧ (wpX7_places S a0 p1 (fun x6 S5 => ¬ x6 = 0 ∧ (post ((mI S o2 p1.toNatClampNeg) / x6) S5))))))
set_option maxHeartbeats 4000000 in
set_option maxRecDepth 100000 in
theorem meX7_count (l : Launch) (G : GT) (S : Mem) (a0 : Nat) (p1 : Int32) (post : Int32 → Mem → Prop) (hw : wpX7_count S a0 p1 post) : CN emI l yX7_count (wsU yX7_count cX7_count 2 (some .int)) rmX7_count 0 0 G [.ref a0, .int p1] S post := by
  refine cn_open RX7 rfl (by decide +kernel) (Nat.le_of_ble_eq_true rfl) ?_
  intro p e s m args below meth c A X h hr hin ls hl
  have hl : lv_has ls 2 [(0, .ref a0), (1, .int p1)] := hl
  have hx := X.1
  have hb := X.2.1
  have hown := X.2.2.2.1
  unfold wpX7_count at hw
  refine lv_aload_n hx hb dX7_count_0 rfl (lv_at hl 0 rfl) ?_
  obtain ⟨k1, hw⟩ := hw
  obtain ⟨o2, eo2, hw⟩ := hw
  refine r_getR X h k1 14 eo2  (by decide) rfl inX7 (by decide) rfl q862 rfl dX7_count_1 ?_
  refine lv_iload_n hx hb dX7_count_4 rfl (lv_at hl 1 rfl) ?_
  obtain ⟨k3, hw⟩ := hw
  obtain ⟨v4, hw⟩ := hw
  refine r_iald X h k3 v4 dX7_count_5 ?_
  refine lv_aload_n hx hb dX7_count_6 rfl (lv_at hl 0 rfl) ?_
  refine lv_iload_n hx hb dX7_count_7 rfl (lv_at hl 1 rfl) ?_
  refine rc_V (As := [.int p1]) (rest := [.int (mI S o2 p1.toNatClampNeg)]) X h k1 (by decide) rfl (meX7_places l G _ _ _ _ hw) gV_X7_64 rfl rfl hdV_X7_places rfl ⟨Nat.le_of_ble_eq_true rfl, Nat.le_of_ble_eq_true rfl⟩ hl.1 rfl (Nat.le_of_ble_eq_true rfl) ⟨Nat.le_of_ble_eq_true rfl, Nat.le_of_ble_eq_true rfl⟩ dX7_count_8 (fun x6 S5 H locs hw h => ?_)
  obtain ⟨z7, hw⟩ := hw
  refine lv_idiv hx hb dX7_count_11 z7 ?_
  exact (en_i X h hr hw (Nat.le_of_ble_eq_true rfl) (Nat.le_of_ble_eq_true rfl) dX7_count_12)
