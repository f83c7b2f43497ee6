abbrev rmX0_stateAfter : Room := { frames := 0, cells := 0, slots := 0, locals := 0 }
def wlX0_stateAfter_5 (a0 : Nat) (p1 : Int32) (p2 : Int32)  (post : Int32 → Mem → Prop)  : Nat → Int32 → Int32 → Mem → Prop
  | 0 => fun _ _ _ => False
  | n + 1 => fun w3 w4 S => (p1 ≤ w4 → (post w3 S)) ∧ (¬ p1 ≤ w4 → (isK S a0 0 ∧ (∃ o3, mR S a0 2 = some o3 ∧ (isK S o3 8 ∧ (((nI (mN S o3)) ≤ w4 → (post w3 S)) ∧ (¬ (nI (mN S o3)) ≤ w4 → (vp_in w4 (mN S o3) ∧ ((¬ (mI S o3 w4.toNatClampNeg) = p2 → (∀ x8 : Int32, x8 = (w4 + (nI 1)) → (wlX0_stateAfter_5 a0 p1 p2 post n w3 x8 S))) ∧ ((mI S o3 w4.toNatClampNeg) = p2 → (∀ x9 : Int32, x9 = (w3 + (nI 1)) → (∀ x10 : Int32, x10 = (w4 + (nI 1)) → (wlX0_stateAfter_5 a0 p1 p2 post n x9 x10 S))))))))))))
set_option maxHeartbeats 4000000 in
set_option maxRecDepth 100000 in
theorem llX0_stateAfter_5 {p : Program} {l : Launch} {e : Env} {s : State} {m : MethodId} {args : Array Value} {below : List Frame} {meth : Method} {c : Code} {G : GT} {A : Nat → Prop} (X : Cx p s m args meth c cX0_stateAfter 5 RX0 G A) (hr : meth.sig.returnType = (some .int)) (a0 : Nat) (p1 : Int32) (p2 : Int32)  (post : Int32 → Mem → Prop)   : ∀ (n : Nat) (w3 : Int32) (w4 : Int32) (S : Mem), wlX0_stateAfter_5 a0 p1 p2 post n w3 w4 S → ∀ (H : Heap) (locs : List Loc) (ls : Array Slot), Hx G A s.heap H locs S → lv_has ls 5 [(0, .ref a0), (1, .int p1), (2, .int p2), (3, .int w3), (4, .int w4)] → W p l e rmX0_stateAfter s m args below meth c H locs 0 0 (MQ below (QN emI post G A) args s 0 0 A) (F0 m 5 ls []) := by
  have hx := X.1
  have hb := X.2.1
  have hown := X.2.2.2.1
  intro n
  induction n with
  | zero =>
    intro _ _ _ hw
    exact hw.elim
  | succ n ih =>
    intro w3 w4 S hw H locs ls h hl
    refine lv_iload hx hb dX0_stateAfter_5 (lv_at hl 4 rfl) ?_
    refine lv_iload_n hx hb dX0_stateAfter_7 rfl (lv_at hl 1 rfl) ?_
    refine lv_icmp_ge (tgt := 41) hx hb dX0_stateAfter_8 (by decide) (fun c1 => ?_) (fun c1 => ?_)
    · have hw := hw.1 c1
      refine lv_iload_n hx hb dX0_stateAfter_41 rfl (lv_at hl 3 rfl) ?_
      exact (en_i X h hr hw (Nat.le_of_ble_eq_true rfl) (Nat.le_of_ble_eq_true rfl) dX0_stateAfter_42)
    · have hw := hw.2 c1
      refine lv_iload hx hb dX0_stateAfter_11 (lv_at hl 4 rfl) ?_
      refine lv_aload_n hx hb dX0_stateAfter_13 rfl (lv_at hl 0 rfl) ?_
      obtain ⟨k2, hw⟩ := hw
      obtain ⟨o3, eo3, hw⟩ := hw
      refine r_getR X h k2 2 eo3  (by decide) rfl inX0 (by decide) rfl q69 rfl dX0_stateAfter_14 ?_
      obtain ⟨k4, hw⟩ := hw
      refine r_alen X h k4 (by decide) dX0_stateAfter_17 ?_
      refine lv_icmp_ge (tgt := 41) hx hb dX0_stateAfter_18 (by decide) (fun c5 => ?_) (fun c5 => ?_)
      · have hw := hw.1 c5
        refine lv_iload_n hx hb dX0_stateAfter_41 rfl (lv_at hl 3 rfl) ?_
        exact (en_i X h hr hw (Nat.le_of_ble_eq_true rfl) (Nat.le_of_ble_eq_true rfl) dX0_stateAfter_42)
      · have hw := hw.2 c5
        refine lv_aload_n hx hb dX0_stateAfter_21 rfl (lv_at hl 0 rfl) ?_
        refine r_getR X h k2 2 eo3  (by decide) rfl inX0 (by decide) rfl q69 rfl dX0_stateAfter_22 ?_
        refine lv_iload hx hb dX0_stateAfter_25 (lv_at hl 4 rfl) ?_
        obtain ⟨v6, hw⟩ := hw
        refine r_iald X h k4 v6 dX0_stateAfter_27 ?_
        refine lv_iload_n hx hb dX0_stateAfter_28 rfl (lv_at hl 2 rfl) ?_
        refine lv_icmp_ne (tgt := 35) hx hb dX0_stateAfter_29 (by decide) (fun c7 => ?_) (fun c7 => ?_)
        · have hw := hw.1 c7
          obtain ⟨x8, ex8⟩ : ∃ y : Int32, y = (w4 + (nI 1)) := ⟨_, rfl⟩
          have hw := hw x8 ex8
          refine lv_iinc (v := x8) (lv' := [(4, .int x8), (0, .ref a0), (1, .int p1), (2, .int p2), (3, .int w3)]) hx hb dX0_stateAfter_35 hl (k := 4) rfl (by rw [ex8]; rfl) (by decide) rfl (fun ls hl => ?_)
          refine lv_goto (tgt := 5) hx hb dX0_stateAfter_38 (by decide) ?_
          exact ih _ _ _ hw _ _ _ h (lv_sub hl [1, 2, 3, 4, 0] rfl)
        · have hw := hw.2 c7
          obtain ⟨x9, ex9⟩ : ∃ y : Int32, y = (w3 + (nI 1)) := ⟨_, rfl⟩
          have hw := hw x9 ex9
          refine lv_iinc (v := x9) (lv' := [(3, .int x9), (0, .ref a0), (1, .int p1), (2, .int p2), (4, .int w4)]) hx hb dX0_stateAfter_32 hl (k := 3) rfl (by rw [ex9]; rfl) (by decide) rfl (fun ls hl => ?_)
          obtain ⟨x10, ex10⟩ : ∃ y : Int32, y = (w4 + (nI 1)) := ⟨_, rfl⟩
          have hw := hw x10 ex10
          refine lv_iinc (v := x10) (lv' := [(4, .int x10), (3, .int x9), (0, .ref a0), (1, .int p1), (2, .int p2)]) hx hb dX0_stateAfter_35 hl (k := 4) rfl (by rw [ex10]; rfl) (by decide) rfl (fun ls hl => ?_)
          refine lv_goto (tgt := 5) hx hb dX0_stateAfter_38 (by decide) ?_
          exact ih _ _ _ hw _ _ _ h (lv_sub hl [2, 3, 4, 1, 0] rfl)
def wpX0_stateAfter (S : Mem) (a0 : Nat) (p1 : Int32) (p2 : Int32) (post : Int32 → Mem → Prop) : Prop := ∃ m, wlX0_stateAfter_5 a0 p1 p2 post m (nI 0) (nI 0) S
set_option maxHeartbeats 4000000 in
set_option maxRecDepth 100000 in
theorem meX0_stateAfter (l : Launch) (G : GT) (S : Mem) (a0 : Nat) (p1 : Int32) (p2 : Int32) (post : Int32 → Mem → Prop) (hw : wpX0_stateAfter S a0 p1 p2 post) : CN emI l yX0_stateAfter (wsU yX0_stateAfter cX0_stateAfter 5 (some .int)) rmX0_stateAfter 0 0 G [.ref a0, .int p1, .int p2] S post := by
  refine cn_open RX0 rfl (by decide +kernel) (Nat.le_of_ble_eq_true rfl) ?_
  intro p e s m args below meth c A X h hr hin ls hl
  have hl : lv_has ls 5 [(0, .ref a0), (1, .int p1), (2, .int p2)] := hl
  have hx := X.1
  have hb := X.2.1
  have hown := X.2.2.2.1
  unfold wpX0_stateAfter at hw
  refine lv_iconst (v := (nI 0)) hx hb dX0_stateAfter_0 (by decide) ?_
  refine lv_istore_n (lv' := [(3, .int (nI 0)), (0, .ref a0), (1, .int p1), (2, .int p2)]) hx hb dX0_stateAfter_1 rfl hl (by decide) rfl (fun ls hl => ?_)
  refine lv_iconst (v := (nI 0)) hx hb dX0_stateAfter_2 (by decide) ?_
  refine lv_istore (lv' := [(4, .int (nI 0)), (3, .int (nI 0)), (0, .ref a0), (1, .int p1), (2, .int p2)]) hx hb dX0_stateAfter_3 hl (by decide) rfl (fun ls hl => ?_)
  obtain ⟨n11, hw⟩ := hw
  exact llX0_stateAfter_5  X hr _ _ _ _ n11 _ _ _ hw _ _ _ h (lv_sub hl [2, 3, 4, 1, 0] rfl)
abbrev rmX6_stateByReplay : Room := { frames := 7, cells := 2, slots := 12, locals := 112 }
def wpX6_stateByReplay (S : Mem) (a0 : Nat) (p1 : Int32) (p2 : Int32) (post : Int32 → Mem → Prop) (px : Nat → Mem → Prop) : Prop := isK S a0 6 ∧ (wpX6_existingLot S a0 p1 (fun r3 S1 => ∃ o4, r3 = some o4 ∧ (wpX6_requirePage S1 o4 p2 (fun u6 S5 => isK S5 a0 6 ∧ (∃ o8, mR S5 a0 0 = some o8 ∧ (isK S5 o4 2 ∧ (wpX2_contentOf S5 o4 p2 (fun x11 S10 => isK S10 o8 0 ∧ (wpX0_stateAfter S10 o8 (mI S5 o4 2) x11 (fun x14 S12 => post x14 S12))))))) px)) px)
set_option maxHeartbeats 4000000 in
set_option maxRecDepth 100000 in
theorem meX6_stateByReplay (l : Launch) (hl9 : l.stackTraces = false) (G : GT) (S : Mem) (a0 : Nat) (p1 : Int32) (p2 : Int32) (post : Int32 → Mem → Prop) (px : Nat → Mem → Prop) (hw : wpX6_stateByReplay S a0 p1 p2 post px) : CX emI l yX6_stateByReplay (wsU yX6_stateByReplay cX6_stateByReplay 4 (some .int)) rmX6_stateByReplay 2 12 G [.ref a0, .int p1, .int p2] S post px := by
  refine cx_open RX6 rfl (by decide +kernel) (Nat.le_of_ble_eq_true rfl) ?_
  intro p e s m args below meth c A X h hr hno ls hl
  have hl : lv_has ls 4 [(0, .ref a0), (1, .int p1), (2, .int p2)] := hl
  have hx := X.1
  have hb := X.2.1
  have hown := X.2.2.2.1
  unfold wpX6_stateByReplay at hw
  refine lv_aload_n hx hb dX6_stateByReplay_0 rfl (lv_at hl 0 rfl) ?_
  refine lv_iload_n hx hb dX6_stateByReplay_1 rfl (lv_at hl 1 rfl) ?_
  obtain ⟨k2, hw⟩ := hw
  refine rx_V (As := [.int p1]) (rest := []) X h hno k2 (by decide) rfl (meX6_existingLot l hl9 G _ _ _ _ _ hw) gV_X6_243 rfl rfl hdV_X6_existingLot rfl ⟨Nat.le_of_ble_eq_true rfl, Nat.le_of_ble_eq_true rfl⟩ hl.1 rfl (Nat.le_of_ble_eq_true rfl) ⟨Nat.le_of_ble_eq_true rfl, Nat.le_of_ble_eq_true rfl⟩ ⟨Nat.le_of_ble_eq_true rfl, Nat.le_of_ble_eq_true rfl⟩ dX6_stateByReplay_2 (fun r3 S1 H locs hw h => ?_)
  obtain ⟨o4, rfl, hw⟩ := hw
  refine lv_astore_n (lv' := [(3, .ref o4), (0, .ref a0), (1, .int p1), (2, .int p2)]) hx hb dX6_stateByReplay_5 rfl hl (by decide) rfl (fun ls hl => ?_)
  refine lv_aload_n hx hb dX6_stateByReplay_6 rfl (lv_at hl 0 rfl) ?_
  refine lv_iload_n hx hb dX6_stateByReplay_7 rfl (lv_at hl 3 rfl) ?_
  refine rx_S (As := [.ref o4, .int p2]) (rest := []) X h hno (meX6_requirePage l hl9 G _ _ _ _ _ hw) gS_X6_250 rfl rfl hdS_X6_requirePage rfl ⟨Nat.le_of_ble_eq_true rfl, Nat.le_of_ble_eq_true rfl⟩ hl.1 rfl (Nat.le_of_ble_eq_true rfl) ⟨Nat.le_of_ble_eq_true rfl, Nat.le_of_ble_eq_true rfl⟩ ⟨Nat.le_of_ble_eq_true rfl, Nat.le_of_ble_eq_true rfl⟩ dX6_stateByReplay_8 (fun u6 S5 H locs hw h => ?_)
  refine lv_aload_n hx hb dX6_stateByReplay_11 rfl (lv_at hl 1 rfl) ?_
  obtain ⟨k7, hw⟩ := hw
  obtain ⟨o8, eo8, hw⟩ := hw
  refine r_getR X h k7 0 eo8  (by decide) rfl inX6 (by decide) rfl q141 rfl dX6_stateByReplay_12 ?_
  refine lv_aload_n hx hb dX6_stateByReplay_15 rfl (lv_at hl 0 rfl) ?_
  obtain ⟨k9, hw⟩ := hw
  refine r_getIN X h k9 2  (by decide) rfl inX2 (by decide) rfl q724 rfl dX6_stateByReplay_16 ?_
  refine lv_aload_n hx hb dX6_stateByReplay_19 rfl (lv_at hl 0 rfl) ?_
  refine lv_iload_n hx hb dX6_stateByReplay_20 rfl (lv_at hl 3 rfl) ?_
  refine rc_V (As := [.int p2]) (rest := [.int (mI S5 o4 2), .ref o8]) X h k9 (by decide) rfl (meX2_contentOf l G _ _ _ _ hw) gV_X6_260 rfl rfl hdV_X2_contentOf rfl ⟨Nat.le_of_ble_eq_true rfl, Nat.le_of_ble_eq_true rfl⟩ hl.1 rfl (Nat.le_of_ble_eq_true rfl) ⟨Nat.le_of_ble_eq_true rfl, Nat.le_of_ble_eq_true rfl⟩ dX6_stateByReplay_21 (fun x11 S10 H locs hw h => ?_)
  obtain ⟨k13, hw⟩ := hw
  refine rc_V (As := [.int (mI S5 o4 2), .int x11]) (rest := []) X h k13 (by decide) rfl (meX0_stateAfter l G _ _ _ _ _ hw) gV_X6_263 rfl rfl hdV_X0_stateAfter rfl ⟨Nat.le_of_ble_eq_true rfl, Nat.le_of_ble_eq_true rfl⟩ hl.1 rfl (Nat.le_of_ble_eq_true rfl) ⟨Nat.le_of_ble_eq_true rfl, Nat.le_of_ble_eq_true rfl⟩ dX6_stateByReplay_24 (fun x14 S12 H locs hw h => ?_)
  exact vx_ret (en_i X h hr hw (Nat.le_of_ble_eq_true rfl) (Nat.le_of_ble_eq_true rfl) dX6_stateByReplay_27)
abbrev rmL_stateByReplay : Room := { frames := 8, cells := 2, slots := 12, locals := 135 }
def wpL_stateByReplay (S : Mem) (a0 : Nat) (p1 : Int32) (p2 : Int32) (a3 : Nat) (post : Int32 → Mem → Prop) : Prop := isK S a0 6 ∧ (wpX6_stateByReplay S a0 p1 p2 (fun x3 S1 => isK S1 a3 12 ∧ (vp_in (nI 0) (mN S1 a3) ∧ (∀ S8 : Mem, S8 = (sJ S1 a3 (nI 0).toNatClampNeg x3.toInt64) → (post (nI 0) S8)))) (fun k4 S5 => (k4 = 1 → (post (nI 1) S5)) ∧ (k4 = 3 → (post (nI 2) S5)) ∧ (k4 = 1 ∨ k4 = 3)))
set_option maxHeartbeats 4000000 in
set_option maxRecDepth 100000 in
theorem meL_stateByReplay (l : Launch) (hl9 : l.stackTraces = false) (G : GT) (S : Mem) (a0 : Nat) (p1 : Int32) (p2 : Int32) (a3 : Nat) (post : Int32 → Mem → Prop) (hw : wpL_stateByReplay S a0 p1 p2 a3 post) : CN emI l yL_stateByReplay (wsH yL_stateByReplay cL_stateByReplay 5 (some .int) [(0, 10, 13, 19), (0, 10, 17, 48)]) rmL_stateByReplay 2 12 G [.ref a0, .int p1, .int p2, .ref a3] S post := by
  refine ch_open RL rfl (by decide +kernel) (Nat.le_of_ble_eq_true rfl) ?_
  intro p e s m args below meth c A X h hr hTab ls hl
  have hl : lv_has ls 5 [(0, .ref a0), (1, .int p1), (2, .int p2), (3, .ref a3)] := hl
  have hx := X.1
  have hb := X.2.1
  have hown := X.2.2.2.1
  unfold wpL_stateByReplay at hw
  refine lv_aload_n hx hb dL_stateByReplay_0 rfl (lv_at hl 3 rfl) ?_
  refine lv_iconst (v := (nI 0)) hx hb dL_stateByReplay_1 (by decide) ?_
  refine lv_aload_n hx hb dL_stateByReplay_2 rfl (lv_at hl 0 rfl) ?_
  refine lv_iload_n hx hb dL_stateByReplay_3 rfl (lv_at hl 1 rfl) ?_
  refine lv_iload_n hx hb dL_stateByReplay_4 rfl (lv_at hl 2 rfl) ?_
  obtain ⟨k2, hw⟩ := hw
  refine rx_VH (As := [.int p1, .int p2]) (rest := [.int (nI 0), .ref a3]) X h k2 (by decide) rfl (meX6_stateByReplay l hl9 G _ _ _ _ _ _ hw) gV_L_85 rfl rfl hdV_X6_stateByReplay rfl ⟨Nat.le_of_ble_eq_true rfl, Nat.le_of_ble_eq_true rfl⟩ hl.1 rfl (Nat.le_of_ble_eq_true rfl) ⟨Nat.le_of_ble_eq_true rfl, Nat.le_of_ble_eq_true rfl⟩ dL_stateByReplay_5 (fun k4 S5 H locs q9 ce hw h hce hcv hcl => ?_) (fun x3 S1 H locs hw h => ?_)
  · rcases hw.2.2 with hk9 | hk9
    · subst hk9
      have hw := hw.1 rfl
      refine vx_catch (own := RL) (name := "java/lang/IndexOutOfBoundsException") (E := xn 1) hown [] ⟨0, 10, 13, 19⟩ [⟨0, 10, 17, 48⟩] (by rw [hTab]; rfl) (fun z hz => nomatch hz) (by decide) (by decide) (X.hts q277) (va_Nw.use (by rfl) (X.nw q311)) hce hcv hcl ?_
      refine lv_astore (lv' := [(4, .ref q9), (0, .ref a0), (1, .int p1), (2, .int p2), (3, .ref a3)]) hx hb dL_stateByReplay_13 hl (by decide) rfl (fun ls hl => ?_)
      refine lv_iconst (v := (nI 1)) hx hb dL_stateByReplay_15 (by decide) ?_
      exact (en_i X h hr hw (Nat.le_of_ble_eq_true rfl) (Nat.le_of_ble_eq_true rfl) dL_stateByReplay_16)
    · subst hk9
      have hw := hw.2.1 rfl
      have hpass3 : ∀ z ∈ ([⟨0, 10, 13, 19⟩] : List ExceptionTableEntry), covers z 5 = false ∨ (z.catchType ≠ 0 ∧ ∃ nm : String, (Cond.classLink RL z.catchType nm).before args s = true ∧ va_Nc (xn 3) nm s) := by
        intro z hz
        rcases List.mem_cons.mp hz with rfl | hz
        · exact Or.inr ⟨by decide, "java/lang/IndexOutOfBoundsException", X.hts q277, X.2.2.2.2.2.2.1.2.2.2.2.1 ("java/util/NoSuchElementException", "java/lang/IndexOutOfBoundsException") (by decide +kernel)⟩
        cases hz
      refine vx_catch (own := RL) (name := "java/util/NoSuchElementException") (E := xn 3) hown [⟨0, 10, 13, 19⟩] ⟨0, 10, 17, 48⟩ [] (by rw [hTab]; rfl) (hpass3) (by decide) (by decide) (X.hts q495) (va_Nw.use (by rfl) (X.nw q505)) hce hcv hcl ?_
      refine lv_astore (lv' := [(4, .ref q9), (0, .ref a0), (1, .int p1), (2, .int p2), (3, .ref a3)]) hx hb dL_stateByReplay_17 hl (by decide) rfl (fun ls hl => ?_)
      refine lv_iconst (v := (nI 2)) hx hb dL_stateByReplay_19 (by decide) ?_
      exact (en_i X h hr hw (Nat.le_of_ble_eq_true rfl) (Nat.le_of_ble_eq_true rfl) dL_stateByReplay_20)
  · refine lv_i2l (v := x3.toInt64) hx hb dL_stateByReplay_8 rfl ?_
    obtain ⟨k6, hw⟩ := hw
    obtain ⟨v7, hw⟩ := hw
    refine r_last X h k6 v7 dL_stateByReplay_9 (fun H locs h => ?_)
    obtain ⟨S8, eS8⟩ : ∃ z : Mem, z = (sJ S1 a3 (nI 0).toNatClampNeg x3.toInt64) := ⟨_, rfl⟩
    rw [← eS8] at h
    have hw := hw S8 eS8
    refine lv_goto (tgt := 21) hx hb dL_stateByReplay_10 (by decide) ?_
    refine lv_iconst (v := (nI 0)) hx hb dL_stateByReplay_21 (by decide) ?_
    exact (en_i X h hr hw (Nat.le_of_ble_eq_true rfl) (Nat.le_of_ble_eq_true rfl) dL_stateByReplay_22)
abbrev rmX7_stateByReplay : Room := { frames := 2, cells := 0, slots := 0, locals := 44 }
def wpX7_stateByReplay (S : Mem) (a0 : Nat) (p1 : Int32) (p2 : Int32) (post : Int32 → Mem → Prop) : Prop := isK S a0 7 ∧ (wpX7_stateIn S a0 p1 p2 (fun x3 S1 => post x3 S1))
set_option maxHeartbeats 4000000 in
set_option maxRecDepth 100000 in
theorem meX7_stateByReplay (l : Launch) (G : GT) (S : Mem) (a0 : Nat) (p1 : Int32) (p2 : Int32) (post : Int32 → Mem → Prop) (hw : wpX7_stateByReplay S a0 p1 p2 post) : CN emI l yX7_stateByReplay (wsU yX7_stateByReplay cX7_stateByReplay 3 (some .int)) rmX7_stateByReplay 0 0 G [.ref a0, .int p1, .int p2] S post := by
  refine cn_open RX7 rfl (by decide +kernel) (Nat.le_of_ble_eq_true rfl) ?_
  intro p e s m args below meth c A X h hr hin ls hl
  have hl : lv_has ls 3 [(0, .ref a0), (1, .int p1), (2, .int p2)] := hl
  have hx := X.1
  have hb := X.2.1
  have hown := X.2.2.2.1
  unfold wpX7_stateByReplay at hw
  refine lv_aload_n hx hb dX7_stateByReplay_0 rfl (lv_at hl 0 rfl) ?_
  refine lv_iload_n hx hb dX7_stateByReplay_1 rfl (lv_at hl 1 rfl) ?_
  refine lv_iload_n hx hb dX7_stateByReplay_2 rfl (lv_at hl 2 rfl) ?_
  obtain ⟨k2, hw⟩ := hw
  refine rc_V (As := [.int p1, .int p2]) (rest := []) X h k2 (by decide) rfl (meX7_stateIn l G _ _ _ _ _ hw) gV_X7_162 rfl rfl hdV_X7_stateIn rfl ⟨Nat.le_of_ble_eq_true rfl, Nat.le_of_ble_eq_true rfl⟩ hl.1 rfl (Nat.le_of_ble_eq_true rfl) ⟨Nat.le_of_ble_eq_true rfl, Nat.le_of_ble_eq_true rfl⟩ dX7_stateByReplay_3 (fun x3 S1 H locs hw h => ?_)
  exact (en_i X h hr hw (Nat.le_of_ble_eq_true rfl) (Nat.le_of_ble_eq_true rfl) dX7_stateByReplay_6)
abbrev rmX2_showsInOtherState : Room := { frames := 2, cells := 0, slots := 0, locals := 42 }
def wlX2_showsInOtherState_2 (a0 : Nat) (p1 : Int32) (p2 : Int32)  (post : Int32 → Mem → Prop)  : Nat → Int32 → Mem → Prop
  | 0 => fun _ _ => False
  | n + 1 => fun w3 S => isK S a0 2 ∧ (((mI S a0 1) < w3 → (vz_nar (nI 0) ∧ (post (nI 0) S))) ∧ (¬ (mI S a0 1) < w3 → (wpX2_contentOf S a0 w3 (fun x5 S4 => (¬ x5 = p1 → (∀ x7 : Int32, x7 = (w3 + (nI 1)) → (wlX2_showsInOtherState_2 a0 p1 p2 post n x7 S4))) ∧ (x5 = p1 → (isK S4 a0 2 ∧ (wpX2_keptState S4 a0 w3 (fun x10 S8 => (x10 = p2 → (∀ x12 : Int32, x12 = (w3 + (nI 1)) → (wlX2_showsInOtherState_2 a0 p1 p2 post n x12 S8))) ∧ (¬ x10 = p2 → (vz_nar (nI 1) ∧ (post (nI 1) S8)))))))))))
set_option maxHeartbeats 4000000 in
set_option maxRecDepth 100000 in
theorem llX2_showsInOtherState_2 {p : Program} {l : Launch} {e : Env} {s : State} {m : MethodId} {args : Array Value} {below : List Frame} {meth : Method} {c : Code} {G : GT} {A : Nat → Prop} (X : Cx p s m args meth c cX2_showsInOtherState 4 RX2 G A) (hr : meth.sig.returnType = (some .boolean)) (a0 : Nat) (p1 : Int32) (p2 : Int32)  (post : Int32 → Mem → Prop)   : ∀ (n : Nat) (w3 : Int32) (S : Mem), wlX2_showsInOtherState_2 a0 p1 p2 post n w3 S → ∀ (H : Heap) (locs : List Loc) (ls : Array Slot), Hx G A s.heap H locs S → lv_has ls 4 [(0, .ref a0), (1, .int p1), (2, .int p2), (3, .int w3)] → W p l e rmX2_showsInOtherState s m args below meth c H locs 0 0 (MQ below (QN emI post G A) args s 0 0 A) (F0 m 2 ls []) := by
  have hx := X.1
  have hb := X.2.1
  have hown := X.2.2.2.1
  intro n
  induction n with
  | zero =>
    intro _ _ hw
    exact hw.elim
  | succ n ih =>
    intro w3 S hw H locs ls h hl
    refine lv_iload_n hx hb dX2_showsInOtherState_2 rfl (lv_at hl 3 rfl) ?_
    refine lv_aload_n hx hb dX2_showsInOtherState_3 rfl (lv_at hl 0 rfl) ?_
    obtain ⟨k1, hw⟩ := hw
    refine r_getI X h k1 1  (by decide) rfl inX2 (by decide) rfl q721 rfl dX2_showsInOtherState_4 ?_
    refine lv_icmp_gt (tgt := 36) hx hb dX2_showsInOtherState_7 (by decide) (fun c2 => ?_) (fun c2 => ?_)
    · have hw := hw.1 c2
      refine lv_iconst (v := (nI 0)) hx hb dX2_showsInOtherState_36 (by decide) ?_
      obtain ⟨b3, hw⟩ := hw
      exact (en_z X h hr b3 hw (Nat.le_of_ble_eq_true rfl) (Nat.le_of_ble_eq_true rfl) dX2_showsInOtherState_37)
    · have hw := hw.2 c2
      refine lv_aload_n hx hb dX2_showsInOtherState_10 rfl (lv_at hl 0 rfl) ?_
      refine lv_iload_n hx hb dX2_showsInOtherState_11 rfl (lv_at hl 3 rfl) ?_
      refine rc_V (As := [.int w3]) (rest := []) X h k1 (by decide) rfl (meX2_contentOf l G _ _ _ _ hw) gV_X2_36 rfl rfl hdV_X2_contentOf rfl ⟨Nat.le_of_ble_eq_true rfl, Nat.le_of_ble_eq_true rfl⟩ hl.1 rfl (Nat.le_of_ble_eq_true rfl) ⟨Nat.le_of_ble_eq_true rfl, Nat.le_of_ble_eq_true rfl⟩ dX2_showsInOtherState_12 (fun x5 S4 H locs hw h => ?_)
      refine lv_iload_n hx hb dX2_showsInOtherState_15 rfl (lv_at hl 1 rfl) ?_
      refine lv_icmp_ne (tgt := 30) hx hb dX2_showsInOtherState_16 (by decide) (fun c6 => ?_) (fun c6 => ?_)
      · have hw := hw.1 c6
        obtain ⟨x7, ex7⟩ : ∃ y : Int32, y = (w3 + (nI 1)) := ⟨_, rfl⟩
        have hw := hw x7 ex7
        refine lv_iinc (v := x7) (lv' := [(3, .int x7), (0, .ref a0), (1, .int p1), (2, .int p2)]) hx hb dX2_showsInOtherState_30 hl (k := 3) rfl (by rw [ex7]; rfl) (by decide) rfl (fun ls hl => ?_)
        refine lv_goto (tgt := 2) hx hb dX2_showsInOtherState_33 (by decide) ?_
        exact ih _ _ hw _ _ _ h (lv_sub hl [1, 2, 3, 0] rfl)
      · have hw := hw.2 c6
        refine lv_aload_n hx hb dX2_showsInOtherState_19 rfl (lv_at hl 0 rfl) ?_
        refine lv_iload_n hx hb dX2_showsInOtherState_20 rfl (lv_at hl 3 rfl) ?_
        obtain ⟨k9, hw⟩ := hw
        refine rc_V (As := [.int w3]) (rest := []) X h k9 (by decide) rfl (meX2_keptState l G _ _ _ _ hw) gV_X2_40 rfl rfl hdV_X2_keptState rfl ⟨Nat.le_of_ble_eq_true rfl, Nat.le_of_ble_eq_true rfl⟩ hl.1 rfl (Nat.le_of_ble_eq_true rfl) ⟨Nat.le_of_ble_eq_true rfl, Nat.le_of_ble_eq_true rfl⟩ dX2_showsInOtherState_21 (fun x10 S8 H locs hw h => ?_)
        refine lv_iload_n hx hb dX2_showsInOtherState_24 rfl (lv_at hl 2 rfl) ?_
        refine lv_icmp_eq (tgt := 30) hx hb dX2_showsInOtherState_25 (by decide) (fun c11 => ?_) (fun c11 => ?_)
        · have hw := hw.1 c11
          obtain ⟨x12, ex12⟩ : ∃ y : Int32, y = (w3 + (nI 1)) := ⟨_, rfl⟩
          have hw := hw x12 ex12
          refine lv_iinc (v := x12) (lv' := [(3, .int x12), (0, .ref a0), (1, .int p1), (2, .int p2)]) hx hb dX2_showsInOtherState_30 hl (k := 3) rfl (by rw [ex12]; rfl) (by decide) rfl (fun ls hl => ?_)
          refine lv_goto (tgt := 2) hx hb dX2_showsInOtherState_33 (by decide) ?_
          exact ih _ _ hw _ _ _ h (lv_sub hl [1, 2, 3, 0] rfl)
        · have hw := hw.2 c11
          refine lv_iconst (v := (nI 1)) hx hb dX2_showsInOtherState_28 (by decide) ?_
          obtain ⟨b13, hw⟩ := hw
          exact (en_z X h hr b13 hw (Nat.le_of_ble_eq_true rfl) (Nat.le_of_ble_eq_true rfl) dX2_showsInOtherState_29)
def wpX2_showsInOtherState (S : Mem) (a0 : Nat) (p1 : Int32) (p2 : Int32) (post : Int32 → Mem → Prop) : Prop := ∃ m, wlX2_showsInOtherState_2 a0 p1 p2 post m (nI 1) S
set_option maxHeartbeats 4000000 in
set_option maxRecDepth 100000 in
theorem meX2_showsInOtherState (l : Launch) (G : GT) (S : Mem) (a0 : Nat) (p1 : Int32) (p2 : Int32) (post : Int32 → Mem → Prop) (hw : wpX2_showsInOtherState S a0 p1 p2 post) : CN emI l yX2_showsInOtherState (wsU yX2_showsInOtherState cX2_showsInOtherState 4 (some .boolean)) rmX2_showsInOtherState 0 0 G [.ref a0, .int p1, .int p2] S post := by
  refine cn_open RX2 rfl (by decide +kernel) (Nat.le_of_ble_eq_true rfl) ?_
  intro p e s m args below meth c A X h hr hin ls hl
  have hl : lv_has ls 4 [(0, .ref a0), (1, .int p1), (2, .int p2)] := hl
  have hx := X.1
  have hb := X.2.1
  have hown := X.2.2.2.1
  unfold wpX2_showsInOtherState at hw
  refine lv_iconst (v := (nI 1)) hx hb dX2_showsInOtherState_0 (by decide) ?_
  refine lv_istore_n (lv' := [(3, .int (nI 1)), (0, .ref a0), (1, .int p1), (2, .int p2)]) hx hb dX2_showsInOtherState_1 rfl hl (by decide) rfl (fun ls hl => ?_)
  obtain ⟨n14, hw⟩ := hw
  exact llX2_showsInOtherState_2  X hr _ _ _ _ n14 _ _ hw _ _ _ h (lv_sub hl [1, 2, 3, 0] rfl)
abbrev rmX6_outdated : Room := { frames := 7, cells := 1, slots := 6, locals := 111 }
def wlX6_outdated_19 (a0 : Nat) (p1 : Int32) (x8 : Int32) (post : Int32 → Mem → Prop) (px : Nat → Mem → Prop)  : Nat → Int32 → Int32 → Mem → Prop
  | 0 => fun _ _ _ => False
  | n + 1 => fun w3 w4 S => ((nI 100) ≤ w4 → (post w3 S)) ∧ (¬ (nI 100) ≤ w4 → (isK S a0 6 ∧ (wpX6_findLot S a0 w4 (fun r12 S10 => (r12 = none → (∀ x14 : Int32, x14 = (w4 + (nI 1)) → (wlX6_outdated_19 a0 p1 x8 post px n w3 x14 S10))) ∧ (∀ o13, r12 = some o13 → (isK S10 o13 2 ∧ (wpX2_showsInOtherState S10 o13 p1 x8 (fun x17 S15 => (x17 = 0 → (∀ x19 : Int32, x19 = (w4 + (nI 1)) → (wlX6_outdated_19 a0 p1 x8 post px n w3 x19 S15))) ∧ (¬ x17 = 0 → (isK S15 o13 2 ∧ (∀ x21 : Int32, x21 = (w3 + (mI S15 o13 0)) → (∀ x22 : Int32, x22 = (w4 + (nI 1)) → (wlX6_outdated_19 a0 p1 x8 post px n x21 x22 S15)))))))))))))
set_option maxHeartbeats 4000000 in
set_option maxRecDepth 100000 in
theorem llX6_outdated_19 {p : Program} {l : Launch} {e : Env} {s : State} {m : MethodId} {args : Array Value} {below : List Frame} {meth : Method} {c : Code} {G : GT} {A : Nat → Prop} (hl9 : l.stackTraces = false) (hno : ∀ x ∈ c.exceptionTable.toList, False) (X : Cx p s m args meth c cX6_outdated 6 RX6 G A) (hr : meth.sig.returnType = (some .int)) (a0 : Nat) (p1 : Int32) (x8 : Int32) (post : Int32 → Mem → Prop) (px : Nat → Mem → Prop)   : ∀ (n : Nat) (w3 : Int32) (w4 : Int32) (S : Mem), wlX6_outdated_19 a0 p1 x8 post px n w3 w4 S → ∀ (H : Heap) (locs : List Loc) (ls : Array Slot), Hx G A s.heap H locs S → lv_has ls 6 [(0, .ref a0), (1, .int p1), (2, .int x8), (3, .int w3), (4, .int w4)] → W p l e rmX6_outdated s m args below meth c H locs 1 6 (vx_MQ below (QN emI post G A) (QX px G A) args s 1 6 A) (F0 m 19 ls []) := by
  have hx := X.1
  have hb := X.2.1
  have hown := X.2.2.2.1
  intro n
  induction n with
  | zero =>
    intro _ _ _ hw
    exact hw.elim
  | succ n ih =>
    intro w3 w4 S hw H locs ls h hl
    refine lv_iload hx hb dX6_outdated_19 (lv_at hl 4 rfl) ?_
    refine lv_bipush (v := (nI 100)) hx hb dX6_outdated_21 (by decide) ?_
    refine lv_icmp_ge (tgt := 63) hx hb dX6_outdated_23 (by decide) (fun c9 => ?_) (fun c9 => ?_)
    · have hw := hw.1 c9
      refine lv_iload_n hx hb dX6_outdated_63 rfl (lv_at hl 3 rfl) ?_
      exact vx_ret (en_i X h hr hw (Nat.le_of_ble_eq_true rfl) (Nat.le_of_ble_eq_true rfl) dX6_outdated_64)
    · have hw := hw.2 c9
      refine lv_aload_n hx hb dX6_outdated_26 rfl (lv_at hl 0 rfl) ?_
      refine lv_iload hx hb dX6_outdated_27 (lv_at hl 4 rfl) ?_
      obtain ⟨k11, hw⟩ := hw
      refine rc_V (As := [.int w4]) (rest := []) X h k11 (by decide) rfl (meX6_findLot l G _ _ _ _ hw) gV_X6_266 rfl rfl hdV_X6_findLot rfl ⟨Nat.le_of_ble_eq_true rfl, Nat.le_of_ble_eq_true rfl⟩ hl.1 rfl (Nat.le_of_ble_eq_true rfl) ⟨Nat.le_of_ble_eq_true rfl, Nat.le_of_ble_eq_true rfl⟩ dX6_outdated_29 (fun r12 S10 H locs hw h => ?_)
      rcases r12 with _ | o13
      · have hw := hw.1 rfl
        refine lv_astoreN (lv' := [(5, .null), (0, .ref a0), (1, .int p1), (2, .int x8), (3, .int w3), (4, .int w4)]) hx hb dX6_outdated_32 hl (by decide) rfl (fun ls hl => ?_)
        refine lv_aloadN hx hb dX6_outdated_34 (lv_at hl 0 rfl) ?_
        refine lv_ifnullN (tgt := 57) hx hb dX6_outdated_36 (by decide) ?_
        obtain ⟨x14, ex14⟩ : ∃ y : Int32, y = (w4 + (nI 1)) := ⟨_, rfl⟩
        have hw := hw x14 ex14
        refine lv_iinc (v := x14) (lv' := [(4, .int x14), (5, .null), (0, .ref a0), (1, .int p1), (2, .int x8), (3, .int w3)]) hx hb dX6_outdated_57 hl (k := 5) rfl (by rw [ex14]; rfl) (by decide) rfl (fun ls hl => ?_)
        refine lv_goto (tgt := 19) hx hb dX6_outdated_60 (by decide) ?_
        exact ih _ _ _ hw _ _ _ h (lv_sub hl [2, 3, 4, 5, 0] rfl)
      · have hw := hw.2 o13 rfl
        refine lv_astore (lv' := [(5, .ref o13), (0, .ref a0), (1, .int p1), (2, .int x8), (3, .int w3), (4, .int w4)]) hx hb dX6_outdated_32 hl (by decide) rfl (fun ls hl => ?_)
        refine lv_aload hx hb dX6_outdated_34 (lv_at hl 0 rfl) ?_
        refine lv_ifnull hx hb dX6_outdated_36 ?_
        refine lv_aload hx hb dX6_outdated_39 (lv_at hl 0 rfl) ?_
        refine lv_iload_n hx hb dX6_outdated_41 rfl (lv_at hl 2 rfl) ?_
        refine lv_iload_n hx hb dX6_outdated_42 rfl (lv_at hl 3 rfl) ?_
        obtain ⟨k16, hw⟩ := hw
        refine rc_V (As := [.int p1, .int x8]) (rest := []) X h k16 (by decide) rfl (meX2_showsInOtherState l G _ _ _ _ _ hw) gV_X6_269 rfl rfl hdV_X2_showsInOtherState rfl ⟨Nat.le_of_ble_eq_true rfl, Nat.le_of_ble_eq_true rfl⟩ hl.1 rfl (Nat.le_of_ble_eq_true rfl) ⟨Nat.le_of_ble_eq_true rfl, Nat.le_of_ble_eq_true rfl⟩ dX6_outdated_43 (fun x17 S15 H locs hw h => ?_)
        refine lv_if_eq (tgt := 57) hx hb dX6_outdated_46 (by decide) (fun c18 => ?_) (fun c18 => ?_)
        · have hw := hw.1 c18
          obtain ⟨x19, ex19⟩ : ∃ y : Int32, y = (w4 + (nI 1)) := ⟨_, rfl⟩
          have hw := hw x19 ex19
          refine lv_iinc (v := x19) (lv' := [(4, .int x19), (5, .ref o13), (0, .ref a0), (1, .int p1), (2, .int x8), (3, .int w3)]) hx hb dX6_outdated_57 hl (k := 5) rfl (by rw [ex19]; rfl) (by decide) rfl (fun ls hl => ?_)
          refine lv_goto (tgt := 19) hx hb dX6_outdated_60 (by decide) ?_
          exact ih _ _ _ hw _ _ _ h (lv_sub hl [2, 3, 4, 5, 0] rfl)
        · have hw := hw.2 c18
          refine lv_iload_n hx hb dX6_outdated_49 rfl (lv_at hl 4 rfl) ?_
          refine lv_aload hx hb dX6_outdated_50 (lv_at hl 0 rfl) ?_
          obtain ⟨k20, hw⟩ := hw
          refine r_getIN X h k20 0  (by decide) rfl inX2 (by decide) rfl q720 rfl dX6_outdated_52 ?_
          refine lv_iadd hx hb dX6_outdated_55 ?_
          refine lv_topi (fun x21 ex21 => ?_)
          have hw := hw x21 ex21
          refine lv_istore_n (lv' := [(3, .int x21), (5, .ref o13), (0, .ref a0), (1, .int p1), (2, .int x8), (4, .int w4)]) hx hb dX6_outdated_56 rfl hl (by decide) rfl (fun ls hl => ?_)
          obtain ⟨x22, ex22⟩ : ∃ y : Int32, y = (w4 + (nI 1)) := ⟨_, rfl⟩
          have hw := hw x22 ex22
          refine lv_iinc (v := x22) (lv' := [(4, .int x22), (3, .int x21), (5, .ref o13), (0, .ref a0), (1, .int p1), (2, .int x8)]) hx hb dX6_outdated_57 hl (k := 5) rfl (by rw [ex22]; rfl) (by decide) rfl (fun ls hl => ?_)
          refine lv_goto (tgt := 19) hx hb dX6_outdated_60 (by decide) ?_
          exact ih _ _ _ hw _ _ _ h (lv_sub hl [3, 4, 5, 1, 0] rfl)
def wpX6_outdated (S : Mem) (a0 : Nat) (p1 : Int32) (post : Int32 → Mem → Prop) (px : Nat → Mem → Prop) : Prop := isK S a0 6 ∧ (wpX6_requireContent S a0 p1 (fun u3 S1 => isK S1 a0 6 ∧ (∃ o5, mR S1 a0 0 = some o5 ∧ (isK S1 o5 0 ∧ (wpX0_stateOf S1 o5 p1 (fun x8 S6 => ∃ m, wlX6_outdated_19 a0 p1 x8 post px m (nI 0) (nI 0) S6))))) px)
set_option maxHeartbeats 4000000 in
set_option maxRecDepth 100000 in
theorem meX6_outdated (l : Launch) (hl9 : l.stackTraces = false) (G : GT) (S : Mem) (a0 : Nat) (p1 : Int32) (post : Int32 → Mem → Prop) (px : Nat → Mem → Prop) (hw : wpX6_outdated S a0 p1 post px) : CX emI l yX6_outdated (wsU yX6_outdated cX6_outdated 6 (some .int)) rmX6_outdated 1 6 G [.ref a0, .int p1] S post px := by
  refine cx_open RX6 rfl (by decide +kernel) (Nat.le_of_ble_eq_true rfl) ?_
  intro p e s m args below meth c A X h hr hno ls hl
  have hl : lv_has ls 6 [(0, .ref a0), (1, .int p1)] := hl
  have hx := X.1
  have hb := X.2.1
  have hown := X.2.2.2.1
  unfold wpX6_outdated at hw
  refine lv_aload_n hx hb dX6_outdated_0 rfl (lv_at hl 0 rfl) ?_
  refine lv_iload_n hx hb dX6_outdated_1 rfl (lv_at hl 1 rfl) ?_
  obtain ⟨k2, hw⟩ := hw
  refine rx_V (As := [.int p1]) (rest := []) X h hno k2 (by decide) rfl (meX6_requireContent l hl9 G _ _ _ _ _ hw) gV_X6_64 rfl rfl hdV_X6_requireContent rfl ⟨Nat.le_of_ble_eq_true rfl, Nat.le_of_ble_eq_true rfl⟩ hl.1 rfl (Nat.le_of_ble_eq_true rfl) ⟨Nat.le_of_ble_eq_true rfl, Nat.le_of_ble_eq_true rfl⟩ ⟨Nat.le_of_ble_eq_true rfl, Nat.le_of_ble_eq_true rfl⟩ dX6_outdated_2 (fun u3 S1 H locs hw h => ?_)
  refine lv_aload_n hx hb dX6_outdated_5 rfl (lv_at hl 0 rfl) ?_
  obtain ⟨k4, hw⟩ := hw
  obtain ⟨o5, eo5, hw⟩ := hw
  refine r_getR X h k4 0 eo5  (by decide) rfl inX6 (by decide) rfl q141 rfl dX6_outdated_6 ?_
  refine lv_iload_n hx hb dX6_outdated_9 rfl (lv_at hl 1 rfl) ?_
  obtain ⟨k7, hw⟩ := hw
  refine rc_V (As := [.int p1]) (rest := []) X h k7 (by decide) rfl (meX0_stateOf l G _ _ _ _ hw) gV_X6_76 rfl rfl hdV_X0_stateOf rfl ⟨Nat.le_of_ble_eq_true rfl, Nat.le_of_ble_eq_true rfl⟩ hl.1 rfl (Nat.le_of_ble_eq_true rfl) ⟨Nat.le_of_ble_eq_true rfl, Nat.le_of_ble_eq_true rfl⟩ dX6_outdated_10 (fun x8 S6 H locs hw h => ?_)
  refine lv_istore_n (lv' := [(2, .int x8), (0, .ref a0), (1, .int p1)]) hx hb dX6_outdated_13 rfl hl (by decide) rfl (fun ls hl => ?_)
  refine lv_iconst (v := (nI 0)) hx hb dX6_outdated_14 (by decide) ?_
  refine lv_istore_n (lv' := [(3, .int (nI 0)), (2, .int x8), (0, .ref a0), (1, .int p1)]) hx hb dX6_outdated_15 rfl hl (by decide) rfl (fun ls hl => ?_)
  refine lv_iconst (v := (nI 0)) hx hb dX6_outdated_16 (by decide) ?_
  refine lv_istore (lv' := [(4, .int (nI 0)), (3, .int (nI 0)), (2, .int x8), (0, .ref a0), (1, .int p1)]) hx hb dX6_outdated_17 hl (by decide) rfl (fun ls hl => ?_)
  obtain ⟨n23, hw⟩ := hw
  exact llX6_outdated_19 hl9 hno X hr _ _ _ _ _ n23 _ _ _ hw _ _ _ h (lv_sub hl [3, 4, 2, 1, 0] rfl)
abbrev rmL_outdated : Room := { frames := 8, cells := 1, slots := 6, locals := 136 }
def wpL_outdated (S : Mem) (a0 : Nat) (p1 : Int32) (a2 : Nat) (post : Int32 → Mem → Prop) : Prop := isK S a0 6 ∧ (wpX6_outdated S a0 p1 (fun x3 S1 => isK S1 a2 12 ∧ (vp_in (nI 0) (mN S1 a2) ∧ (∀ S8 : Mem, S8 = (sJ S1 a2 (nI 0).toNatClampNeg x3.toInt64) → (post (nI 0) S8)))) (fun k4 S5 => (k4 = 1 → (post (nI 1) S5)) ∧ (k4 = 1)))
set_option maxHeartbeats 4000000 in
set_option maxRecDepth 100000 in
theorem meL_outdated (l : Launch) (hl9 : l.stackTraces = false) (G : GT) (S : Mem) (a0 : Nat) (p1 : Int32) (a2 : Nat) (post : Int32 → Mem → Prop) (hw : wpL_outdated S a0 p1 a2 post) : CN emI l yL_outdated (wsH yL_outdated cL_outdated 4 (some .int) [(0, 9, 12, 19)]) rmL_outdated 1 6 G [.ref a0, .int p1, .ref a2] S post := by
  refine ch_open RL rfl (by decide +kernel) (Nat.le_of_ble_eq_true rfl) ?_
  intro p e s m args below meth c A X h hr hTab ls hl
  have hl : lv_has ls 4 [(0, .ref a0), (1, .int p1), (2, .ref a2)] := hl
  have hx := X.1
  have hb := X.2.1
  have hown := X.2.2.2.1
  unfold wpL_outdated at hw
  refine lv_aload_n hx hb dL_outdated_0 rfl (lv_at hl 2 rfl) ?_
  refine lv_iconst (v := (nI 0)) hx hb dL_outdated_1 (by decide) ?_
  refine lv_aload_n hx hb dL_outdated_2 rfl (lv_at hl 0 rfl) ?_
  refine lv_iload_n hx hb dL_outdated_3 rfl (lv_at hl 1 rfl) ?_
  obtain ⟨k2, hw⟩ := hw
  refine rx_VH (As := [.int p1]) (rest := [.int (nI 0), .ref a2]) X h k2 (by decide) rfl (meX6_outdated l hl9 G _ _ _ _ _ hw) gV_L_88 rfl rfl hdV_X6_outdated rfl ⟨Nat.le_of_ble_eq_true rfl, Nat.le_of_ble_eq_true rfl⟩ hl.1 rfl (Nat.le_of_ble_eq_true rfl) ⟨Nat.le_of_ble_eq_true rfl, Nat.le_of_ble_eq_true rfl⟩ dL_outdated_4 (fun k4 S5 H locs q9 ce hw h hce hcv hcl => ?_) (fun x3 S1 H locs hw h => ?_)
  · rcases hw.2 with hk9
    · subst hk9
      have hw := hw.1 rfl
      refine vx_catch (own := RL) (name := "java/lang/IndexOutOfBoundsException") (E := xn 1) hown [] ⟨0, 9, 12, 19⟩ [] (by rw [hTab]; rfl) (fun z hz => nomatch hz) (by decide) (by decide) (X.hts q277) (va_Nw.use (by rfl) (X.nw q311)) hce hcv hcl ?_
      refine lv_astore_n (lv' := [(3, .ref q9), (0, .ref a0), (1, .int p1), (2, .ref a2)]) hx hb dL_outdated_12 rfl hl (by decide) rfl (fun ls hl => ?_)
      refine lv_iconst (v := (nI 1)) hx hb dL_outdated_13 (by decide) ?_
      exact (en_i X h hr hw (Nat.le_of_ble_eq_true rfl) (Nat.le_of_ble_eq_true rfl) dL_outdated_14)
  · refine lv_i2l (v := x3.toInt64) hx hb dL_outdated_7 rfl ?_
    obtain ⟨k6, hw⟩ := hw
    obtain ⟨v7, hw⟩ := hw
    refine r_last X h k6 v7 dL_outdated_8 (fun H locs h => ?_)
    obtain ⟨S8, eS8⟩ : ∃ z : Mem, z = (sJ S1 a2 (nI 0).toNatClampNeg x3.toInt64) := ⟨_, rfl⟩
    rw [← eS8] at h
    have hw := hw S8 eS8
    refine lv_goto (tgt := 15) hx hb dL_outdated_9 (by decide) ?_
    refine lv_iconst (v := (nI 0)) hx hb dL_outdated_15 (by decide) ?_
    exact (en_i X h hr hw (Nat.le_of_ble_eq_true rfl) (Nat.le_of_ble_eq_true rfl) dL_outdated_16)
abbrev rmX7_outdated : Room := { frames := 2, cells := 0, slots := 0, locals := 43 }
def wlX7_outdated_28 (a0 : Nat) (p1 : Int32) (w2 : Int32) (w3 : Int32) (post : Int32 → Mem → Prop) (J14 : Int32 → Int32 → Mem → Prop) : Nat → Int32 → Int32 → Mem → Prop
  | 0 => fun _ _ _ => False
  | n + 1 => fun w4 w5 S => isK S a0 7 ∧ (∃ o8, mR S a0 24 = some o8 ∧ (isK S o8 8 ∧ (vp_in w3 (mN S o8) ∧ (((mI S o8 w3.toNatClampNeg) ≤ w5 → ((w4 = 0 → (∀ x13 : Int32, x13 = (w2 + (nI 0)) → (∀ x14 : Int32, x14 = (w3 + (nI 1)) → (J14 x13 x14 S)))) ∧ (¬ w4 = 0 → (∃ o15, mR S a0 23 = some o15 ∧ (isK S o15 8 ∧ (vp_in w3 (mN S o15) ∧ (∀ x18 : Int32, x18 = (w2 + (mI S o15 w3.toNatClampNeg)) → (∀ x19 : Int32, x19 = (w3 + (nI 1)) → (J14 x18 x19 S))))))))) ∧ (¬ (mI S o8 w3.toNatClampNeg) ≤ w5 → ((¬ w4 = 0 → (∀ x21 : Int32, x21 = (w5 + (nI 1)) → (wlX7_outdated_28 a0 p1 w2 w3 post J14 n (nI 1) x21 S))) ∧ (w4 = 0 → (∃ o22, mR S a0 15 = some o22 ∧ (∃ o23, mR S a0 22 = some o23 ∧ (isK S o23 8 ∧ (vp_in w3 (mN S o23) ∧ (isK S o22 8 ∧ (vp_in (((nI 16) * (mI S o23 w3.toNatClampNeg)) + w5) (mN S o22) ∧ ((¬ (mI S o22 (((nI 16) * (mI S o23 w3.toNatClampNeg)) + w5).toNatClampNeg) = p1 → (∀ x29 : Int32, x29 = (w5 + (nI 1)) → (wlX7_outdated_28 a0 p1 w2 w3 post J14 n (nI 0) x29 S))) ∧ ((mI S o22 (((nI 16) * (mI S o23 w3.toNatClampNeg)) + w5).toNatClampNeg) = p1 → (∃ o30, mR S a0 25 = some o30 ∧ (isK S o30 8 ∧ (vp_in (((nI 16) * w3) + w5) (mN S o30) ∧ (∃ o33, mR S a0 12 = some o33 ∧ (isK S o33 8 ∧ (vp_in p1 (mN S o33) ∧ (((mI S o30 (((nI 16) * w3) + w5).toNatClampNeg) = (mI S o33 p1.toNatClampNeg) → (∀ x37 : Int32, x37 = (w5 + (nI 1)) → (wlX7_outdated_28 a0 p1 w2 w3 post J14 n (nI 0) x37 S))) ∧ (¬ (mI S o30 (((nI 16) * w3) + w5).toNatClampNeg) = (mI S o33 p1.toNatClampNeg) → (∀ x38 : Int32, x38 = (w5 + (nI 1)) → (wlX7_outdated_28 a0 p1 w2 w3 post J14 n (nI 1) x38 S)))))))))))))))))))))))))
set_option maxHeartbeats 4000000 in
set_option maxRecDepth 100000 in
theorem llX7_outdated_28 {p : Program} {l : Launch} {e : Env} {s : State} {m : MethodId} {args : Array Value} {below : List Frame} {meth : Method} {c : Code} {G : GT} {A : Nat → Prop} (X : Cx p s m args meth c cX7_outdated 6 RX7 G A) (hr : meth.sig.returnType = (some .int)) (a0 : Nat) (p1 : Int32) (w2 : Int32) (w3 : Int32) (post : Int32 → Mem → Prop) (J14 : Int32 → Int32 → Mem → Prop) (hJ14 : ∀ (w2 : Int32) (w3 : Int32) (S : Mem), J14 w2 w3 S → ∀ (H : Heap) (locs : List Loc) (ls : Array Slot), Hx G A s.heap H locs S → lv_has ls 6 [(0, .ref a0), (1, .int p1), (2, .int w2), (3, .int w3)] → W p l e rmX7_outdated s m args below meth c H locs 0 0 (MQ below (QN emI post G A) args s 0 0 A) (F0 m 14 ls [])) : ∀ (n : Nat) (w4 : Int32) (w5 : Int32) (S : Mem), wlX7_outdated_28 a0 p1 w2 w3 post J14 n w4 w5 S → ∀ (H : Heap) (locs : List Loc) (ls : Array Slot), Hx G A s.heap H locs S → lv_has ls 6 [(0, .ref a0), (1, .int p1), (2, .int w2), (3, .int w3), (4, .int w4), (5, .int w5)] → W p l e rmX7_outdated s m args below meth c H locs 0 0 (MQ below (QN emI post G A) args s 0 0 A) (F0 m 28 ls []) := by
  have hx := X.1
  have hb := X.2.1
  have hown := X.2.2.2.1
  intro n
  induction n with
  | zero =>
    intro _ _ _ hw
    exact hw.elim
  | succ n ih =>
    intro w4 w5 S hw H locs ls h hl
    refine lv_iload hx hb dX7_outdated_28 (lv_at hl 5 rfl) ?_
    refine lv_aload_n hx hb dX7_outdated_30 rfl (lv_at hl 0 rfl) ?_
    obtain ⟨k7, hw⟩ := hw
    obtain ⟨o8, eo8, hw⟩ := hw
    refine r_getR X h k7 24 eo8  (by decide) rfl inX7 (by decide) rfl q872 rfl dX7_outdated_31 ?_
    refine lv_iload_n hx hb dX7_outdated_34 rfl (lv_at hl 3 rfl) ?_
    obtain ⟨k9, hw⟩ := hw
    obtain ⟨v10, hw⟩ := hw
    refine r_iald X h k9 v10 dX7_outdated_35 ?_
    refine lv_icmp_ge (tgt := 99) hx hb dX7_outdated_36 (by decide) (fun c11 => ?_) (fun c11 => ?_)
    · have hw := hw.1 c11
      refine lv_iload_n hx hb dX7_outdated_99 rfl (lv_at hl 2 rfl) ?_
      refine lv_iload hx hb dX7_outdated_100 (lv_at hl 4 rfl) ?_
      refine lv_if_eq (tgt := 114) hx hb dX7_outdated_102 (by decide) (fun c12 => ?_) (fun c12 => ?_)
      · have hw := hw.1 c12
        refine lv_iconst (v := (nI 0)) hx hb dX7_outdated_114 (by decide) ?_
        refine lv_iadd hx hb dX7_outdated_115 ?_
        refine lv_topi (fun x13 ex13 => ?_)
        have hw := hw x13 ex13
        refine lv_istore_n (lv' := [(2, .int x13), (0, .ref a0), (1, .int p1), (3, .int w3), (4, .int w4), (5, .int w5)]) hx hb dX7_outdated_116 rfl hl (by decide) rfl (fun ls hl => ?_)
        obtain ⟨x14, ex14⟩ : ∃ y : Int32, y = (w3 + (nI 1)) := ⟨_, rfl⟩
        have hw := hw x14 ex14
        refine lv_iinc (v := x14) (lv' := [(3, .int x14), (2, .int x13), (0, .ref a0), (1, .int p1), (4, .int w4), (5, .int w5)]) hx hb dX7_outdated_117 hl (k := 3) rfl (by rw [ex14]; rfl) (by decide) rfl (fun ls hl => ?_)
        refine lv_goto (tgt := 14) hx hb dX7_outdated_120 (by decide) ?_
        exact hJ14 _ _ _ hw _ _ _ h (lv_sub hl [2, 3, 1, 0] rfl)
      · have hw := hw.2 c12
        refine lv_aload_n hx hb dX7_outdated_105 rfl (lv_at hl 0 rfl) ?_
        obtain ⟨o15, eo15, hw⟩ := hw
        refine r_getR X h k7 23 eo15  (by decide) rfl inX7 (by decide) rfl q871 rfl dX7_outdated_106 ?_
        refine lv_iload_n hx hb dX7_outdated_109 rfl (lv_at hl 3 rfl) ?_
        obtain ⟨k16, hw⟩ := hw
        obtain ⟨v17, hw⟩ := hw
        refine r_iald X h k16 v17 dX7_outdated_110 ?_
        refine lv_goto (tgt := 115) hx hb dX7_outdated_111 (by decide) ?_
        refine lv_iadd hx hb dX7_outdated_115 ?_
        refine lv_topi (fun x18 ex18 => ?_)
        have hw := hw x18 ex18
        refine lv_istore_n (lv' := [(2, .int x18), (0, .ref a0), (1, .int p1), (3, .int w3), (4, .int w4), (5, .int w5)]) hx hb dX7_outdated_116 rfl hl (by decide) rfl (fun ls hl => ?_)
        obtain ⟨x19, ex19⟩ : ∃ y : Int32, y = (w3 + (nI 1)) := ⟨_, rfl⟩
        have hw := hw x19 ex19
        refine lv_iinc (v := x19) (lv' := [(3, .int x19), (2, .int x18), (0, .ref a0), (1, .int p1), (4, .int w4), (5, .int w5)]) hx hb dX7_outdated_117 hl (k := 3) rfl (by rw [ex19]; rfl) (by decide) rfl (fun ls hl => ?_)
        refine lv_goto (tgt := 14) hx hb dX7_outdated_120 (by decide) ?_
        exact hJ14 _ _ _ hw _ _ _ h (lv_sub hl [2, 3, 1, 0] rfl)
    · have hw := hw.2 c11
      refine lv_iload hx hb dX7_outdated_39 (lv_at hl 4 rfl) ?_
      refine lv_if_ne (tgt := 86) hx hb dX7_outdated_41 (by decide) (fun c20 => ?_) (fun c20 => ?_)
      · have hw := hw.1 c20
        refine lv_iconst (v := (nI 1)) hx hb dX7_outdated_86 (by decide) ?_
        refine lv_goto (tgt := 91) hx hb dX7_outdated_87 (by decide) ?_
        refine lv_istore (lv' := [(4, .int (nI 1)), (0, .ref a0), (1, .int p1), (2, .int w2), (3, .int w3), (5, .int w5)]) hx hb dX7_outdated_91 hl (by decide) rfl (fun ls hl => ?_)
        obtain ⟨x21, ex21⟩ : ∃ y : Int32, y = (w5 + (nI 1)) := ⟨_, rfl⟩
        have hw := hw x21 ex21
        refine lv_iinc (v := x21) (lv' := [(5, .int x21), (4, .int (nI 1)), (0, .ref a0), (1, .int p1), (2, .int w2), (3, .int w3)]) hx hb dX7_outdated_93 hl (k := 5) rfl (by rw [ex21]; rfl) (by decide) rfl (fun ls hl => ?_)
        refine lv_goto (tgt := 28) hx hb dX7_outdated_96 (by decide) ?_
        exact ih _ _ _ hw _ _ _ h (lv_sub hl [2, 3, 4, 5, 1, 0] rfl)
      · have hw := hw.2 c20
        refine lv_aload_n hx hb dX7_outdated_44 rfl (lv_at hl 0 rfl) ?_
        obtain ⟨o22, eo22, hw⟩ := hw
        refine r_getR X h k7 15 eo22  (by decide) rfl inX7 (by decide) rfl q863 rfl dX7_outdated_45 ?_
        refine lv_bipush (v := (nI 16)) hx hb dX7_outdated_48 (by decide) ?_
        refine lv_aload_n hx hb dX7_outdated_50 rfl (lv_at hl 0 rfl) ?_
        obtain ⟨o23, eo23, hw⟩ := hw
        refine r_getR X h k7 22 eo23  (by decide) rfl inX7 (by decide) rfl q870 rfl dX7_outdated_51 ?_
        refine lv_iload_n hx hb dX7_outdated_54 rfl (lv_at hl 3 rfl) ?_
        obtain ⟨k24, hw⟩ := hw
        obtain ⟨v25, hw⟩ := hw
        refine r_iald X h k24 v25 dX7_outdated_55 ?_
        refine lv_imul hx hb dX7_outdated_56 ?_
        refine lv_iload hx hb dX7_outdated_57 (lv_at hl 5 rfl) ?_
        refine lv_iadd hx hb dX7_outdated_59 ?_
        obtain ⟨k26, hw⟩ := hw
        obtain ⟨v27, hw⟩ := hw
        refine r_iald X h k26 v27 dX7_outdated_60 ?_
        refine lv_iload_n hx hb dX7_outdated_61 rfl (lv_at hl 1 rfl) ?_
        refine lv_icmp_ne (tgt := 90) hx hb dX7_outdated_62 (by decide) (fun c28 => ?_) (fun c28 => ?_)
        · have hw := hw.1 c28
          refine lv_iconst (v := (nI 0)) hx hb dX7_outdated_90 (by decide) ?_
          refine lv_istore (lv' := [(4, .int (nI 0)), (0, .ref a0), (1, .int p1), (2, .int w2), (3, .int w3), (5, .int w5)]) hx hb dX7_outdated_91 hl (by decide) rfl (fun ls hl => ?_)
          obtain ⟨x29, ex29⟩ : ∃ y : Int32, y = (w5 + (nI 1)) := ⟨_, rfl⟩
          have hw := hw x29 ex29
          refine lv_iinc (v := x29) (lv' := [(5, .int x29), (4, .int (nI 0)), (0, .ref a0), (1, .int p1), (2, .int w2), (3, .int w3)]) hx hb dX7_outdated_93 hl (k := 5) rfl (by rw [ex29]; rfl) (by decide) rfl (fun ls hl => ?_)
          refine lv_goto (tgt := 28) hx hb dX7_outdated_96 (by decide) ?_
          exact ih _ _ _ hw _ _ _ h (lv_sub hl [2, 3, 4, 5, 1, 0] rfl)
        · have hw := hw.2 c28
          refine lv_aload_n hx hb dX7_outdated_65 rfl (lv_at hl 0 rfl) ?_
          obtain ⟨o30, eo30, hw⟩ := hw
          refine r_getR X h k7 25 eo30  (by decide) rfl inX7 (by decide) rfl q873 rfl dX7_outdated_66 ?_
          refine lv_bipush (v := (nI 16)) hx hb dX7_outdated_69 (by decide) ?_
          refine lv_iload_n hx hb dX7_outdated_71 rfl (lv_at hl 3 rfl) ?_
          refine lv_imul hx hb dX7_outdated_72 ?_
          refine lv_iload hx hb dX7_outdated_73 (lv_at hl 5 rfl) ?_
          refine lv_iadd hx hb dX7_outdated_75 ?_
          obtain ⟨k31, hw⟩ := hw
          obtain ⟨v32, hw⟩ := hw
          refine r_iald X h k31 v32 dX7_outdated_76 ?_
          refine lv_aload_n hx hb dX7_outdated_77 rfl (lv_at hl 0 rfl) ?_
          obtain ⟨o33, eo33, hw⟩ := hw
          refine r_getR X h k7 12 eo33  (by decide) rfl inX7 (by decide) rfl q860 rfl dX7_outdated_78 ?_
          refine lv_iload_n hx hb dX7_outdated_81 rfl (lv_at hl 1 rfl) ?_
          obtain ⟨k34, hw⟩ := hw
          obtain ⟨v35, hw⟩ := hw
          refine r_iald X h k34 v35 dX7_outdated_82 ?_
          refine lv_icmp_eq (tgt := 90) hx hb dX7_outdated_83 (by decide) (fun c36 => ?_) (fun c36 => ?_)
          · have hw := hw.1 c36
            refine lv_iconst (v := (nI 0)) hx hb dX7_outdated_90 (by decide) ?_
            refine lv_istore (lv' := [(4, .int (nI 0)), (0, .ref a0), (1, .int p1), (2, .int w2), (3, .int w3), (5, .int w5)]) hx hb dX7_outdated_91 hl (by decide) rfl (fun ls hl => ?_)
            obtain ⟨x37, ex37⟩ : ∃ y : Int32, y = (w5 + (nI 1)) := ⟨_, rfl⟩
            have hw := hw x37 ex37
            refine lv_iinc (v := x37) (lv' := [(5, .int x37), (4, .int (nI 0)), (0, .ref a0), (1, .int p1), (2, .int w2), (3, .int w3)]) hx hb dX7_outdated_93 hl (k := 5) rfl (by rw [ex37]; rfl) (by decide) rfl (fun ls hl => ?_)
            refine lv_goto (tgt := 28) hx hb dX7_outdated_96 (by decide) ?_
            exact ih _ _ _ hw _ _ _ h (lv_sub hl [2, 3, 4, 5, 1, 0] rfl)
          · have hw := hw.2 c36
            refine lv_iconst (v := (nI 1)) hx hb dX7_outdated_86 (by decide) ?_
            refine lv_goto (tgt := 91) hx hb dX7_outdated_87 (by decide) ?_
            refine lv_istore (lv' := [(4, .int (nI 1)), (0, .ref a0), (1, .int p1), (2, .int w2), (3, .int w3), (5, .int w5)]) hx hb dX7_outdated_91 hl (by decide) rfl (fun ls hl => ?_)
            obtain ⟨x38, ex38⟩ : ∃ y : Int32, y = (w5 + (nI 1)) := ⟨_, rfl⟩
            have hw := hw x38 ex38
            refine lv_iinc (v := x38) (lv' := [(5, .int x38), (4, .int (nI 1)), (0, .ref a0), (1, .int p1), (2, .int w2), (3, .int w3)]) hx hb dX7_outdated_93 hl (k := 5) rfl (by rw [ex38]; rfl) (by decide) rfl (fun ls hl => ?_)
            refine lv_goto (tgt := 28) hx hb dX7_outdated_96 (by decide) ?_
            exact ih _ _ _ hw _ _ _ h (lv_sub hl [2, 3, 4, 5, 1, 0] rfl)
def wlX7_outdated_14 (a0 : Nat) (p1 : Int32)  (post : Int32 → Mem → Prop)  : Nat → Int32 → Int32 → Mem → Prop
  | 0 => fun _ _ _ => False
  | n + 1 => fun w2 w3 S => isK S a0 7 ∧ (((mI S a0 3) ≤ w3 → (post w2 S)) ∧ (¬ (mI S a0 3) ≤ w3 → (∃ m, wlX7_outdated_28 a0 p1 w2 w3 post (fun w2 w3 S => wlX7_outdated_14 a0 p1 post n w2 w3 S) m (nI 0) (nI 0) S)))
set_option maxHeartbeats 4000000 in
set_option maxRecDepth 100000 in
theorem llX7_outdated_14 {p : Program} {l : Launch} {e : Env} {s : State} {m : MethodId} {args : Array Value} {below : List Frame} {meth : Method} {c : Code} {G : GT} {A : Nat → Prop} (X : Cx p s m args meth c cX7_outdated 6 RX7 G A) (hr : meth.sig.returnType = (some .int)) (a0 : Nat) (p1 : Int32)  (post : Int32 → Mem → Prop)   : ∀ (n : Nat) (w2 : Int32) (w3 : Int32) (S : Mem), wlX7_outdated_14 a0 p1 post n w2 w3 S → ∀ (H : Heap) (locs : List Loc) (ls : Array Slot), Hx G A s.heap H locs S → lv_has ls 6 [(0, .ref a0), (1, .int p1), (2, .int w2), (3, .int w3)] → W p l e rmX7_outdated s m args below meth c H locs 0 0 (MQ below (QN emI post G A) args s 0 0 A) (F0 m 14 ls []) := by
  have hx := X.1
  have hb := X.2.1
  have hown := X.2.2.2.1
  intro n
  induction n with
  | zero =>
    intro _ _ _ hw
    exact hw.elim
  | succ n ih =>
    intro w2 w3 S hw H locs ls h hl
    refine lv_iload_n hx hb dX7_outdated_14 rfl (lv_at hl 3 rfl) ?_
    refine lv_aload_n hx hb dX7_outdated_15 rfl (lv_at hl 0 rfl) ?_
    obtain ⟨k5, hw⟩ := hw
    refine r_getI X h k5 3  (by decide) rfl inX7 (by decide) rfl q851 rfl dX7_outdated_16 ?_
    refine lv_icmp_ge (tgt := 123) hx hb dX7_outdated_19 (by decide) (fun c6 => ?_) (fun c6 => ?_)
    · have hw := hw.1 c6
      refine lv_iload_n hx hb dX7_outdated_123 rfl (lv_at hl 2 rfl) ?_
      exact (en_i X h hr hw (Nat.le_of_ble_eq_true rfl) (Nat.le_of_ble_eq_true rfl) dX7_outdated_124)
    · have hw := hw.2 c6
      refine lv_iconst (v := (nI 0)) hx hb dX7_outdated_22 (by decide) ?_
      refine lv_istore (lv' := [(4, .int (nI 0)), (0, .ref a0), (1, .int p1), (2, .int w2), (3, .int w3)]) hx hb dX7_outdated_23 hl (by decide) rfl (fun ls hl => ?_)
      refine lv_iconst (v := (nI 0)) hx hb dX7_outdated_25 (by decide) ?_
      refine lv_istore (lv' := [(5, .int (nI 0)), (4, .int (nI 0)), (0, .ref a0), (1, .int p1), (2, .int w2), (3, .int w3)]) hx hb dX7_outdated_26 hl (by decide) rfl (fun ls hl => ?_)
      obtain ⟨n39, hw⟩ := hw
      exact llX7_outdated_28  X hr _ _ _ _ _ _ (fun w2 w3 S hw H locs ls h hl => ih w2 w3 S hw H locs ls h hl) n39 _ _ _ hw _ _ _ h (lv_sub hl [2, 3, 4, 5, 1, 0] rfl)
def wpX7_outdated (S : Mem) (a0 : Nat) (p1 : Int32) (post : Int32 → Mem → Prop) : Prop := isK S a0 7 ∧ (wpX7_isContent S a0 p1 (fun x3 S1 => (¬ x3 = 0 → (∃ m, wlX7_outdated_14 a0 p1 post m (nI 0) (nI 0) S1)) ∧ (x3 = 0 → (post (nI 0) S1))))
set_option maxHeartbeats 4000000 in
set_option maxRecDepth 100000 in
theorem meX7_outdated (l : Launch) (G : GT) (S : Mem) (a0 : Nat) (p1 : Int32) (post : Int32 → Mem → Prop) (hw : wpX7_outdated S a0 p1 post) : CN emI l yX7_outdated (wsU yX7_outdated cX7_outdated 6 (some .int)) rmX7_outdated 0 0 G [.ref a0, .int p1] S post := by
  refine cn_open RX7 rfl (by decide +kernel) (Nat.le_of_ble_eq_true rfl) ?_
  intro p e s m args below meth c A X h hr hin ls hl
  have hl : lv_has ls 6 [(0, .ref a0), (1, .int p1)] := hl
  have hx := X.1
  have hb := X.2.1
  have hown := X.2.2.2.1
  unfold wpX7_outdated at hw
  refine lv_aload_n hx hb dX7_outdated_0 rfl (lv_at hl 0 rfl) ?_
  refine lv_iload_n hx hb dX7_outdated_1 rfl (lv_at hl 1 rfl) ?_
  obtain ⟨k2, hw⟩ := hw
  refine rc_V (As := [.int p1]) (rest := []) X h k2 (by decide) rfl (meX7_isContent l G _ _ _ _ hw) gV_X7_104 rfl rfl hdV_X7_isContent rfl ⟨Nat.le_of_ble_eq_true rfl, Nat.le_of_ble_eq_true rfl⟩ hl.1 rfl (Nat.le_of_ble_eq_true rfl) ⟨Nat.le_of_ble_eq_true rfl, Nat.le_of_ble_eq_true rfl⟩ dX7_outdated_2 (fun x3 S1 H locs hw h => ?_)
  refine lv_if_ne (tgt := 10) hx hb dX7_outdated_5 (by decide) (fun c4 => ?_) (fun c4 => ?_)
  · have hw := hw.1 c4
    refine lv_iconst (v := (nI 0)) hx hb dX7_outdated_10 (by decide) ?_
    refine lv_istore_n (lv' := [(2, .int (nI 0)), (0, .ref a0), (1, .int p1)]) hx hb dX7_outdated_11 rfl hl (by decide) rfl (fun ls hl => ?_)
    refine lv_iconst (v := (nI 0)) hx hb dX7_outdated_12 (by decide) ?_
    refine lv_istore_n (lv' := [(3, .int (nI 0)), (2, .int (nI 0)), (0, .ref a0), (1, .int p1)]) hx hb dX7_outdated_13 rfl hl (by decide) rfl (fun ls hl => ?_)
    obtain ⟨n40, hw⟩ := hw
    exact llX7_outdated_14  X hr _ _ _ n40 _ _ _ hw _ _ _ h (lv_sub hl [2, 3, 1, 0] rfl)
  · have hw := hw.2 c4
    refine lv_iconst (v := (nI 0)) hx hb dX7_outdated_8 (by decide) ?_
    exact (en_i X h hr hw (Nat.le_of_ble_eq_true rfl) (Nat.le_of_ble_eq_true rfl) dX7_outdated_9)
abbrev rmX6_waste : Room := { frames := 0, cells := 0, slots := 0, locals := 0 }
def wpX6_waste (S : Mem) (a0 : Nat) (post : Int64 → Mem → Prop) : Prop := isK S a0 6 ∧ (post (mJ S a0 8) S)
set_option maxHeartbeats 4000000 in
set_option maxRecDepth 100000 in
theorem meX6_waste (l : Launch) (G : GT) (S : Mem) (a0 : Nat) (post : Int64 → Mem → Prop) (hw : wpX6_waste S a0 post) : CN emJ l yX6_waste (wsU yX6_waste cX6_waste 1 (some .long)) rmX6_waste 0 0 G [.ref a0] S post := by
  refine cn_open RX6 rfl (by decide +kernel) (Nat.le_of_ble_eq_true rfl) ?_
  intro p e s m args below meth c A X h hr hin ls hl
  have hl : lv_has ls 1 [(0, .ref a0)] := hl
  have hx := X.1
  have hb := X.2.1
  have hown := X.2.2.2.1
  unfold wpX6_waste at hw
  refine lv_aload_n hx hb dX6_waste_0 rfl (lv_at hl 0 rfl) ?_
  obtain ⟨k1, hw⟩ := hw
  refine r_getJ X h k1 8  (by decide) rfl inX6 (by decide) rfl q149 rfl dX6_waste_1 ?_
  exact (en_j X h hr hw (Nat.le_of_ble_eq_true rfl) (Nat.le_of_ble_eq_true rfl) dX6_waste_4)
abbrev rmX7_waste : Room := { frames := 0, cells := 0, slots := 0, locals := 0 }
def wpX7_waste (S : Mem) (a0 : Nat) (post : Int64 → Mem → Prop) : Prop := isK S a0 7 ∧ (∀ S2 : Mem, S2 = (sI S a0 0 (nI 0)) → (post (mJ S2 a0 10) S2))
set_option maxHeartbeats 4000000 in
set_option maxRecDepth 100000 in
theorem meX7_waste (l : Launch) (G : GT) (S : Mem) (a0 : Nat) (post : Int64 → Mem → Prop) (hw : wpX7_waste S a0 post) : CN emJ l yX7_waste (wsU yX7_waste cX7_waste 1 (some .long)) rmX7_waste 0 0 G [.ref a0] S post := by
  refine cn_open RX7 rfl (by decide +kernel) (Nat.le_of_ble_eq_true rfl) ?_
  intro p e s m args below meth c A X h hr hin ls hl
  have hl : lv_has ls 1 [(0, .ref a0)] := hl
  have hx := X.1
  have hb := X.2.1
  have hown := X.2.2.2.1
  unfold wpX7_waste at hw
  refine lv_aload_n hx hb dX7_waste_0 rfl (lv_at hl 0 rfl) ?_
  refine lv_iconst (v := (nI 0)) hx hb dX7_waste_1 (by decide) ?_
  obtain ⟨k1, hw⟩ := hw
  refine r_putI X h k1 0 (by decide) rfl inX7 tyX7 tyX7_ok nmX7 (by decide) rfl (Nat.le_of_ble_eq_true rfl) q848 rfl rfl (tyX7_ok 0 (by decide)) rfl rfl dX7_waste_2 (fun H locs h => ?_)
  obtain ⟨S2, eS2⟩ : ∃ z : Mem, z = (sI S a0 0 (nI 0)) := ⟨_, rfl⟩
  rw [← eS2] at h
  have hw := hw S2 eS2
  refine lv_aload_n hx hb dX7_waste_5 rfl (lv_at hl 0 rfl) ?_
  refine r_getJ X h (kI eS2 k1) 10  (by decide) rfl inX7 (by decide) rfl q858 rfl dX7_waste_6 ?_
  exact (en_j X h hr hw (Nat.le_of_ble_eq_true rfl) (Nat.le_of_ble_eq_true rfl) dX7_waste_9)
abbrev rmX6_wasteShare : Room := { frames := 6, cells := 1, slots := 6, locals := 90 }
def wpX6_wasteShare (S : Mem) (a0 : Nat) (post : UInt32 → Mem → Prop) (px : Nat → Mem → Prop) : Prop := isK S a0 6 ∧ ((0 < (lg_cmp (mJ S a0 9) (0 : Int64)) → (vf_n32 (FP.fdiv (FP.l2f (mJ S a0 8)) (FP.l2f (mJ S a0 9))) ∧ (post (FP.fdiv (FP.l2f (mJ S a0 8)) (FP.l2f (mJ S a0 9))) S))) ∧ (¬ 0 < (lg_cmp (mJ S a0 9) (0 : Int64)) → (px 6 S)))
set_option maxHeartbeats 4000000 in
set_option maxRecDepth 100000 in
theorem meX6_wasteShare (l : Launch) (hl9 : l.stackTraces = false) (G : GT) (S : Mem) (a0 : Nat) (post : UInt32 → Mem → Prop) (px : Nat → Mem → Prop) (hw : wpX6_wasteShare S a0 post px) : CX emF l yX6_wasteShare (wsU yX6_wasteShare cX6_wasteShare 1 (some .float)) rmX6_wasteShare 1 6 G [.ref a0] S post px := by
  refine cx_open RX6 rfl (by decide +kernel) (Nat.le_of_ble_eq_true rfl) ?_
  intro p e s m args below meth c A X h hr hno ls hl
  have hl : lv_has ls 1 [(0, .ref a0)] := hl
  have hx := X.1
  have hb := X.2.1
  have hown := X.2.2.2.1
  unfold wpX6_wasteShare at hw
  refine lv_aload_n hx hb dX6_wasteShare_0 rfl (lv_at hl 0 rfl) ?_
  obtain ⟨k1, hw⟩ := hw
  refine r_getJ X h k1 9  (by decide) rfl inX6 (by decide) rfl q150 rfl dX6_wasteShare_1 ?_
  refine lv_lconst (v := 0) hx hb dX6_wasteShare_4 (by decide) ?_
  refine W.lcmp hx hb dX6_wasteShare_5 ?_
  refine lv_if_gt (tgt := 20) hx hb dX6_wasteShare_6 (by decide) (fun c2 => ?_) (fun c2 => ?_)
  · have hw := hw.1 c2
    refine lv_aload_n hx hb dX6_wasteShare_20 rfl (lv_at hl 0 rfl) ?_
    refine r_getJ X h k1 8  (by decide) rfl inX6 (by decide) rfl q149 rfl dX6_wasteShare_21 ?_
    refine lv_l2f hx hb dX6_wasteShare_24 ?_
    refine lv_aload_n hx hb dX6_wasteShare_25 rfl (lv_at hl 0 rfl) ?_
    refine r_getJ X h k1 9  (by decide) rfl inX6 (by decide) rfl q150 rfl dX6_wasteShare_26 ?_
    refine lv_l2f hx hb dX6_wasteShare_29 ?_
    obtain ⟨z3, hw⟩ := hw
    refine lv_fdiv hx hb dX6_wasteShare_30 z3 ?_
    exact vx_ret (en_f X h hr hw (Nat.le_of_ble_eq_true rfl) (Nat.le_of_ble_eq_true rfl) dX6_wasteShare_31)
  · have hw := hw.2 c2
    exact en_xW 6 X h hl9 th_X6_275 hl.1 hno dX6_wasteShare_9 dX6_wasteShare_12 dX6_wasteShare_13 dX6_wasteShare_16 dX6_wasteShare_19 ⟨Nat.le_of_ble_eq_true rfl, Nat.le_of_ble_eq_true rfl⟩ ⟨Nat.le_of_ble_eq_true rfl, Nat.le_of_ble_eq_true rfl⟩ ⟨Nat.le_of_ble_eq_true rfl, Nat.le_of_ble_eq_true rfl⟩ hw
abbrev rmL_wasteShare : Room := { frames := 7, cells := 1, slots := 6, locals := 110 }
def wpL_wasteShare (S : Mem) (a0 : Nat) (a1 : Nat) (post : Int32 → Mem → Prop) : Prop := isK S a0 6 ∧ (wpX6_wasteShare S a0 (fun x3 S1 => vf_n64 (FP.f2d x3) ∧ (isK S1 a1 13 ∧ (vp_in (nI 0) (mN S1 a1) ∧ (∀ S9 : Mem, S9 = (sD S1 a1 (nI 0).toNatClampNeg (FP.f2d x3)) → (post (nI 0) S9))))) (fun k4 S5 => (k4 = 6 → (post (nI 1) S5)) ∧ (k4 = 6)))
set_option maxHeartbeats 4000000 in
set_option maxRecDepth 100000 in
theorem meL_wasteShare (l : Launch) (hl9 : l.stackTraces = false) (G : GT) (S : Mem) (a0 : Nat) (a1 : Nat) (post : Int32 → Mem → Prop) (hw : wpL_wasteShare S a0 a1 post) : CN emI l yL_wasteShare (wsH yL_wasteShare cL_wasteShare 3 (some .int) [(0, 8, 11, 95)]) rmL_wasteShare 1 6 G [.ref a0, .ref a1] S post := by
  refine ch_open RL rfl (by decide +kernel) (Nat.le_of_ble_eq_true rfl) ?_
  intro p e s m args below meth c A X h hr hTab ls hl
  have hl : lv_has ls 3 [(0, .ref a0), (1, .ref a1)] := hl
  have hx := X.1
  have hb := X.2.1
  have hown := X.2.2.2.1
  unfold wpL_wasteShare at hw
  refine lv_aload_n hx hb dL_wasteShare_0 rfl (lv_at hl 1 rfl) ?_
  refine lv_iconst (v := (nI 0)) hx hb dL_wasteShare_1 (by decide) ?_
  refine lv_aload_n hx hb dL_wasteShare_2 rfl (lv_at hl 0 rfl) ?_
  obtain ⟨k2, hw⟩ := hw
  refine rx_VH (As := []) (rest := [.int (nI 0), .ref a1]) X h k2 (by decide) rfl (meX6_wasteShare l hl9 G _ _ _ _ hw) gV_L_91 rfl rfl hdV_X6_wasteShare rfl ⟨Nat.le_of_ble_eq_true rfl, Nat.le_of_ble_eq_true rfl⟩ hl.1 rfl (Nat.le_of_ble_eq_true rfl) ⟨Nat.le_of_ble_eq_true rfl, Nat.le_of_ble_eq_true rfl⟩ dL_wasteShare_3 (fun k4 S5 H locs q9 ce hw h hce hcv hcl => ?_) (fun x3 S1 H locs hw h => ?_)
  · rcases hw.2 with hk9
    · subst hk9
      have hw := hw.1 rfl
      refine vx_catch (own := RL) (name := "java/lang/ArithmeticException") (E := xn 6) hown [] ⟨0, 8, 11, 95⟩ [] (by rw [hTab]; rfl) (fun z hz => nomatch hz) (by decide) (by decide) (X.hts q814) (va_Nw.use (by rfl) (X.nw q826)) hce hcv hcl ?_
      refine lv_astore_n (lv' := [(2, .ref q9), (0, .ref a0), (1, .ref a1)]) hx hb dL_wasteShare_11 rfl hl (by decide) rfl (fun ls hl => ?_)
      refine lv_iconst (v := (nI 1)) hx hb dL_wasteShare_12 (by decide) ?_
      exact (en_i X h hr hw (Nat.le_of_ble_eq_true rfl) (Nat.le_of_ble_eq_true rfl) dL_wasteShare_13)
  · obtain ⟨z6, hw⟩ := hw
    refine lv_f2d hx hb dL_wasteShare_6 z6 ?_
    obtain ⟨k7, hw⟩ := hw
    obtain ⟨v8, hw⟩ := hw
    refine r_dast X h k7 v8 dL_wasteShare_7 (fun H locs h => ?_)
    obtain ⟨S9, eS9⟩ : ∃ z : Mem, z = (sD S1 a1 (nI 0).toNatClampNeg (FP.f2d x3)) := ⟨_, rfl⟩
    rw [← eS9] at h
    have hw := hw S9 eS9
    refine lv_goto (tgt := 14) hx hb dL_wasteShare_8 (by decide) ?_
    refine lv_iconst (v := (nI 0)) hx hb dL_wasteShare_14 (by decide) ?_
    exact (en_i X h hr hw (Nat.le_of_ble_eq_true rfl) (Nat.le_of_ble_eq_true rfl) dL_wasteShare_15)
abbrev rmX7_wasteShare : Room := { frames := 0, cells := 0, slots := 0, locals := 0 }
def wpX7_wasteShare (S : Mem) (a0 : Nat) (post : UInt32 → Mem → Prop) : Prop := isK S a0 7 ∧ ((¬ (lg_cmp (mJ S a0 11) (0 : Int64)) = 0 → (∀ S3 : Mem, S3 = (sI S a0 0 (nI 0)) → ((¬ (lg_cmp (mJ S3 a0 11) (0 : Int64)) = 0 → (vf_n32 (FP.fdiv (FP.l2f (mJ S3 a0 10)) (FP.l2f (mJ S3 a0 11))) ∧ (post (FP.fdiv (FP.l2f (mJ S3 a0 10)) (FP.l2f (mJ S3 a0 11))) S3))) ∧ ((lg_cmp (mJ S3 a0 11) (0 : Int64)) = 0 → (post FP.fconst0 S3))))) ∧ ((lg_cmp (mJ S a0 11) (0 : Int64)) = 0 → (∀ S6 : Mem, S6 = (sI S a0 0 (nI 1)) → ((¬ (lg_cmp (mJ S6 a0 11) (0 : Int64)) = 0 → (vf_n32 (FP.fdiv (FP.l2f (mJ S6 a0 10)) (FP.l2f (mJ S6 a0 11))) ∧ (post (FP.fdiv (FP.l2f (mJ S6 a0 10)) (FP.l2f (mJ S6 a0 11))) S6))) ∧ ((lg_cmp (mJ S6 a0 11) (0 : Int64)) = 0 → (post FP.fconst0 S6))))))
set_option maxHeartbeats 4000000 in
set_option maxRecDepth 100000 in
theorem meX7_wasteShare (l : Launch) (G : GT) (S : Mem) (a0 : Nat) (post : UInt32 → Mem → Prop) (hw : wpX7_wasteShare S a0 post) : CN emF l yX7_wasteShare (wsU yX7_wasteShare cX7_wasteShare 1 (some .float)) rmX7_wasteShare 0 0 G [.ref a0] S post := by
  refine cn_open RX7 rfl (by decide +kernel) (Nat.le_of_ble_eq_true rfl) ?_
  intro p e s m args below meth c A X h hr hin ls hl
  have hl : lv_has ls 1 [(0, .ref a0)] := hl
  have hx := X.1
  have hb := X.2.1
  have hown := X.2.2.2.1
  unfold wpX7_wasteShare at hw
  refine lv_aload_n hx hb dX7_wasteShare_0 rfl (lv_at hl 0 rfl) ?_
  refine lv_aload_n hx hb dX7_wasteShare_1 rfl (lv_at hl 0 rfl) ?_
  obtain ⟨k1, hw⟩ := hw
  refine r_getJ X h k1 11  (by decide) rfl inX7 (by decide) rfl q859 rfl dX7_wasteShare_2 ?_
  refine lv_lconst (v := 0) hx hb dX7_wasteShare_5 (by decide) ?_
  refine W.lcmp hx hb dX7_wasteShare_6 ?_
  refine lv_if_ne (tgt := 14) hx hb dX7_wasteShare_7 (by decide) (fun c2 => ?_) (fun c2 => ?_)
  · have hw := hw.1 c2
    refine lv_iconst (v := (nI 0)) hx hb dX7_wasteShare_14 (by decide) ?_
    refine r_putI X h k1 0 (by decide) rfl inX7 tyX7 tyX7_ok nmX7 (by decide) rfl (Nat.le_of_ble_eq_true rfl) q848 rfl rfl (tyX7_ok 0 (by decide)) rfl rfl dX7_wasteShare_15 (fun H locs h => ?_)
    obtain ⟨S3, eS3⟩ : ∃ z : Mem, z = (sI S a0 0 (nI 0)) := ⟨_, rfl⟩
    rw [← eS3] at h
    have hw := hw S3 eS3
    refine lv_aload_n hx hb dX7_wasteShare_18 rfl (lv_at hl 0 rfl) ?_
    refine r_getJ X h (kI eS3 k1) 11  (by decide) rfl inX7 (by decide) rfl q859 rfl dX7_wasteShare_19 ?_
    refine lv_lconst (v := 0) hx hb dX7_wasteShare_22 (by decide) ?_
    refine W.lcmp hx hb dX7_wasteShare_23 ?_
    refine lv_if_ne (tgt := 31) hx hb dX7_wasteShare_24 (by decide) (fun c4 => ?_) (fun c4 => ?_)
    · have hw := hw.1 c4
      refine lv_aload_n hx hb dX7_wasteShare_31 rfl (lv_at hl 0 rfl) ?_
      refine r_getJ X h (kI eS3 k1) 10  (by decide) rfl inX7 (by decide) rfl q858 rfl dX7_wasteShare_32 ?_
      refine lv_l2f hx hb dX7_wasteShare_35 ?_
      refine lv_aload_n hx hb dX7_wasteShare_36 rfl (lv_at hl 0 rfl) ?_
      refine r_getJ X h (kI eS3 k1) 11  (by decide) rfl inX7 (by decide) rfl q859 rfl dX7_wasteShare_37 ?_
      refine lv_l2f hx hb dX7_wasteShare_40 ?_
      obtain ⟨z5, hw⟩ := hw
      refine lv_fdiv hx hb dX7_wasteShare_41 z5 ?_
      exact (en_f X h hr hw (Nat.le_of_ble_eq_true rfl) (Nat.le_of_ble_eq_true rfl) dX7_wasteShare_42)
    · have hw := hw.2 c4
      refine lv_fconst0 hx hb dX7_wasteShare_27 ?_
      refine lv_goto (tgt := 42) hx hb dX7_wasteShare_28 (by decide) ?_
      exact (en_f X h hr hw (Nat.le_of_ble_eq_true rfl) (Nat.le_of_ble_eq_true rfl) dX7_wasteShare_42)
  · have hw := hw.2 c2
    refine lv_iconst (v := (nI 1)) hx hb dX7_wasteShare_10 (by decide) ?_
    refine lv_goto (tgt := 15) hx hb dX7_wasteShare_11 (by decide) ?_
    refine r_putI X h k1 0 (by decide) rfl inX7 tyX7 tyX7_ok nmX7 (by decide) rfl (Nat.le_of_ble_eq_true rfl) q848 rfl rfl (tyX7_ok 0 (by decide)) rfl rfl dX7_wasteShare_15 (fun H locs h => ?_)
    obtain ⟨S6, eS6⟩ : ∃ z : Mem, z = (sI S a0 0 (nI 1)) := ⟨_, rfl⟩
    rw [← eS6] at h
    have hw := hw S6 eS6
    refine lv_aload_n hx hb dX7_wasteShare_18 rfl (lv_at hl 0 rfl) ?_
    refine r_getJ X h (kI eS6 k1) 11  (by decide) rfl inX7 (by decide) rfl q859 rfl dX7_wasteShare_19 ?_
    refine lv_lconst (v := 0) hx hb dX7_wasteShare_22 (by decide) ?_
    refine W.lcmp hx hb dX7_wasteShare_23 ?_
    refine lv_if_ne (tgt := 31) hx hb dX7_wasteShare_24 (by decide) (fun c7 => ?_) (fun c7 => ?_)
    · have hw := hw.1 c7
      refine lv_aload_n hx hb dX7_wasteShare_31 rfl (lv_at hl 0 rfl) ?_
      refine r_getJ X h (kI eS6 k1) 10  (by decide) rfl inX7 (by decide) rfl q858 rfl dX7_wasteShare_32 ?_
      refine lv_l2f hx hb dX7_wasteShare_35 ?_
      refine lv_aload_n hx hb dX7_wasteShare_36 rfl (lv_at hl 0 rfl) ?_
      refine r_getJ X h (kI eS6 k1) 11  (by decide) rfl inX7 (by decide) rfl q859 rfl dX7_wasteShare_37 ?_
      refine lv_l2f hx hb dX7_wasteShare_40 ?_
      obtain ⟨z8, hw⟩ := hw
      refine lv_fdiv hx hb dX7_wasteShare_41 z8 ?_
      exact (en_f X h hr hw (Nat.le_of_ble_eq_true rfl) (Nat.le_of_ble_eq_true rfl) dX7_wasteShare_42)
    · have hw := hw.2 c7
      refine lv_fconst0 hx hb dX7_wasteShare_27 ?_
      refine lv_goto (tgt := 42) hx hb dX7_wasteShare_28 (by decide) ?_
      exact (en_f X h hr hw (Nat.le_of_ble_eq_true rfl) (Nat.le_of_ble_eq_true rfl) dX7_wasteShare_42)
abbrev rmX6_meanMakeready : Room := { frames := 6, cells := 1, slots := 6, locals := 90 }
def wpX6_meanMakeready (S : Mem) (a0 : Nat) (post : UInt64 → Mem → Prop) (px : Nat → Mem → Prop) : Prop := isK S a0 6 ∧ ((0 < (lg_cmp (mJ S a0 10) (0 : Int64)) → (vf_n64 (FP.ddiv (FP.l2d (mJ S a0 11)) (FP.l2d (mJ S a0 10))) ∧ (post (FP.ddiv (FP.l2d (mJ S a0 11)) (FP.l2d (mJ S a0 10))) S))) ∧ (¬ 0 < (lg_cmp (mJ S a0 10) (0 : Int64)) → (px 6 S)))
set_option maxHeartbeats 4000000 in
set_option maxRecDepth 100000 in
theorem meX6_meanMakeready (l : Launch) (hl9 : l.stackTraces = false) (G : GT) (S : Mem) (a0 : Nat) (post : UInt64 → Mem → Prop) (px : Nat → Mem → Prop) (hw : wpX6_meanMakeready S a0 post px) : CX emD l yX6_meanMakeready (wsU yX6_meanMakeready cX6_meanMakeready 1 (some .double)) rmX6_meanMakeready 1 6 G [.ref a0] S post px := by
  refine cx_open RX6 rfl (by decide +kernel) (Nat.le_of_ble_eq_true rfl) ?_
  intro p e s m args below meth c A X h hr hno ls hl
  have hl : lv_has ls 1 [(0, .ref a0)] := hl
  have hx := X.1
  have hb := X.2.1
  have hown := X.2.2.2.1
  unfold wpX6_meanMakeready at hw
  refine lv_aload_n hx hb dX6_meanMakeready_0 rfl (lv_at hl 0 rfl) ?_
  obtain ⟨k1, hw⟩ := hw
  refine r_getJ X h k1 10  (by decide) rfl inX6 (by decide) rfl q151 rfl dX6_meanMakeready_1 ?_
  refine lv_lconst (v := 0) hx hb dX6_meanMakeready_4 (by decide) ?_
  refine W.lcmp hx hb dX6_meanMakeready_5 ?_
  refine lv_if_gt (tgt := 20) hx hb dX6_meanMakeready_6 (by decide) (fun c2 => ?_) (fun c2 => ?_)
  · have hw := hw.1 c2
    refine lv_aload_n hx hb dX6_meanMakeready_20 rfl (lv_at hl 0 rfl) ?_
    refine r_getJ X h k1 11  (by decide) rfl inX6 (by decide) rfl q152 rfl dX6_meanMakeready_21 ?_
    refine lv_l2d hx hb dX6_meanMakeready_24 ?_
    refine lv_aload_n hx hb dX6_meanMakeready_25 rfl (lv_at hl 0 rfl) ?_
    refine r_getJ X h k1 10  (by decide) rfl inX6 (by decide) rfl q151 rfl dX6_meanMakeready_26 ?_
    refine lv_l2d hx hb dX6_meanMakeready_29 ?_
    obtain ⟨z3, hw⟩ := hw
    refine lv_ddiv hx hb dX6_meanMakeready_30 z3 ?_
    exact vx_ret (en_d X h hr hw (Nat.le_of_ble_eq_true rfl) (Nat.le_of_ble_eq_true rfl) dX6_meanMakeready_31)
  · have hw := hw.2 c2
    exact en_xW 6 X h hl9 th_X6_275 hl.1 hno dX6_meanMakeready_9 dX6_meanMakeready_12 dX6_meanMakeready_13 dX6_meanMakeready_16 dX6_meanMakeready_19 ⟨Nat.le_of_ble_eq_true rfl, Nat.le_of_ble_eq_true rfl⟩ ⟨Nat.le_of_ble_eq_true rfl, Nat.le_of_ble_eq_true rfl⟩ ⟨Nat.le_of_ble_eq_true rfl, Nat.le_of_ble_eq_true rfl⟩ hw
abbrev rmL_meanMakeready : Room := { frames := 7, cells := 1, slots := 6, locals := 110 }
def wpL_meanMakeready (S : Mem) (a0 : Nat) (a1 : Nat) (post : Int32 → Mem → Prop) : Prop := isK S a0 6 ∧ (wpX6_meanMakeready S a0 (fun x3 S1 => isK S1 a1 13 ∧ (vp_in (nI 0) (mN S1 a1) ∧ (∀ S8 : Mem, S8 = (sD S1 a1 (nI 0).toNatClampNeg x3) → (post (nI 0) S8)))) (fun k4 S5 => (k4 = 6 → (post (nI 1) S5)) ∧ (k4 = 6)))
set_option maxHeartbeats 4000000 in
set_option maxRecDepth 100000 in
theorem meL_meanMakeready (l : Launch) (hl9 : l.stackTraces = false) (G : GT) (S : Mem) (a0 : Nat) (a1 : Nat) (post : Int32 → Mem → Prop) (hw : wpL_meanMakeready S a0 a1 post) : CN emI l yL_meanMakeready (wsH yL_meanMakeready cL_meanMakeready 3 (some .int) [(0, 7, 10, 95)]) rmL_meanMakeready 1 6 G [.ref a0, .ref a1] S post := by
  refine ch_open RL rfl (by decide +kernel) (Nat.le_of_ble_eq_true rfl) ?_
  intro p e s m args below meth c A X h hr hTab ls hl
  have hl : lv_has ls 3 [(0, .ref a0), (1, .ref a1)] := hl
  have hx := X.1
  have hb := X.2.1
  have hown := X.2.2.2.1
  unfold wpL_meanMakeready at hw
  refine lv_aload_n hx hb dL_meanMakeready_0 rfl (lv_at hl 1 rfl) ?_
  refine lv_iconst (v := (nI 0)) hx hb dL_meanMakeready_1 (by decide) ?_
  refine lv_aload_n hx hb dL_meanMakeready_2 rfl (lv_at hl 0 rfl) ?_
  obtain ⟨k2, hw⟩ := hw
  refine rx_VH (As := []) (rest := [.int (nI 0), .ref a1]) X h k2 (by decide) rfl (meX6_meanMakeready l hl9 G _ _ _ _ hw) gV_L_97 rfl rfl hdV_X6_meanMakeready rfl ⟨Nat.le_of_ble_eq_true rfl, Nat.le_of_ble_eq_true rfl⟩ hl.1 rfl (Nat.le_of_ble_eq_true rfl) ⟨Nat.le_of_ble_eq_true rfl, Nat.le_of_ble_eq_true rfl⟩ dL_meanMakeready_3 (fun k4 S5 H locs q9 ce hw h hce hcv hcl => ?_) (fun x3 S1 H locs hw h => ?_)
  · rcases hw.2 with hk9
    · subst hk9
      have hw := hw.1 rfl
      refine vx_catch (own := RL) (name := "java/lang/ArithmeticException") (E := xn 6) hown [] ⟨0, 7, 10, 95⟩ [] (by rw [hTab]; rfl) (fun z hz => nomatch hz) (by decide) (by decide) (X.hts q814) (va_Nw.use (by rfl) (X.nw q826)) hce hcv hcl ?_
      refine lv_astore_n (lv' := [(2, .ref q9), (0, .ref a0), (1, .ref a1)]) hx hb dL_meanMakeready_10 rfl hl (by decide) rfl (fun ls hl => ?_)
      refine lv_iconst (v := (nI 1)) hx hb dL_meanMakeready_11 (by decide) ?_
      exact (en_i X h hr hw (Nat.le_of_ble_eq_true rfl) (Nat.le_of_ble_eq_true rfl) dL_meanMakeready_12)
  · obtain ⟨k6, hw⟩ := hw
    obtain ⟨v7, hw⟩ := hw
    refine r_dast X h k6 v7 dL_meanMakeready_6 (fun H locs h => ?_)
    obtain ⟨S8, eS8⟩ : ∃ z : Mem, z = (sD S1 a1 (nI 0).toNatClampNeg x3) := ⟨_, rfl⟩
    rw [← eS8] at h
    have hw := hw S8 eS8
    refine lv_goto (tgt := 13) hx hb dL_meanMakeready_7 (by decide) ?_
    refine lv_iconst (v := (nI 0)) hx hb dL_meanMakeready_13 (by decide) ?_
    exact (en_i X h hr hw (Nat.le_of_ble_eq_true rfl) (Nat.le_of_ble_eq_true rfl) dL_meanMakeready_14)
abbrev rmX7_meanMakeready : Room := { frames := 0, cells := 0, slots := 0, locals := 0 }
def wpX7_meanMakeready (S : Mem) (a0 : Nat) (post : UInt64 → Mem → Prop) : Prop := isK S a0 7 ∧ ((¬ (mI S a0 5) = 0 → (∀ S3 : Mem, S3 = (sI S a0 0 (nI 0)) → ((¬ (mI S3 a0 5) = 0 → (vf_n64 (FP.ddiv (FP.i2d (mI S3 a0 6)) (FP.i2d (mI S3 a0 5))) ∧ (post (FP.ddiv (FP.i2d (mI S3 a0 6)) (FP.i2d (mI S3 a0 5))) S3))) ∧ ((mI S3 a0 5) = 0 → (post FP.dconst0 S3))))) ∧ ((mI S a0 5) = 0 → (∀ S6 : Mem, S6 = (sI S a0 0 (nI 1)) → ((¬ (mI S6 a0 5) = 0 → (vf_n64 (FP.ddiv (FP.i2d (mI S6 a0 6)) (FP.i2d (mI S6 a0 5))) ∧ (post (FP.ddiv (FP.i2d (mI S6 a0 6)) (FP.i2d (mI S6 a0 5))) S6))) ∧ ((mI S6 a0 5) = 0 → (post FP.dconst0 S6))))))
set_option maxHeartbeats 4000000 in
set_option maxRecDepth 100000 in
theorem meX7_meanMakeready (l : Launch) (G : GT) (S : Mem) (a0 : Nat) (post : UInt64 → Mem → Prop) (hw : wpX7_meanMakeready S a0 post) : CN emD l yX7_meanMakeready (wsU yX7_meanMakeready cX7_meanMakeready 1 (some .double)) rmX7_meanMakeready 0 0 G [.ref a0] S post := by
  refine cn_open RX7 rfl (by decide +kernel) (Nat.le_of_ble_eq_true rfl) ?_
  intro p e s m args below meth c A X h hr hin ls hl
  have hl : lv_has ls 1 [(0, .ref a0)] := hl
  have hx := X.1
  have hb := X.2.1
  have hown := X.2.2.2.1
  unfold wpX7_meanMakeready at hw
  refine lv_aload_n hx hb dX7_meanMakeready_0 rfl (lv_at hl 0 rfl) ?_
  refine lv_aload_n hx hb dX7_meanMakeready_1 rfl (lv_at hl 0 rfl) ?_
  obtain ⟨k1, hw⟩ := hw
  refine r_getI X h k1 5  (by decide) rfl inX7 (by decide) rfl q853 rfl dX7_meanMakeready_2 ?_
  refine lv_if_ne (tgt := 12) hx hb dX7_meanMakeready_5 (by decide) (fun c2 => ?_) (fun c2 => ?_)
  · have hw := hw.1 c2
    refine lv_iconst (v := (nI 0)) hx hb dX7_meanMakeready_12 (by decide) ?_
    refine r_putI X h k1 0 (by decide) rfl inX7 tyX7 tyX7_ok nmX7 (by decide) rfl (Nat.le_of_ble_eq_true rfl) q848 rfl rfl (tyX7_ok 0 (by decide)) rfl rfl dX7_meanMakeready_13 (fun H locs h => ?_)
    obtain ⟨S3, eS3⟩ : ∃ z : Mem, z = (sI S a0 0 (nI 0)) := ⟨_, rfl⟩
    rw [← eS3] at h
    have hw := hw S3 eS3
    refine lv_aload_n hx hb dX7_meanMakeready_16 rfl (lv_at hl 0 rfl) ?_
    refine r_getI X h (kI eS3 k1) 5  (by decide) rfl inX7 (by decide) rfl q853 rfl dX7_meanMakeready_17 ?_
    refine lv_if_ne (tgt := 27) hx hb dX7_meanMakeready_20 (by decide) (fun c4 => ?_) (fun c4 => ?_)
    · have hw := hw.1 c4
      refine lv_aload_n hx hb dX7_meanMakeready_27 rfl (lv_at hl 0 rfl) ?_
      refine r_getI X h (kI eS3 k1) 6  (by decide) rfl inX7 (by decide) rfl q854 rfl dX7_meanMakeready_28 ?_
      refine lv_i2d hx hb dX7_meanMakeready_31 ?_
      refine lv_aload_n hx hb dX7_meanMakeready_32 rfl (lv_at hl 0 rfl) ?_
      refine r_getI X h (kI eS3 k1) 5  (by decide) rfl inX7 (by decide) rfl q853 rfl dX7_meanMakeready_33 ?_
      refine lv_i2d hx hb dX7_meanMakeready_36 ?_
      obtain ⟨z5, hw⟩ := hw
      refine lv_ddiv hx hb dX7_meanMakeready_37 z5 ?_
      exact (en_d X h hr hw (Nat.le_of_ble_eq_true rfl) (Nat.le_of_ble_eq_true rfl) dX7_meanMakeready_38)
    · have hw := hw.2 c4
      refine lv_dconst0 hx hb dX7_meanMakeready_23 ?_
      refine lv_goto (tgt := 38) hx hb dX7_meanMakeready_24 (by decide) ?_
      exact (en_d X h hr hw (Nat.le_of_ble_eq_true rfl) (Nat.le_of_ble_eq_true rfl) dX7_meanMakeready_38)
  · have hw := hw.2 c2
    refine lv_iconst (v := (nI 1)) hx hb dX7_meanMakeready_8 (by decide) ?_
    refine lv_goto (tgt := 13) hx hb dX7_meanMakeready_9 (by decide) ?_
    refine r_putI X h k1 0 (by decide) rfl inX7 tyX7 tyX7_ok nmX7 (by decide) rfl (Nat.le_of_ble_eq_true rfl) q848 rfl rfl (tyX7_ok 0 (by decide)) rfl rfl dX7_meanMakeready_13 (fun H locs h => ?_)
    obtain ⟨S6, eS6⟩ : ∃ z : Mem, z = (sI S a0 0 (nI 1)) := ⟨_, rfl⟩
    rw [← eS6] at h
    have hw := hw S6 eS6
    refine lv_aload_n hx hb dX7_meanMakeready_16 rfl (lv_at hl 0 rfl) ?_
    refine r_getI X h (kI eS6 k1) 5  (by decide) rfl inX7 (by decide) rfl q853 rfl dX7_meanMakeready_17 ?_
    refine lv_if_ne (tgt := 27) hx hb dX7_meanMakeready_20 (by decide) (fun c7 => ?_) (fun c7 => ?_)
    · have hw := hw.1 c7
      refine lv_aload_n hx hb dX7_meanMakeready_27 rfl (lv_at hl 0 rfl) ?_
      refine r_getI X h (kI eS6 k1) 6  (by decide) rfl inX7 (by decide) rfl q854 rfl dX7_meanMakeready_28 ?_
      refine lv_i2d hx hb dX7_meanMakeready_31 ?_
      refine lv_aload_n hx hb dX7_meanMakeready_32 rfl (lv_at hl 0 rfl) ?_
      refine r_getI X h (kI eS6 k1) 5  (by decide) rfl inX7 (by decide) rfl q853 rfl dX7_meanMakeready_33 ?_
      refine lv_i2d hx hb dX7_meanMakeready_36 ?_
      obtain ⟨z8, hw⟩ := hw
      refine lv_ddiv hx hb dX7_meanMakeready_37 z8 ?_
      exact (en_d X h hr hw (Nat.le_of_ble_eq_true rfl) (Nat.le_of_ble_eq_true rfl) dX7_meanMakeready_38)
    · have hw := hw.2 c7
      refine lv_dconst0 hx hb dX7_meanMakeready_23 ?_
      refine lv_goto (tgt := 38) hx hb dX7_meanMakeready_24 (by decide) ?_
      exact (en_d X h hr hw (Nat.le_of_ble_eq_true rfl) (Nat.le_of_ble_eq_true rfl) dX7_meanMakeready_38)
