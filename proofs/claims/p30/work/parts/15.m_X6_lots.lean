abbrev rmX6_lots : Room := { frames := 0, cells := 0, slots := 0, locals := 0 }
def wpX6_lots (S : Mem) (a0 : Nat) (post : Int32 → Mem → Prop) : Prop := isK S a0 6 ∧ (post (mI S a0 7) S)
set_option maxHeartbeats 4000000 in
set_option maxRecDepth 100000 in
theorem meX6_lots (l : Launch) (G : GT) (S : Mem) (a0 : Nat) (post : Int32 → Mem → Prop) (hw : wpX6_lots S a0 post) : CN emI l yX6_lots (wsU yX6_lots cX6_lots 1 (some .int)) rmX6_lots 0 0 G [.ref a0] S post := by
  refine cn_open RX6 rfl (by decide +kernel) (Nat.le_of_ble_eq_true rfl) ?_
  intro p e s m args below meth c A X h hr hin ls hl
  have hl : lv_has ls 1 [(0, .ref a0)] := hl
  have hx := X.1
  have hb := X.2.1
  have hown := X.2.2.2.1
  unfold wpX6_lots at hw
  refine lv_aload_n hx hb dX6_lots_0 rfl (lv_at hl 0 rfl) ?_
  obtain ⟨k1, hw⟩ := hw
  refine r_getI X h k1 7  (by decide) rfl inX6 (by decide) rfl q127 rfl dX6_lots_1 ?_
  exact (en_i X h hr hw (Nat.le_of_ble_eq_true rfl) (Nat.le_of_ble_eq_true rfl) dX6_lots_4)
abbrev rmX6_findLot : Room := { frames := 0, cells := 0, slots := 0, locals := 0 }
def wpX6_findLot (S : Mem) (a0 : Nat) (p1 : Int32) (post : Option Nat → Mem → Prop) : Prop := (p1 < 0 → (post none S)) ∧ (¬ p1 < 0 → (isK S a0 6 ∧ (((mI S a0 7) ≤ p1 → (post none S)) ∧ (¬ (mI S a0 7) ≤ p1 → (∃ o4, mR S a0 5 = some o4 ∧ (isK S o4 11 ∧ (((nI (mN S o4)) ≤ p1 → (post none S)) ∧ (¬ (nI (mN S o4)) ≤ p1 → (vp_in p1 (mN S o4) ∧ ((mR S o4 p1.toNatClampNeg = none → (post none S)) ∧ (∀ o8, mR S o4 p1.toNatClampNeg = some o8 → (post (some o8) S))))))))))))
set_option maxHeartbeats 4000000 in
set_option maxRecDepth 100000 in
theorem meX6_findLot (l : Launch) (G : GT) (S : Mem) (a0 : Nat) (p1 : Int32) (post : Option Nat → Mem → Prop) (hw : wpX6_findLot S a0 p1 post) : CN emR l yX6_findLot (wsU yX6_findLot cX6_findLot 2 (some (.object "BinderyDesk$Lot"))) rmX6_findLot 0 0 G [.ref a0, .int p1] S post := by
  refine cn_open RX6 rfl (by decide +kernel) (Nat.le_of_ble_eq_true rfl) ?_
  intro p e s m args below meth c A X h hr hin ls hl
  have hl : lv_has ls 2 [(0, .ref a0), (1, .int p1)] := hl
  have hx := X.1
  have hb := X.2.1
  have hown := X.2.2.2.1
  unfold wpX6_findLot at hw
  refine lv_iload_n hx hb dX6_findLot_0 rfl (lv_at hl 1 rfl) ?_
  refine lv_if_lt (tgt := 30) hx hb dX6_findLot_1 (by decide) (fun c1 => ?_) (fun c1 => ?_)
  · have hw := hw.1 c1
    refine lv_null hx hb dX6_findLot_30 ?_
    exact (en_r (r := none) X h rfl hr hw (Nat.le_of_ble_eq_true rfl) (Nat.le_of_ble_eq_true rfl) dX6_findLot_31)
  · have hw := hw.2 c1
    refine lv_iload_n hx hb dX6_findLot_4 rfl (lv_at hl 1 rfl) ?_
    refine lv_aload_n hx hb dX6_findLot_5 rfl (lv_at hl 0 rfl) ?_
    obtain ⟨k2, hw⟩ := hw
    refine r_getI X h k2 7  (by decide) rfl inX6 (by decide) rfl q127 rfl dX6_findLot_6 ?_
    refine lv_icmp_ge (tgt := 30) hx hb dX6_findLot_9 (by decide) (fun c3 => ?_) (fun c3 => ?_)
    · have hw := hw.1 c3
      refine lv_null hx hb dX6_findLot_30 ?_
      exact (en_r (r := none) X h rfl hr hw (Nat.le_of_ble_eq_true rfl) (Nat.le_of_ble_eq_true rfl) dX6_findLot_31)
    · have hw := hw.2 c3
      refine lv_iload_n hx hb dX6_findLot_12 rfl (lv_at hl 1 rfl) ?_
      refine lv_aload_n hx hb dX6_findLot_13 rfl (lv_at hl 0 rfl) ?_
      obtain ⟨o4, eo4, hw⟩ := hw
      refine r_getR X h k2 5 eo4  (by decide) rfl inX6 (by decide) rfl q125 rfl dX6_findLot_14 ?_
      obtain ⟨k5, hw⟩ := hw
      refine r_alen X h k5 (by decide) dX6_findLot_17 ?_
      refine lv_icmp_ge (tgt := 30) hx hb dX6_findLot_18 (by decide) (fun c6 => ?_) (fun c6 => ?_)
      · have hw := hw.1 c6
        refine lv_null hx hb dX6_findLot_30 ?_
        exact (en_r (r := none) X h rfl hr hw (Nat.le_of_ble_eq_true rfl) (Nat.le_of_ble_eq_true rfl) dX6_findLot_31)
      · have hw := hw.2 c6
        refine lv_aload_n hx hb dX6_findLot_21 rfl (lv_at hl 0 rfl) ?_
        refine r_getR X h k2 5 eo4  (by decide) rfl inX6 (by decide) rfl q125 rfl dX6_findLot_22 ?_
        refine lv_iload_n hx hb dX6_findLot_25 rfl (lv_at hl 1 rfl) ?_
        obtain ⟨v7, hw⟩ := hw
        rcases hqo8 : mR S o4 p1.toNatClampNeg with _ | o8
        · have hw := hw.1 hqo8
          refine r_aldLot (r := none) X h k5 v7 hqo8 dX6_findLot_26 ?_
          refine lv_goto (tgt := 31) hx hb dX6_findLot_27 (by decide) ?_
          exact (en_r (r := none) X h rfl hr hw (Nat.le_of_ble_eq_true rfl) (Nat.le_of_ble_eq_true rfl) dX6_findLot_31)
        · have hw := hw.2 o8 hqo8
          refine r_aldLot (r := some o8) X h k5 v7 hqo8 dX6_findLot_26 ?_
          refine lv_goto (tgt := 31) hx hb dX6_findLot_27 (by decide) ?_
          exact (en_r (r := (some o8)) X h rfl hr hw (Nat.le_of_ble_eq_true rfl) (Nat.le_of_ble_eq_true rfl) dX6_findLot_31)
abbrev rmX6_existingLot : Room := { frames := 6, cells := 1, slots := 6, locals := 90 }
def wpX6_existingLot (S : Mem) (a0 : Nat) (p1 : Int32) (post : Option Nat → Mem → Prop) (px : Nat → Mem → Prop) : Prop := isK S a0 6 ∧ (wpX6_findLot S a0 p1 (fun r3 S1 => (r3 = none → (px 1 S1)) ∧ (∀ o4, r3 = some o4 → (post (some o4) S1))))
set_option maxHeartbeats 4000000 in
set_option maxRecDepth 100000 in
theorem meX6_existingLot (l : Launch) (hl9 : l.stackTraces = false) (G : GT) (S : Mem) (a0 : Nat) (p1 : Int32) (post : Option Nat → Mem → Prop) (px : Nat → Mem → Prop) (hw : wpX6_existingLot S a0 p1 post px) : CX emR l yX6_existingLot (wsU yX6_existingLot cX6_existingLot 3 (some (.object "BinderyDesk$Lot"))) rmX6_existingLot 1 6 G [.ref a0, .int p1] S post px := by
  refine cx_open RX6 rfl (by decide +kernel) (Nat.le_of_ble_eq_true rfl) ?_
  intro p e s m args below meth c A X h hr hno ls hl
  have hl : lv_has ls 3 [(0, .ref a0), (1, .int p1)] := hl
  have hx := X.1
  have hb := X.2.1
  have hown := X.2.2.2.1
  unfold wpX6_existingLot at hw
  refine lv_aload_n hx hb dX6_existingLot_0 rfl (lv_at hl 0 rfl) ?_
  refine lv_iload_n hx hb dX6_existingLot_1 rfl (lv_at hl 1 rfl) ?_
  obtain ⟨k2, hw⟩ := hw
  refine rc_V (As := [.int p1]) (rest := []) X h k2 (by decide) rfl (meX6_findLot l G _ _ _ _ hw) gV_X6_266 rfl rfl hdV_X6_findLot rfl ⟨Nat.le_of_ble_eq_true rfl, Nat.le_of_ble_eq_true rfl⟩ hl.1 rfl (Nat.le_of_ble_eq_true rfl) ⟨Nat.le_of_ble_eq_true rfl, Nat.le_of_ble_eq_true rfl⟩ dX6_existingLot_2 (fun r3 S1 H locs hw h => ?_)
  rcases r3 with _ | o4
  · have hw := hw.1 rfl
    refine lv_astore_nN (lv' := [(2, .null), (0, .ref a0), (1, .int p1)]) hx hb dX6_existingLot_5 rfl hl (by decide) rfl (fun ls hl => ?_)
    refine lv_aload_nN hx hb dX6_existingLot_6 rfl (lv_at hl 0 rfl) ?_
    refine lv_ifnonnullN hx hb dX6_existingLot_7 ?_
    exact en_xW 1 X h hl9 th_X6_295 hl.1 hno dX6_existingLot_10 dX6_existingLot_13 dX6_existingLot_14 dX6_existingLot_17 dX6_existingLot_20 ⟨Nat.le_of_ble_eq_true rfl, Nat.le_of_ble_eq_true rfl⟩ ⟨Nat.le_of_ble_eq_true rfl, Nat.le_of_ble_eq_true rfl⟩ ⟨Nat.le_of_ble_eq_true rfl, Nat.le_of_ble_eq_true rfl⟩ hw
  · have hw := hw.2 o4 rfl
    refine lv_astore_n (lv' := [(2, .ref o4), (0, .ref a0), (1, .int p1)]) hx hb dX6_existingLot_5 rfl hl (by decide) rfl (fun ls hl => ?_)
    refine lv_aload_n hx hb dX6_existingLot_6 rfl (lv_at hl 0 rfl) ?_
    refine lv_ifnonnull (tgt := 21) hx hb dX6_existingLot_7 (by decide) ?_
    refine lv_aload_n hx hb dX6_existingLot_21 rfl (lv_at hl 0 rfl) ?_
    exact vx_ret (en_r (r := (some o4)) X h rfl hr hw (Nat.le_of_ble_eq_true rfl) (Nat.le_of_ble_eq_true rfl) dX6_existingLot_22)
abbrev rmX6_existingLotn : Room := { frames := 1, cells := 0, slots := 0, locals := 21 }
def wpX6_existingLotn (S : Mem) (a0 : Nat) (p1 : Int32) (post : Option Nat → Mem → Prop) : Prop := isK S a0 6 ∧ (wpX6_findLot S a0 p1 (fun r3 S1 => (r3 = none → (False)) ∧ (∀ o4, r3 = some o4 → (post (some o4) S1))))
set_option maxHeartbeats 4000000 in
set_option maxRecDepth 100000 in
theorem meX6_existingLotn (l : Launch) (G : GT) (S : Mem) (a0 : Nat) (p1 : Int32) (post : Option Nat → Mem → Prop) (hw : wpX6_existingLotn S a0 p1 post) : CN emR l yX6_existingLot (wsU yX6_existingLot cX6_existingLot 3 (some (.object "BinderyDesk$Lot"))) rmX6_existingLotn 0 0 G [.ref a0, .int p1] S post := by
  refine cn_open RX6 rfl (by decide +kernel) (Nat.le_of_ble_eq_true rfl) ?_
  intro p e s m args below meth c A X h hr hin ls hl
  have hl : lv_has ls 3 [(0, .ref a0), (1, .int p1)] := hl
  have hx := X.1
  have hb := X.2.1
  have hown := X.2.2.2.1
  unfold wpX6_existingLotn at hw
  refine lv_aload_n hx hb dX6_existingLot_0 rfl (lv_at hl 0 rfl) ?_
  refine lv_iload_n hx hb dX6_existingLot_1 rfl (lv_at hl 1 rfl) ?_
  obtain ⟨k2, hw⟩ := hw
  refine rc_V (As := [.int p1]) (rest := []) X h k2 (by decide) rfl (meX6_findLot l G _ _ _ _ hw) gV_X6_266 rfl rfl hdV_X6_findLot rfl ⟨Nat.le_of_ble_eq_true rfl, Nat.le_of_ble_eq_true rfl⟩ hl.1 rfl (Nat.le_of_ble_eq_true rfl) ⟨Nat.le_of_ble_eq_true rfl, Nat.le_of_ble_eq_true rfl⟩ dX6_existingLot_2 (fun r3 S1 H locs hw h => ?_)
  rcases r3 with _ | o4
  · have hw := hw.1 rfl
    refine lv_astore_nN (lv' := [(2, .null), (0, .ref a0), (1, .int p1)]) hx hb dX6_existingLot_5 rfl hl (by decide) rfl (fun ls hl => ?_)
    refine lv_aload_nN hx hb dX6_existingLot_6 rfl (lv_at hl 0 rfl) ?_
    refine lv_ifnonnullN hx hb dX6_existingLot_7 ?_
    exact hw.elim
  · have hw := hw.2 o4 rfl
    refine lv_astore_n (lv' := [(2, .ref o4), (0, .ref a0), (1, .int p1)]) hx hb dX6_existingLot_5 rfl hl (by decide) rfl (fun ls hl => ?_)
    refine lv_aload_n hx hb dX6_existingLot_6 rfl (lv_at hl 0 rfl) ?_
    refine lv_ifnonnull (tgt := 21) hx hb dX6_existingLot_7 (by decide) ?_
    refine lv_aload_n hx hb dX6_existingLot_21 rfl (lv_at hl 0 rfl) ?_
    exact (en_r (r := (some o4)) X h rfl hr hw (Nat.le_of_ble_eq_true rfl) (Nat.le_of_ble_eq_true rfl) dX6_existingLot_22)
abbrev rmX6_requirePage : Room := { frames := 6, cells := 1, slots := 6, locals := 90 }
def wpX6_requirePage (S : Mem) (a0 : Nat) (p1 : Int32) (post : Unit → Mem → Prop) (px : Nat → Mem → Prop) : Prop := (p1 < (nI 1) → (px 3 S)) ∧ (¬ p1 < (nI 1) → (isK S a0 2 ∧ ((p1 ≤ (mI S a0 1) → (post () S)) ∧ (¬ p1 ≤ (mI S a0 1) → (px 3 S)))))
set_option maxHeartbeats 4000000 in
set_option maxRecDepth 100000 in
theorem meX6_requirePage (l : Launch) (hl9 : l.stackTraces = false) (G : GT) (S : Mem) (a0 : Nat) (p1 : Int32) (post : Unit → Mem → Prop) (px : Nat → Mem → Prop) (hw : wpX6_requirePage S a0 p1 post px) : CX emV l yX6_requirePage (wsU yX6_requirePage cX6_requirePage 2 none) rmX6_requirePage 1 6 G [.ref a0, .int p1] S post px := by
  refine cx_open RX6 rfl (by decide +kernel) (Nat.le_of_ble_eq_true rfl) ?_
  intro p e s m args below meth c A X h hr hno ls hl
  have hl : lv_has ls 2 [(0, .ref a0), (1, .int p1)] := hl
  have hx := X.1
  have hb := X.2.1
  have hown := X.2.2.2.1
  unfold wpX6_requirePage at hw
  refine lv_iload_n hx hb dX6_requirePage_0 rfl (lv_at hl 1 rfl) ?_
  refine lv_iconst (v := (nI 1)) hx hb dX6_requirePage_1 (by decide) ?_
  refine lv_icmp_lt (tgt := 13) hx hb dX6_requirePage_2 (by decide) (fun c1 => ?_) (fun c1 => ?_)
  · have hw := hw.1 c1
    exact en_yW ta_X6_138d0 ta_X6_138d1 ta_X6_138d2 ta_X6_138d5 3 X h hl9 th_X6_298 hl.1 hno dX6_requirePage_13 dX6_requirePage_16 dX6_requirePage_17 dX6_requirePage_20 dX6_requirePage_23 ⟨Nat.le_of_ble_eq_true rfl, Nat.le_of_ble_eq_true rfl⟩ ⟨Nat.le_of_ble_eq_true rfl, Nat.le_of_ble_eq_true rfl⟩ ⟨Nat.le_of_ble_eq_true rfl, Nat.le_of_ble_eq_true rfl⟩ hw
  · have hw := hw.2 c1
    refine lv_iload_n hx hb dX6_requirePage_5 rfl (lv_at hl 1 rfl) ?_
    refine lv_aload_n hx hb dX6_requirePage_6 rfl (lv_at hl 0 rfl) ?_
    obtain ⟨k2, hw⟩ := hw
    refine r_getIN X h k2 1  (by decide) rfl inX2 (by decide) rfl q629 rfl dX6_requirePage_7 ?_
    refine lv_icmp_le (tgt := 24) hx hb dX6_requirePage_10 (by decide) (fun c3 => ?_) (fun c3 => ?_)
    · have hw := hw.1 c3
      exact vx_ret (en_v X h hr hw (Nat.le_of_ble_eq_true rfl) (Nat.le_of_ble_eq_true rfl) dX6_requirePage_24)
    · have hw := hw.2 c3
      exact en_yW ta_X6_138d0 ta_X6_138d1 ta_X6_138d2 ta_X6_138d5 3 X h hl9 th_X6_298 hl.1 hno dX6_requirePage_13 dX6_requirePage_16 dX6_requirePage_17 dX6_requirePage_20 dX6_requirePage_23 ⟨Nat.le_of_ble_eq_true rfl, Nat.le_of_ble_eq_true rfl⟩ ⟨Nat.le_of_ble_eq_true rfl, Nat.le_of_ble_eq_true rfl⟩ ⟨Nat.le_of_ble_eq_true rfl, Nat.le_of_ble_eq_true rfl⟩ hw
abbrev rmX6_requirePagen : Room := { frames := 0, cells := 0, slots := 0, locals := 0 }
def wpX6_requirePagen (S : Mem) (a0 : Nat) (p1 : Int32) (post : Unit → Mem → Prop) : Prop := (p1 < (nI 1) → (False)) ∧ (¬ p1 < (nI 1) → (isK S a0 2 ∧ ((p1 ≤ (mI S a0 1) → (post () S)) ∧ (¬ p1 ≤ (mI S a0 1) → (False)))))
set_option maxHeartbeats 4000000 in
set_option maxRecDepth 100000 in
theorem meX6_requirePagen (l : Launch) (G : GT) (S : Mem) (a0 : Nat) (p1 : Int32) (post : Unit → Mem → Prop) (hw : wpX6_requirePagen S a0 p1 post) : CN emV l yX6_requirePage (wsU yX6_requirePage cX6_requirePage 2 none) rmX6_requirePagen 0 0 G [.ref a0, .int p1] S post := by
  refine cn_open RX6 rfl (by decide +kernel) (Nat.le_of_ble_eq_true rfl) ?_
  intro p e s m args below meth c A X h hr hin ls hl
  have hl : lv_has ls 2 [(0, .ref a0), (1, .int p1)] := hl
  have hx := X.1
  have hb := X.2.1
  have hown := X.2.2.2.1
  unfold wpX6_requirePagen at hw
  refine lv_iload_n hx hb dX6_requirePage_0 rfl (lv_at hl 1 rfl) ?_
  refine lv_iconst (v := (nI 1)) hx hb dX6_requirePage_1 (by decide) ?_
  refine lv_icmp_lt (tgt := 13) hx hb dX6_requirePage_2 (by decide) (fun c1 => ?_) (fun c1 => ?_)
  · have hw := hw.1 c1
    exact hw.elim
  · have hw := hw.2 c1
    refine lv_iload_n hx hb dX6_requirePage_5 rfl (lv_at hl 1 rfl) ?_
    refine lv_aload_n hx hb dX6_requirePage_6 rfl (lv_at hl 0 rfl) ?_
    obtain ⟨k2, hw⟩ := hw
    refine r_getIN X h k2 1  (by decide) rfl inX2 (by decide) rfl q629 rfl dX6_requirePage_7 ?_
    refine lv_icmp_le (tgt := 24) hx hb dX6_requirePage_10 (by decide) (fun c3 => ?_) (fun c3 => ?_)
    · have hw := hw.1 c3
      exact (en_v X h hr hw (Nat.le_of_ble_eq_true rfl) (Nat.le_of_ble_eq_true rfl) dX6_requirePage_24)
    · have hw := hw.2 c3
      exact hw.elim
abbrev rmX2_keptState : Room := { frames := 1, cells := 0, slots := 0, locals := 21 }
def wpX2_keptState (S : Mem) (a0 : Nat) (p1 : Int32) (post : Int32 → Mem → Prop) : Prop := isK S a0 2 ∧ (∃ o2, mR S a0 4 = some o2 ∧ (wpX6_at S o2 (p1 - (nI 1)) (fun x4 S3 => post x4 S3)))
set_option maxHeartbeats 4000000 in
set_option maxRecDepth 100000 in
theorem meX2_keptState (l : Launch) (G : GT) (S : Mem) (a0 : Nat) (p1 : Int32) (post : Int32 → Mem → Prop) (hw : wpX2_keptState S a0 p1 post) : CN emI l yX2_keptState (wsU yX2_keptState cX2_keptState 2 (some .int)) rmX2_keptState 0 0 G [.ref a0, .int p1] S post := by
  refine cn_open RX2 rfl (by decide +kernel) (Nat.le_of_ble_eq_true rfl) ?_
  intro p e s m args below meth c A X h hr hin ls hl
  have hl : lv_has ls 2 [(0, .ref a0), (1, .int p1)] := hl
  have hx := X.1
  have hb := X.2.1
  have hown := X.2.2.2.1
  unfold wpX2_keptState at hw
  refine lv_aload_n hx hb dX2_keptState_0 rfl (lv_at hl 0 rfl) ?_
  obtain ⟨k1, hw⟩ := hw
  obtain ⟨o2, eo2, hw⟩ := hw
  refine r_getR X h k1 4 eo2  (by decide) rfl inX2 (by decide) rfl q633 rfl dX2_keptState_1 ?_
  refine lv_iload_n hx hb dX2_keptState_4 rfl (lv_at hl 1 rfl) ?_
  refine lv_iconst (v := (nI 1)) hx hb dX2_keptState_5 (by decide) ?_
  refine lv_isub hx hb dX2_keptState_6 ?_
  refine rc_SN (As := [.ref o2, .int (p1 - (nI 1))]) (rest := []) X h (meX6_at l G _ _ _ _ hw) gU_X2_32 q696 q14 q312 rfl rfl hdS_X6_at rfl ⟨Nat.le_of_ble_eq_true rfl, Nat.le_of_ble_eq_true rfl⟩ hl.1 rfl (Nat.le_of_ble_eq_true rfl) ⟨Nat.le_of_ble_eq_true rfl, Nat.le_of_ble_eq_true rfl⟩ dX2_keptState_7 (fun x4 S3 H locs hw h => ?_)
  exact (en_i X h hr hw (Nat.le_of_ble_eq_true rfl) (Nat.le_of_ble_eq_true rfl) dX2_keptState_10)
abbrev rmX6_stateIn : Room := { frames := 7, cells := 2, slots := 12, locals := 112 }
def wpX6_stateIn (S : Mem) (a0 : Nat) (p1 : Int32) (p2 : Int32) (post : Int32 → Mem → Prop) (px : Nat → Mem → Prop) : Prop := isK S a0 6 ∧ (wpX6_existingLot S a0 p1 (fun r3 S1 => ∃ o4, r3 = some o4 ∧ (wpX6_requirePage S1 o4 p2 (fun u6 S5 => isK S5 o4 2 ∧ (wpX2_keptState S5 o4 p2 (fun x9 S7 => post x9 S7))) px)) px)
set_option maxHeartbeats 4000000 in
set_option maxRecDepth 100000 in
theorem meX6_stateIn (l : Launch) (hl9 : l.stackTraces = false) (G : GT) (S : Mem) (a0 : Nat) (p1 : Int32) (p2 : Int32) (post : Int32 → Mem → Prop) (px : Nat → Mem → Prop) (hw : wpX6_stateIn S a0 p1 p2 post px) : CX emI l yX6_stateIn (wsU yX6_stateIn cX6_stateIn 4 (some .int)) rmX6_stateIn 2 12 G [.ref a0, .int p1, .int p2] S post px := by
  refine cx_open RX6 rfl (by decide +kernel) (Nat.le_of_ble_eq_true rfl) ?_
  intro p e s m args below meth c A X h hr hno ls hl
  have hl : lv_has ls 4 [(0, .ref a0), (1, .int p1), (2, .int p2)] := hl
  have hx := X.1
  have hb := X.2.1
  have hown := X.2.2.2.1
  unfold wpX6_stateIn at hw
  refine lv_aload_n hx hb dX6_stateIn_0 rfl (lv_at hl 0 rfl) ?_
  refine lv_iload_n hx hb dX6_stateIn_1 rfl (lv_at hl 1 rfl) ?_
  obtain ⟨k2, hw⟩ := hw
  refine rx_V (As := [.int p1]) (rest := []) X h hno k2 (by decide) rfl (meX6_existingLot l hl9 G _ _ _ _ _ hw) gV_X6_243 rfl rfl hdV_X6_existingLot rfl ⟨Nat.le_of_ble_eq_true rfl, Nat.le_of_ble_eq_true rfl⟩ hl.1 rfl (Nat.le_of_ble_eq_true rfl) ⟨Nat.le_of_ble_eq_true rfl, Nat.le_of_ble_eq_true rfl⟩ ⟨Nat.le_of_ble_eq_true rfl, Nat.le_of_ble_eq_true rfl⟩ dX6_stateIn_2 (fun r3 S1 H locs hw h => ?_)
  obtain ⟨o4, rfl, hw⟩ := hw
  refine lv_astore_n (lv' := [(3, .ref o4), (0, .ref a0), (1, .int p1), (2, .int p2)]) hx hb dX6_stateIn_5 rfl hl (by decide) rfl (fun ls hl => ?_)
  refine lv_aload_n hx hb dX6_stateIn_6 rfl (lv_at hl 0 rfl) ?_
  refine lv_iload_n hx hb dX6_stateIn_7 rfl (lv_at hl 3 rfl) ?_
  refine rx_S (As := [.ref o4, .int p2]) (rest := []) X h hno (meX6_requirePage l hl9 G _ _ _ _ _ hw) gS_X6_250 rfl rfl hdS_X6_requirePage rfl ⟨Nat.le_of_ble_eq_true rfl, Nat.le_of_ble_eq_true rfl⟩ hl.1 rfl (Nat.le_of_ble_eq_true rfl) ⟨Nat.le_of_ble_eq_true rfl, Nat.le_of_ble_eq_true rfl⟩ ⟨Nat.le_of_ble_eq_true rfl, Nat.le_of_ble_eq_true rfl⟩ dX6_stateIn_8 (fun u6 S5 H locs hw h => ?_)
  refine lv_aload_n hx hb dX6_stateIn_11 rfl (lv_at hl 0 rfl) ?_
  refine lv_iload_n hx hb dX6_stateIn_12 rfl (lv_at hl 3 rfl) ?_
  obtain ⟨k8, hw⟩ := hw
  refine rc_V (As := [.int p2]) (rest := []) X h k8 (by decide) rfl (meX2_keptState l G _ _ _ _ hw) gV_X6_254 rfl rfl hdV_X2_keptState rfl ⟨Nat.le_of_ble_eq_true rfl, Nat.le_of_ble_eq_true rfl⟩ hl.1 rfl (Nat.le_of_ble_eq_true rfl) ⟨Nat.le_of_ble_eq_true rfl, Nat.le_of_ble_eq_true rfl⟩ dX6_stateIn_13 (fun x9 S7 H locs hw h => ?_)
  exact vx_ret (en_i X h hr hw (Nat.le_of_ble_eq_true rfl) (Nat.le_of_ble_eq_true rfl) dX6_stateIn_16)
abbrev rmX6_stateInn : Room := { frames := 2, cells := 0, slots := 0, locals := 43 }
def wpX6_stateInn (S : Mem) (a0 : Nat) (p1 : Int32) (p2 : Int32) (post : Int32 → Mem → Prop) : Prop := isK S a0 6 ∧ (wpX6_existingLotn S a0 p1 (fun r3 S1 => ∃ o4, r3 = some o4 ∧ (wpX6_requirePagen S1 o4 p2 (fun u6 S5 => isK S5 o4 2 ∧ (wpX2_keptState S5 o4 p2 (fun x9 S7 => post x9 S7))))))
set_option maxHeartbeats 4000000 in
set_option maxRecDepth 100000 in
theorem meX6_stateInn (l : Launch) (G : GT) (S : Mem) (a0 : Nat) (p1 : Int32) (p2 : Int32) (post : Int32 → Mem → Prop) (hw : wpX6_stateInn S a0 p1 p2 post) : CN emI l yX6_stateIn (wsU yX6_stateIn cX6_stateIn 4 (some .int)) rmX6_stateInn 0 0 G [.ref a0, .int p1, .int p2] S post := by
  refine cn_open RX6 rfl (by decide +kernel) (Nat.le_of_ble_eq_true rfl) ?_
  intro p e s m args below meth c A X h hr hin ls hl
  have hl : lv_has ls 4 [(0, .ref a0), (1, .int p1), (2, .int p2)] := hl
  have hx := X.1
  have hb := X.2.1
  have hown := X.2.2.2.1
  unfold wpX6_stateInn at hw
  refine lv_aload_n hx hb dX6_stateIn_0 rfl (lv_at hl 0 rfl) ?_
  refine lv_iload_n hx hb dX6_stateIn_1 rfl (lv_at hl 1 rfl) ?_
  obtain ⟨k2, hw⟩ := hw
  refine rc_V (As := [.int p1]) (rest := []) X h k2 (by decide) rfl (meX6_existingLotn l G _ _ _ _ hw) gV_X6_243 rfl rfl hdV_X6_existingLot rfl ⟨Nat.le_of_ble_eq_true rfl, Nat.le_of_ble_eq_true rfl⟩ hl.1 rfl (Nat.le_of_ble_eq_true rfl) ⟨Nat.le_of_ble_eq_true rfl, Nat.le_of_ble_eq_true rfl⟩ dX6_stateIn_2 (fun r3 S1 H locs hw h => ?_)
  obtain ⟨o4, rfl, hw⟩ := hw
  refine lv_astore_n (lv' := [(3, .ref o4), (0, .ref a0), (1, .int p1), (2, .int p2)]) hx hb dX6_stateIn_5 rfl hl (by decide) rfl (fun ls hl => ?_)
  refine lv_aload_n hx hb dX6_stateIn_6 rfl (lv_at hl 0 rfl) ?_
  refine lv_iload_n hx hb dX6_stateIn_7 rfl (lv_at hl 3 rfl) ?_
  refine rc_S (As := [.ref o4, .int p2]) (rest := []) X h (meX6_requirePagen l G _ _ _ _ hw) gS_X6_250 rfl rfl hdS_X6_requirePage rfl ⟨Nat.le_of_ble_eq_true rfl, Nat.le_of_ble_eq_true rfl⟩ hl.1 rfl (Nat.le_of_ble_eq_true rfl) ⟨Nat.le_of_ble_eq_true rfl, Nat.le_of_ble_eq_true rfl⟩ dX6_stateIn_8 (fun u6 S5 H locs hw h => ?_)
  refine lv_aload_n hx hb dX6_stateIn_11 rfl (lv_at hl 0 rfl) ?_
  refine lv_iload_n hx hb dX6_stateIn_12 rfl (lv_at hl 3 rfl) ?_
  obtain ⟨k8, hw⟩ := hw
  refine rc_V (As := [.int p2]) (rest := []) X h k8 (by decide) rfl (meX2_keptState l G _ _ _ _ hw) gV_X6_254 rfl rfl hdV_X2_keptState rfl ⟨Nat.le_of_ble_eq_true rfl, Nat.le_of_ble_eq_true rfl⟩ hl.1 rfl (Nat.le_of_ble_eq_true rfl) ⟨Nat.le_of_ble_eq_true rfl, Nat.le_of_ble_eq_true rfl⟩ dX6_stateIn_13 (fun x9 S7 H locs hw h => ?_)
  exact (en_i X h hr hw (Nat.le_of_ble_eq_true rfl) (Nat.le_of_ble_eq_true rfl) dX6_stateIn_16)
abbrev rmL_stateIn : Room := { frames := 8, cells := 2, slots := 12, locals := 135 }
def wpL_stateIn (S : Mem) (a0 : Nat) (p1 : Int32) (p2 : Int32) (post : Int32 → Mem → Prop) : Prop := isK S a0 6 ∧ (wpX6_stateIn S a0 p1 p2 (fun x3 S1 => post x3 S1) (fun k4 S5 => (k4 = 1 → (post (-77 : Int32) S5)) ∧ (k4 = 3 → (post (-75 : Int32) S5)) ∧ (k4 = 1 ∨ k4 = 3)))
set_option maxHeartbeats 4000000 in
set_option maxRecDepth 100000 in
theorem meL_stateIn (l : Launch) (hl9 : l.stackTraces = false) (G : GT) (S : Mem) (a0 : Nat) (p1 : Int32) (p2 : Int32) (post : Int32 → Mem → Prop) (hw : wpL_stateIn S a0 p1 p2 post) : CN emI l yL_stateIn (wsH yL_stateIn cL_stateIn 4 (some .int) [(0, 6, 7, 26), (0, 6, 11, 55)]) rmL_stateIn 2 12 G [.ref a0, .int p1, .int p2] S post := by
  refine ch_open RL rfl (by decide +kernel) (Nat.le_of_ble_eq_true rfl) ?_
  intro p e s m args below meth c A X h hr hTab ls hl
  have hl : lv_has ls 4 [(0, .ref a0), (1, .int p1), (2, .int p2)] := hl
  have hx := X.1
  have hb := X.2.1
  have hown := X.2.2.2.1
  unfold wpL_stateIn at hw
  refine lv_aload_n hx hb dL_stateIn_0 rfl (lv_at hl 0 rfl) ?_
  refine lv_iload_n hx hb dL_stateIn_1 rfl (lv_at hl 1 rfl) ?_
  refine lv_iload_n hx hb dL_stateIn_2 rfl (lv_at hl 2 rfl) ?_
  obtain ⟨k2, hw⟩ := hw
  refine rx_VH (As := [.int p1, .int p2]) (rest := []) X h k2 (by decide) rfl (meX6_stateIn l hl9 G _ _ _ _ _ _ hw) gV_L_89 rfl rfl hdV_X6_stateIn rfl ⟨Nat.le_of_ble_eq_true rfl, Nat.le_of_ble_eq_true rfl⟩ hl.1 rfl (Nat.le_of_ble_eq_true rfl) ⟨Nat.le_of_ble_eq_true rfl, Nat.le_of_ble_eq_true rfl⟩ dL_stateIn_3 (fun k4 S5 H locs q9 ce hw h hce hcv hcl => ?_) (fun x3 S1 H locs hw h => ?_)
  · rcases hw.2.2 with hk9 | hk9
    · subst hk9
      have hw := hw.1 rfl
      refine vx_catch (own := RL) (name := "java/lang/IndexOutOfBoundsException") (E := xn 1) hown [] ⟨0, 6, 7, 26⟩ [⟨0, 6, 11, 55⟩] (by rw [hTab]; rfl) (fun z hz => nomatch hz) (by decide) (by decide) (X.hts q262) (va_Nw.use (by rfl) (X.nw q296)) hce hcv hcl ?_
      refine lv_astore_n (lv' := [(3, .ref q9), (0, .ref a0), (1, .int p1), (2, .int p2)]) hx hb dL_stateIn_7 rfl hl (by decide) rfl (fun ls hl => ?_)
      refine lv_bipush (v := (-77 : Int32)) hx hb dL_stateIn_8 (by decide) ?_
      exact (en_i X h hr hw (Nat.le_of_ble_eq_true rfl) (Nat.le_of_ble_eq_true rfl) dL_stateIn_10)
    · subst hk9
      have hw := hw.2.1 rfl
      have hpass3 : ∀ z ∈ ([⟨0, 6, 7, 26⟩] : List ExceptionTableEntry), covers z 3 = false ∨ (z.catchType ≠ 0 ∧ ∃ nm : String, (Cond.classLink RL z.catchType nm).before args s = true ∧ va_Nc (xn 3) nm s) := by
        intro z hz
        rcases List.mem_cons.mp hz with rfl | hz
        · exact Or.inr ⟨by decide, "java/lang/IndexOutOfBoundsException", X.hts q262, X.2.2.2.2.2.2.1.2.2.2.2.1 ("java/util/NoSuchElementException", "java/lang/IndexOutOfBoundsException") (by decide +kernel)⟩
        cases hz
      refine vx_catch (own := RL) (name := "java/util/NoSuchElementException") (E := xn 3) hown [⟨0, 6, 7, 26⟩] ⟨0, 6, 11, 55⟩ [] (by rw [hTab]; rfl) (hpass3) (by decide) (by decide) (X.hts q480) (va_Nw.use (by rfl) (X.nw q491)) hce hcv hcl ?_
      refine lv_astore_n (lv' := [(3, .ref q9), (0, .ref a0), (1, .int p1), (2, .int p2)]) hx hb dL_stateIn_11 rfl hl (by decide) rfl (fun ls hl => ?_)
      refine lv_bipush (v := (-75 : Int32)) hx hb dL_stateIn_12 (by decide) ?_
      exact (en_i X h hr hw (Nat.le_of_ble_eq_true rfl) (Nat.le_of_ble_eq_true rfl) dL_stateIn_14)
  · exact (en_i X h hr hw (Nat.le_of_ble_eq_true rfl) (Nat.le_of_ble_eq_true rfl) dL_stateIn_6)
abbrev rmL_stateInn : Room := { frames := 3, cells := 0, slots := 0, locals := 66 }
def wpL_stateInn (S : Mem) (a0 : Nat) (p1 : Int32) (p2 : Int32) (post : Int32 → Mem → Prop) : Prop := isK S a0 6 ∧ (wpX6_stateInn S a0 p1 p2 (fun x3 S1 => post x3 S1))
set_option maxHeartbeats 4000000 in
set_option maxRecDepth 100000 in
theorem meL_stateInn (l : Launch) (hl9 : l.stackTraces = false) (G : GT) (S : Mem) (a0 : Nat) (p1 : Int32) (p2 : Int32) (post : Int32 → Mem → Prop) (hw : wpL_stateInn S a0 p1 p2 post) : CN emI l yL_stateIn (wsH yL_stateIn cL_stateIn 4 (some .int) [(0, 6, 7, 26), (0, 6, 11, 55)]) rmL_stateInn 0 0 G [.ref a0, .int p1, .int p2] S post := by
  refine ch_open RL rfl (by decide +kernel) (Nat.le_of_ble_eq_true rfl) ?_
  intro p e s m args below meth c A X h hr hTab ls hl
  have hl : lv_has ls 4 [(0, .ref a0), (1, .int p1), (2, .int p2)] := hl
  have hx := X.1
  have hb := X.2.1
  have hown := X.2.2.2.1
  unfold wpL_stateInn at hw
  refine lv_aload_n hx hb dL_stateIn_0 rfl (lv_at hl 0 rfl) ?_
  refine lv_iload_n hx hb dL_stateIn_1 rfl (lv_at hl 1 rfl) ?_
  refine lv_iload_n hx hb dL_stateIn_2 rfl (lv_at hl 2 rfl) ?_
  obtain ⟨k2, hw⟩ := hw
  refine rc_V (As := [.int p1, .int p2]) (rest := []) X h k2 (by decide) rfl (meX6_stateInn l G _ _ _ _ _ hw) gV_L_89 rfl rfl hdV_X6_stateIn rfl ⟨Nat.le_of_ble_eq_true rfl, Nat.le_of_ble_eq_true rfl⟩ hl.1 rfl (Nat.le_of_ble_eq_true rfl) ⟨Nat.le_of_ble_eq_true rfl, Nat.le_of_ble_eq_true rfl⟩ dL_stateIn_3 (fun x3 S1 H locs hw h => ?_)
  exact (en_i X h hr hw (Nat.le_of_ble_eq_true rfl) (Nat.le_of_ble_eq_true rfl) dL_stateIn_6)
abbrev rmX2_contentOf : Room := { frames := 1, cells := 0, slots := 0, locals := 21 }
def wpX2_contentOf (S : Mem) (a0 : Nat) (p1 : Int32) (post : Int32 → Mem → Prop) : Prop := isK S a0 2 ∧ (∃ o2, mR S a0 3 = some o2 ∧ (wpX6_at S o2 (p1 - (nI 1)) (fun x4 S3 => post x4 S3)))
set_option maxHeartbeats 4000000 in
set_option maxRecDepth 100000 in
theorem meX2_contentOf (l : Launch) (G : GT) (S : Mem) (a0 : Nat) (p1 : Int32) (post : Int32 → Mem → Prop) (hw : wpX2_contentOf S a0 p1 post) : CN emI l yX2_contentOf (wsU yX2_contentOf cX2_contentOf 2 (some .int)) rmX2_contentOf 0 0 G [.ref a0, .int p1] S post := by
  refine cn_open RX2 rfl (by decide +kernel) (Nat.le_of_ble_eq_true rfl) ?_
  intro p e s m args below meth c A X h hr hin ls hl
  have hl : lv_has ls 2 [(0, .ref a0), (1, .int p1)] := hl
  have hx := X.1
  have hb := X.2.1
  have hown := X.2.2.2.1
  unfold wpX2_contentOf at hw
  refine lv_aload_n hx hb dX2_contentOf_0 rfl (lv_at hl 0 rfl) ?_
  obtain ⟨k1, hw⟩ := hw
  obtain ⟨o2, eo2, hw⟩ := hw
  refine r_getR X h k1 3 eo2  (by decide) rfl inX2 (by decide) rfl q632 rfl dX2_contentOf_1 ?_
  refine lv_iload_n hx hb dX2_contentOf_4 rfl (lv_at hl 1 rfl) ?_
  refine lv_iconst (v := (nI 1)) hx hb dX2_contentOf_5 (by decide) ?_
  refine lv_isub hx hb dX2_contentOf_6 ?_
  refine rc_SN (As := [.ref o2, .int (p1 - (nI 1))]) (rest := []) X h (meX6_at l G _ _ _ _ hw) gU_X2_32 q696 q14 q312 rfl rfl hdS_X6_at rfl ⟨Nat.le_of_ble_eq_true rfl, Nat.le_of_ble_eq_true rfl⟩ hl.1 rfl (Nat.le_of_ble_eq_true rfl) ⟨Nat.le_of_ble_eq_true rfl, Nat.le_of_ble_eq_true rfl⟩ dX2_contentOf_7 (fun x4 S3 H locs hw h => ?_)
  exact (en_i X h hr hw (Nat.le_of_ble_eq_true rfl) (Nat.le_of_ble_eq_true rfl) dX2_contentOf_10)
abbrev rmX0_stateAfter : Room := { frames := 0, cells := 0, slots := 0, locals := 0 }
def wlX0_stateAfter_5 (a0 : Nat) (p1 : Int32) (p2 : Int32)  (post : Int32 → Mem → Prop)  : Nat → Int32 → Int32 → Mem → Prop
  | 0 => fun _ _ _ => False
  | n + 1 => fun w3 w4 S => (p1 ≤ w4 → (post w3 S)) ∧ (¬ p1 ≤ w4 → (isK S a0 0 ∧ (∃ o3, mR S a0 2 = some o3 ∧ (isK S o3 8 ∧ (((nI (mN S o3)) ≤ w4 → (post w3 S)) ∧ (¬ (nI (mN S o3)) ≤ w4 → (vp_in w4 (mN S o3) ∧ ((¬ (mI S o3 w4.toNatClampNeg) = p2 → (∀ x8 : Int32, x8 = (w4 + (nI 1)) → (wlX0_stateAfter_5 a0 p1 p2 post n w3 x8 S))) ∧ ((mI S o3 w4.toNatClampNeg) = p2 → (∀ x9 : Int32, x9 = (w3 + (nI 1)) → (∀ x10 : Int32, x10 = (w4 + (nI 1)) → (wlX0_stateAfter_5 a0 p1 p2 post n x9 x10 S))))))))))))
set_option maxHeartbeats 4000000 in
set_option maxRecDepth 100000 in
theorem llX0_stateAfter_5 {p : Program} {l : Launch} {e : Env} {s : State} {m : MethodId} {args : Array Value} {below : List Frame} {meth : Method} {c : Code} {G : GT} {A : Nat → Prop} (X : Cx p s m args meth c cX0_stateAfter 5 RX0 G A) (hr : meth.sig.returnType = (some .int)) (a0 : Nat) (p1 : Int32) (p2 : Int32)  (post : Int32 → Mem → Prop)   : ∀ (n : Nat) (w3 : Int32) (w4 : Int32) (S : Mem), wlX0_stateAfter_5 a0 p1 p2 post n w3 w4 S → ∀ (H : Heap) (locs : List Loc) (ls : Array Slot), Hx G A s.heap H locs S → lv_has ls 5 [(0, .ref a0), (1, .int p1), (2, .int p2), (3, .int w3), (4, .int w4)] → W p l e rmX0_stateAfter s m args below meth c H locs 0 0 (MQ below (QN emI post G A) args s 0 0 A) (F0 m 5 ls []) := by
  have hx := X.1
  have hb := X.2.1
  have hown := X.2.2.2.1
  intro n
  induction n with
  | zero =>
    intro _ _ _ hw
    exact hw.elim
  | succ n ih =>
    intro w3 w4 S hw H locs ls h hl
    refine lv_iload hx hb dX0_stateAfter_5 (lv_at hl 4 rfl) ?_
    refine lv_iload_n hx hb dX0_stateAfter_7 rfl (lv_at hl 1 rfl) ?_
    refine lv_icmp_ge (tgt := 41) hx hb dX0_stateAfter_8 (by decide) (fun c1 => ?_) (fun c1 => ?_)
    · have hw := hw.1 c1
      refine lv_iload_n hx hb dX0_stateAfter_41 rfl (lv_at hl 3 rfl) ?_
      exact (en_i X h hr hw (Nat.le_of_ble_eq_true rfl) (Nat.le_of_ble_eq_true rfl) dX0_stateAfter_42)
    · have hw := hw.2 c1
      refine lv_iload hx hb dX0_stateAfter_11 (lv_at hl 4 rfl) ?_
      refine lv_aload_n hx hb dX0_stateAfter_13 rfl (lv_at hl 0 rfl) ?_
      obtain ⟨k2, hw⟩ := hw
      obtain ⟨o3, eo3, hw⟩ := hw
      refine r_getR X h k2 2 eo3  (by decide) rfl inX0 (by decide) rfl q48 rfl dX0_stateAfter_14 ?_
      obtain ⟨k4, hw⟩ := hw
      refine r_alen X h k4 (by decide) dX0_stateAfter_17 ?_
      refine lv_icmp_ge (tgt := 41) hx hb dX0_stateAfter_18 (by decide) (fun c5 => ?_) (fun c5 => ?_)
      · have hw := hw.1 c5
        refine lv_iload_n hx hb dX0_stateAfter_41 rfl (lv_at hl 3 rfl) ?_
        exact (en_i X h hr hw (Nat.le_of_ble_eq_true rfl) (Nat.le_of_ble_eq_true rfl) dX0_stateAfter_42)
      · have hw := hw.2 c5
        refine lv_aload_n hx hb dX0_stateAfter_21 rfl (lv_at hl 0 rfl) ?_
        refine r_getR X h k2 2 eo3  (by decide) rfl inX0 (by decide) rfl q48 rfl dX0_stateAfter_22 ?_
        refine lv_iload hx hb dX0_stateAfter_25 (lv_at hl 4 rfl) ?_
        obtain ⟨v6, hw⟩ := hw
        refine r_iald X h k4 v6 dX0_stateAfter_27 ?_
        refine lv_iload_n hx hb dX0_stateAfter_28 rfl (lv_at hl 2 rfl) ?_
        refine lv_icmp_ne (tgt := 35) hx hb dX0_stateAfter_29 (by decide) (fun c7 => ?_) (fun c7 => ?_)
        · have hw := hw.1 c7
          obtain ⟨x8, ex8⟩ : ∃ y : Int32, y = (w4 + (nI 1)) := ⟨_, rfl⟩
          have hw := hw x8 ex8
          refine lv_iinc (v := x8) (lv' := [(4, .int x8), (0, .ref a0), (1, .int p1), (2, .int p2), (3, .int w3)]) hx hb dX0_stateAfter_35 hl (k := 4) rfl (by rw [ex8]; rfl) (by decide) rfl (fun ls hl => ?_)
          refine lv_goto (tgt := 5) hx hb dX0_stateAfter_38 (by decide) ?_
          exact ih _ _ _ hw _ _ _ h (lv_sub hl [1, 2, 3, 4, 0] rfl)
        · have hw := hw.2 c7
          obtain ⟨x9, ex9⟩ : ∃ y : Int32, y = (w3 + (nI 1)) := ⟨_, rfl⟩
          have hw := hw x9 ex9
          refine lv_iinc (v := x9) (lv' := [(3, .int x9), (0, .ref a0), (1, .int p1), (2, .int p2), (4, .int w4)]) hx hb dX0_stateAfter_32 hl (k := 3) rfl (by rw [ex9]; rfl) (by decide) rfl (fun ls hl => ?_)
          obtain ⟨x10, ex10⟩ : ∃ y : Int32, y = (w4 + (nI 1)) := ⟨_, rfl⟩
          have hw := hw x10 ex10
          refine lv_iinc (v := x10) (lv' := [(4, .int x10), (3, .int x9), (0, .ref a0), (1, .int p1), (2, .int p2)]) hx hb dX0_stateAfter_35 hl (k := 4) rfl (by rw [ex10]; rfl) (by decide) rfl (fun ls hl => ?_)
          refine lv_goto (tgt := 5) hx hb dX0_stateAfter_38 (by decide) ?_
          exact ih _ _ _ hw _ _ _ h (lv_sub hl [2, 3, 4, 1, 0] rfl)
def wpX0_stateAfter (S : Mem) (a0 : Nat) (p1 : Int32) (p2 : Int32) (post : Int32 → Mem → Prop) : Prop := ∃ m, wlX0_stateAfter_5 a0 p1 p2 post m (nI 0) (nI 0) S
set_option maxHeartbeats 4000000 in
set_option maxRecDepth 100000 in
theorem meX0_stateAfter (l : Launch) (G : GT) (S : Mem) (a0 : Nat) (p1 : Int32) (p2 : Int32) (post : Int32 → Mem → Prop) (hw : wpX0_stateAfter S a0 p1 p2 post) : CN emI l yX0_stateAfter (wsU yX0_stateAfter cX0_stateAfter 5 (some .int)) rmX0_stateAfter 0 0 G [.ref a0, .int p1, .int p2] S post := by
  refine cn_open RX0 rfl (by decide +kernel) (Nat.le_of_ble_eq_true rfl) ?_
  intro p e s m args below meth c A X h hr hin ls hl
  have hl : lv_has ls 5 [(0, .ref a0), (1, .int p1), (2, .int p2)] := hl
  have hx := X.1
  have hb := X.2.1
  have hown := X.2.2.2.1
  unfold wpX0_stateAfter at hw
  refine lv_iconst (v := (nI 0)) hx hb dX0_stateAfter_0 (by decide) ?_
  refine lv_istore_n (lv' := [(3, .int (nI 0)), (0, .ref a0), (1, .int p1), (2, .int p2)]) hx hb dX0_stateAfter_1 rfl hl (by decide) rfl (fun ls hl => ?_)
  refine lv_iconst (v := (nI 0)) hx hb dX0_stateAfter_2 (by decide) ?_
  refine lv_istore (lv' := [(4, .int (nI 0)), (3, .int (nI 0)), (0, .ref a0), (1, .int p1), (2, .int p2)]) hx hb dX0_stateAfter_3 hl (by decide) rfl (fun ls hl => ?_)
  obtain ⟨n11, hw⟩ := hw
  exact llX0_stateAfter_5  X hr _ _ _ _ n11 _ _ _ hw _ _ _ h (lv_sub hl [2, 3, 4, 1, 0] rfl)
abbrev rmX6_stateByReplay : Room := { frames := 7, cells := 2, slots := 12, locals := 112 }
def wpX6_stateByReplay (S : Mem) (a0 : Nat) (p1 : Int32) (p2 : Int32) (post : Int32 → Mem → Prop) (px : Nat → Mem → Prop) : Prop := isK S a0 6 ∧ (wpX6_existingLot S a0 p1 (fun r3 S1 => ∃ o4, r3 = some o4 ∧ (wpX6_requirePage S1 o4 p2 (fun u6 S5 => isK S5 a0 6 ∧ (∃ o8, mR S5 a0 0 = some o8 ∧ (isK S5 o4 2 ∧ (wpX2_contentOf S5 o4 p2 (fun x11 S10 => isK S10 o8 0 ∧ (wpX0_stateAfter S10 o8 (mI S5 o4 2) x11 (fun x14 S12 => post x14 S12))))))) px)) px)
set_option maxHeartbeats 4000000 in
set_option maxRecDepth 100000 in
theorem meX6_stateByReplay (l : Launch) (hl9 : l.stackTraces = false) (G : GT) (S : Mem) (a0 : Nat) (p1 : Int32) (p2 : Int32) (post : Int32 → Mem → Prop) (px : Nat → Mem → Prop) (hw : wpX6_stateByReplay S a0 p1 p2 post px) : CX emI l yX6_stateByReplay (wsU yX6_stateByReplay cX6_stateByReplay 4 (some .int)) rmX6_stateByReplay 2 12 G [.ref a0, .int p1, .int p2] S post px := by
  refine cx_open RX6 rfl (by decide +kernel) (Nat.le_of_ble_eq_true rfl) ?_
  intro p e s m args below meth c A X h hr hno ls hl
  have hl : lv_has ls 4 [(0, .ref a0), (1, .int p1), (2, .int p2)] := hl
  have hx := X.1
  have hb := X.2.1
  have hown := X.2.2.2.1
  unfold wpX6_stateByReplay at hw
  refine lv_aload_n hx hb dX6_stateByReplay_0 rfl (lv_at hl 0 rfl) ?_
  refine lv_iload_n hx hb dX6_stateByReplay_1 rfl (lv_at hl 1 rfl) ?_
  obtain ⟨k2, hw⟩ := hw
  refine rx_V (As := [.int p1]) (rest := []) X h hno k2 (by decide) rfl (meX6_existingLot l hl9 G _ _ _ _ _ hw) gV_X6_243 rfl rfl hdV_X6_existingLot rfl ⟨Nat.le_of_ble_eq_true rfl, Nat.le_of_ble_eq_true rfl⟩ hl.1 rfl (Nat.le_of_ble_eq_true rfl) ⟨Nat.le_of_ble_eq_true rfl, Nat.le_of_ble_eq_true rfl⟩ ⟨Nat.le_of_ble_eq_true rfl, Nat.le_of_ble_eq_true rfl⟩ dX6_stateByReplay_2 (fun r3 S1 H locs hw h => ?_)
  obtain ⟨o4, rfl, hw⟩ := hw
  refine lv_astore_n (lv' := [(3, .ref o4), (0, .ref a0), (1, .int p1), (2, .int p2)]) hx hb dX6_stateByReplay_5 rfl hl (by decide) rfl (fun ls hl => ?_)
  refine lv_aload_n hx hb dX6_stateByReplay_6 rfl (lv_at hl 0 rfl) ?_
  refine lv_iload_n hx hb dX6_stateByReplay_7 rfl (lv_at hl 3 rfl) ?_
  refine rx_S (As := [.ref o4, .int p2]) (rest := []) X h hno (meX6_requirePage l hl9 G _ _ _ _ _ hw) gS_X6_250 rfl rfl hdS_X6_requirePage rfl ⟨Nat.le_of_ble_eq_true rfl, Nat.le_of_ble_eq_true rfl⟩ hl.1 rfl (Nat.le_of_ble_eq_true rfl) ⟨Nat.le_of_ble_eq_true rfl, Nat.le_of_ble_eq_true rfl⟩ ⟨Nat.le_of_ble_eq_true rfl, Nat.le_of_ble_eq_true rfl⟩ dX6_stateByReplay_8 (fun u6 S5 H locs hw h => ?_)
  refine lv_aload_n hx hb dX6_stateByReplay_11 rfl (lv_at hl 1 rfl) ?_
  obtain ⟨k7, hw⟩ := hw
  obtain ⟨o8, eo8, hw⟩ := hw
  refine r_getR X h k7 0 eo8  (by decide) rfl inX6 (by decide) rfl q120 rfl dX6_stateByReplay_12 ?_
  refine lv_aload_n hx hb dX6_stateByReplay_15 rfl (lv_at hl 0 rfl) ?_
  obtain ⟨k9, hw⟩ := hw
  refine r_getIN X h k9 2  (by decide) rfl inX2 (by decide) rfl q631 rfl dX6_stateByReplay_16 ?_
  refine lv_aload_n hx hb dX6_stateByReplay_19 rfl (lv_at hl 0 rfl) ?_
  refine lv_iload_n hx hb dX6_stateByReplay_20 rfl (lv_at hl 3 rfl) ?_
  refine rc_V (As := [.int p2]) (rest := [.int (mI S5 o4 2), .ref o8]) X h k9 (by decide) rfl (meX2_contentOf l G _ _ _ _ hw) gV_X6_260 rfl rfl hdV_X2_contentOf rfl ⟨Nat.le_of_ble_eq_true rfl, Nat.le_of_ble_eq_true rfl⟩ hl.1 rfl (Nat.le_of_ble_eq_true rfl) ⟨Nat.le_of_ble_eq_true rfl, Nat.le_of_ble_eq_true rfl⟩ dX6_stateByReplay_21 (fun x11 S10 H locs hw h => ?_)
  obtain ⟨k13, hw⟩ := hw
  refine rc_V (As := [.int (mI S5 o4 2), .int x11]) (rest := []) X h k13 (by decide) rfl (meX0_stateAfter l G _ _ _ _ _ hw) gV_X6_263 rfl rfl hdV_X0_stateAfter rfl ⟨Nat.le_of_ble_eq_true rfl, Nat.le_of_ble_eq_true rfl⟩ hl.1 rfl (Nat.le_of_ble_eq_true rfl) ⟨Nat.le_of_ble_eq_true rfl, Nat.le_of_ble_eq_true rfl⟩ dX6_stateByReplay_24 (fun x14 S12 H locs hw h => ?_)
  exact vx_ret (en_i X h hr hw (Nat.le_of_ble_eq_true rfl) (Nat.le_of_ble_eq_true rfl) dX6_stateByReplay_27)
abbrev rmX6_stateByReplayn : Room := { frames := 2, cells := 0, slots := 0, locals := 43 }
def wpX6_stateByReplayn (S : Mem) (a0 : Nat) (p1 : Int32) (p2 : Int32) (post : Int32 → Mem → Prop) : Prop := isK S a0 6 ∧ (wpX6_existingLotn S a0 p1 (fun r3 S1 => ∃ o4, r3 = some o4 ∧ (wpX6_requirePagen S1 o4 p2 (fun u6 S5 => isK S5 a0 6 ∧ (∃ o8, mR S5 a0 0 = some o8 ∧ (isK S5 o4 2 ∧ (wpX2_contentOf S5 o4 p2 (fun x11 S10 => isK S10 o8 0 ∧ (wpX0_stateAfter S10 o8 (mI S5 o4 2) x11 (fun x14 S12 => post x14 S12))))))))))
set_option maxHeartbeats 4000000 in
set_option maxRecDepth 100000 in
theorem meX6_stateByReplayn (l : Launch) (G : GT) (S : Mem) (a0 : Nat) (p1 : Int32) (p2 : Int32) (post : Int32 → Mem → Prop) (hw : wpX6_stateByReplayn S a0 p1 p2 post) : CN emI l yX6_stateByReplay (wsU yX6_stateByReplay cX6_stateByReplay 4 (some .int)) rmX6_stateByReplayn 0 0 G [.ref a0, .int p1, .int p2] S post := by
  refine cn_open RX6 rfl (by decide +kernel) (Nat.le_of_ble_eq_true rfl) ?_
  intro p e s m args below meth c A X h hr hin ls hl
  have hl : lv_has ls 4 [(0, .ref a0), (1, .int p1), (2, .int p2)] := hl
  have hx := X.1
  have hb := X.2.1
  have hown := X.2.2.2.1
  unfold wpX6_stateByReplayn at hw
  refine lv_aload_n hx hb dX6_stateByReplay_0 rfl (lv_at hl 0 rfl) ?_
  refine lv_iload_n hx hb dX6_stateByReplay_1 rfl (lv_at hl 1 rfl) ?_
  obtain ⟨k2, hw⟩ := hw
  refine rc_V (As := [.int p1]) (rest := []) X h k2 (by decide) rfl (meX6_existingLotn l G _ _ _ _ hw) gV_X6_243 rfl rfl hdV_X6_existingLot rfl ⟨Nat.le_of_ble_eq_true rfl, Nat.le_of_ble_eq_true rfl⟩ hl.1 rfl (Nat.le_of_ble_eq_true rfl) ⟨Nat.le_of_ble_eq_true rfl, Nat.le_of_ble_eq_true rfl⟩ dX6_stateByReplay_2 (fun r3 S1 H locs hw h => ?_)
  obtain ⟨o4, rfl, hw⟩ := hw
  refine lv_astore_n (lv' := [(3, .ref o4), (0, .ref a0), (1, .int p1), (2, .int p2)]) hx hb dX6_stateByReplay_5 rfl hl (by decide) rfl (fun ls hl => ?_)
  refine lv_aload_n hx hb dX6_stateByReplay_6 rfl (lv_at hl 0 rfl) ?_
  refine lv_iload_n hx hb dX6_stateByReplay_7 rfl (lv_at hl 3 rfl) ?_
  refine rc_S (As := [.ref o4, .int p2]) (rest := []) X h (meX6_requirePagen l G _ _ _ _ hw) gS_X6_250 rfl rfl hdS_X6_requirePage rfl ⟨Nat.le_of_ble_eq_true rfl, Nat.le_of_ble_eq_true rfl⟩ hl.1 rfl (Nat.le_of_ble_eq_true rfl) ⟨Nat.le_of_ble_eq_true rfl, Nat.le_of_ble_eq_true rfl⟩ dX6_stateByReplay_8 (fun u6 S5 H locs hw h => ?_)
  refine lv_aload_n hx hb dX6_stateByReplay_11 rfl (lv_at hl 1 rfl) ?_
  obtain ⟨k7, hw⟩ := hw
  obtain ⟨o8, eo8, hw⟩ := hw
  refine r_getR X h k7 0 eo8  (by decide) rfl inX6 (by decide) rfl q120 rfl dX6_stateByReplay_12 ?_
  refine lv_aload_n hx hb dX6_stateByReplay_15 rfl (lv_at hl 0 rfl) ?_
  obtain ⟨k9, hw⟩ := hw
  refine r_getIN X h k9 2  (by decide) rfl inX2 (by decide) rfl q631 rfl dX6_stateByReplay_16 ?_
  refine lv_aload_n hx hb dX6_stateByReplay_19 rfl (lv_at hl 0 rfl) ?_
  refine lv_iload_n hx hb dX6_stateByReplay_20 rfl (lv_at hl 3 rfl) ?_
  refine rc_V (As := [.int p2]) (rest := [.int (mI S5 o4 2), .ref o8]) X h k9 (by decide) rfl (meX2_contentOf l G _ _ _ _ hw) gV_X6_260 rfl rfl hdV_X2_contentOf rfl ⟨Nat.le_of_ble_eq_true rfl, Nat.le_of_ble_eq_true rfl⟩ hl.1 rfl (Nat.le_of_ble_eq_true rfl) ⟨Nat.le_of_ble_eq_true rfl, Nat.le_of_ble_eq_true rfl⟩ dX6_stateByReplay_21 (fun x11 S10 H locs hw h => ?_)
  obtain ⟨k13, hw⟩ := hw
  refine rc_V (As := [.int (mI S5 o4 2), .int x11]) (rest := []) X h k13 (by decide) rfl (meX0_stateAfter l G _ _ _ _ _ hw) gV_X6_263 rfl rfl hdV_X0_stateAfter rfl ⟨Nat.le_of_ble_eq_true rfl, Nat.le_of_ble_eq_true rfl⟩ hl.1 rfl (Nat.le_of_ble_eq_true rfl) ⟨Nat.le_of_ble_eq_true rfl, Nat.le_of_ble_eq_true rfl⟩ dX6_stateByReplay_24 (fun x14 S12 H locs hw h => ?_)
  exact (en_i X h hr hw (Nat.le_of_ble_eq_true rfl) (Nat.le_of_ble_eq_true rfl) dX6_stateByReplay_27)
abbrev rmL_stateByReplay : Room := { frames := 8, cells := 2, slots := 12, locals := 135 }
def wpL_stateByReplay (S : Mem) (a0 : Nat) (p1 : Int32) (p2 : Int32) (post : Int32 → Mem → Prop) : Prop := isK S a0 6 ∧ (wpX6_stateByReplay S a0 p1 p2 (fun x3 S1 => post x3 S1) (fun k4 S5 => (k4 = 1 → (post (-77 : Int32) S5)) ∧ (k4 = 3 → (post (-75 : Int32) S5)) ∧ (k4 = 1 ∨ k4 = 3)))
set_option maxHeartbeats 4000000 in
set_option maxRecDepth 100000 in
theorem meL_stateByReplay (l : Launch) (hl9 : l.stackTraces = false) (G : GT) (S : Mem) (a0 : Nat) (p1 : Int32) (p2 : Int32) (post : Int32 → Mem → Prop) (hw : wpL_stateByReplay S a0 p1 p2 post) : CN emI l yL_stateByReplay (wsH yL_stateByReplay cL_stateByReplay 4 (some .int) [(0, 6, 7, 26), (0, 6, 11, 55)]) rmL_stateByReplay 2 12 G [.ref a0, .int p1, .int p2] S post := by
  refine ch_open RL rfl (by decide +kernel) (Nat.le_of_ble_eq_true rfl) ?_
  intro p e s m args below meth c A X h hr hTab ls hl
  have hl : lv_has ls 4 [(0, .ref a0), (1, .int p1), (2, .int p2)] := hl
  have hx := X.1
  have hb := X.2.1
  have hown := X.2.2.2.1
  unfold wpL_stateByReplay at hw
  refine lv_aload_n hx hb dL_stateByReplay_0 rfl (lv_at hl 0 rfl) ?_
  refine lv_iload_n hx hb dL_stateByReplay_1 rfl (lv_at hl 1 rfl) ?_
  refine lv_iload_n hx hb dL_stateByReplay_2 rfl (lv_at hl 2 rfl) ?_
  obtain ⟨k2, hw⟩ := hw
  refine rx_VH (As := [.int p1, .int p2]) (rest := []) X h k2 (by decide) rfl (meX6_stateByReplay l hl9 G _ _ _ _ _ _ hw) gV_L_92 rfl rfl hdV_X6_stateByReplay rfl ⟨Nat.le_of_ble_eq_true rfl, Nat.le_of_ble_eq_true rfl⟩ hl.1 rfl (Nat.le_of_ble_eq_true rfl) ⟨Nat.le_of_ble_eq_true rfl, Nat.le_of_ble_eq_true rfl⟩ dL_stateByReplay_3 (fun k4 S5 H locs q9 ce hw h hce hcv hcl => ?_) (fun x3 S1 H locs hw h => ?_)
  · rcases hw.2.2 with hk9 | hk9
    · subst hk9
      have hw := hw.1 rfl
      refine vx_catch (own := RL) (name := "java/lang/IndexOutOfBoundsException") (E := xn 1) hown [] ⟨0, 6, 7, 26⟩ [⟨0, 6, 11, 55⟩] (by rw [hTab]; rfl) (fun z hz => nomatch hz) (by decide) (by decide) (X.hts q262) (va_Nw.use (by rfl) (X.nw q296)) hce hcv hcl ?_
      refine lv_astore_n (lv' := [(3, .ref q9), (0, .ref a0), (1, .int p1), (2, .int p2)]) hx hb dL_stateByReplay_7 rfl hl (by decide) rfl (fun ls hl => ?_)
      refine lv_bipush (v := (-77 : Int32)) hx hb dL_stateByReplay_8 (by decide) ?_
      exact (en_i X h hr hw (Nat.le_of_ble_eq_true rfl) (Nat.le_of_ble_eq_true rfl) dL_stateByReplay_10)
    · subst hk9
      have hw := hw.2.1 rfl
      have hpass3 : ∀ z ∈ ([⟨0, 6, 7, 26⟩] : List ExceptionTableEntry), covers z 3 = false ∨ (z.catchType ≠ 0 ∧ ∃ nm : String, (Cond.classLink RL z.catchType nm).before args s = true ∧ va_Nc (xn 3) nm s) := by
        intro z hz
        rcases List.mem_cons.mp hz with rfl | hz
        · exact Or.inr ⟨by decide, "java/lang/IndexOutOfBoundsException", X.hts q262, X.2.2.2.2.2.2.1.2.2.2.2.1 ("java/util/NoSuchElementException", "java/lang/IndexOutOfBoundsException") (by decide +kernel)⟩
        cases hz
      refine vx_catch (own := RL) (name := "java/util/NoSuchElementException") (E := xn 3) hown [⟨0, 6, 7, 26⟩] ⟨0, 6, 11, 55⟩ [] (by rw [hTab]; rfl) (hpass3) (by decide) (by decide) (X.hts q480) (va_Nw.use (by rfl) (X.nw q491)) hce hcv hcl ?_
      refine lv_astore_n (lv' := [(3, .ref q9), (0, .ref a0), (1, .int p1), (2, .int p2)]) hx hb dL_stateByReplay_11 rfl hl (by decide) rfl (fun ls hl => ?_)
      refine lv_bipush (v := (-75 : Int32)) hx hb dL_stateByReplay_12 (by decide) ?_
      exact (en_i X h hr hw (Nat.le_of_ble_eq_true rfl) (Nat.le_of_ble_eq_true rfl) dL_stateByReplay_14)
  · exact (en_i X h hr hw (Nat.le_of_ble_eq_true rfl) (Nat.le_of_ble_eq_true rfl) dL_stateByReplay_6)
abbrev rmL_stateByReplayn : Room := { frames := 3, cells := 0, slots := 0, locals := 66 }
def wpL_stateByReplayn (S : Mem) (a0 : Nat) (p1 : Int32) (p2 : Int32) (post : Int32 → Mem → Prop) : Prop := isK S a0 6 ∧ (wpX6_stateByReplayn S a0 p1 p2 (fun x3 S1 => post x3 S1))
set_option maxHeartbeats 4000000 in
set_option maxRecDepth 100000 in
theorem meL_stateByReplayn (l : Launch) (hl9 : l.stackTraces = false) (G : GT) (S : Mem) (a0 : Nat) (p1 : Int32) (p2 : Int32) (post : Int32 → Mem → Prop) (hw : wpL_stateByReplayn S a0 p1 p2 post) : CN emI l yL_stateByReplay (wsH yL_stateByReplay cL_stateByReplay 4 (some .int) [(0, 6, 7, 26), (0, 6, 11, 55)]) rmL_stateByReplayn 0 0 G [.ref a0, .int p1, .int p2] S post := by
  refine ch_open RL rfl (by decide +kernel) (Nat.le_of_ble_eq_true rfl) ?_
  intro p e s m args below meth c A X h hr hTab ls hl
  have hl : lv_has ls 4 [(0, .ref a0), (1, .int p1), (2, .int p2)] := hl
  have hx := X.1
  have hb := X.2.1
  have hown := X.2.2.2.1
  unfold wpL_stateByReplayn at hw
  refine lv_aload_n hx hb dL_stateByReplay_0 rfl (lv_at hl 0 rfl) ?_
  refine lv_iload_n hx hb dL_stateByReplay_1 rfl (lv_at hl 1 rfl) ?_
  refine lv_iload_n hx hb dL_stateByReplay_2 rfl (lv_at hl 2 rfl) ?_
  obtain ⟨k2, hw⟩ := hw
  refine rc_V (As := [.int p1, .int p2]) (rest := []) X h k2 (by decide) rfl (meX6_stateByReplayn l G _ _ _ _ _ hw) gV_L_92 rfl rfl hdV_X6_stateByReplay rfl ⟨Nat.le_of_ble_eq_true rfl, Nat.le_of_ble_eq_true rfl⟩ hl.1 rfl (Nat.le_of_ble_eq_true rfl) ⟨Nat.le_of_ble_eq_true rfl, Nat.le_of_ble_eq_true rfl⟩ dL_stateByReplay_3 (fun x3 S1 H locs hw h => ?_)
  exact (en_i X h hr hw (Nat.le_of_ble_eq_true rfl) (Nat.le_of_ble_eq_true rfl) dL_stateByReplay_6)
abbrev rmX6_state : Room := { frames := 7, cells := 1, slots := 6, locals := 111 }
def wpX6_state (S : Mem) (a0 : Nat) (p1 : Int32) (post : Int32 → Mem → Prop) (px : Nat → Mem → Prop) : Prop := isK S a0 6 ∧ (wpX6_requireContent S a0 p1 (fun u3 S1 => isK S1 a0 6 ∧ (∃ o5, mR S1 a0 0 = some o5 ∧ (isK S1 o5 0 ∧ (wpX0_stateOf S1 o5 p1 (fun x8 S6 => post x8 S6))))) px)
set_option maxHeartbeats 4000000 in
set_option maxRecDepth 100000 in
theorem meX6_state (l : Launch) (hl9 : l.stackTraces = false) (G : GT) (S : Mem) (a0 : Nat) (p1 : Int32) (post : Int32 → Mem → Prop) (px : Nat → Mem → Prop) (hw : wpX6_state S a0 p1 post px) : CX emI l yX6_state (wsU yX6_state cX6_state 2 (some .int)) rmX6_state 1 6 G [.ref a0, .int p1] S post px := by
  refine cx_open RX6 rfl (by decide +kernel) (Nat.le_of_ble_eq_true rfl) ?_
  intro p e s m args below meth c A X h hr hno ls hl
  have hl : lv_has ls 2 [(0, .ref a0), (1, .int p1)] := hl
  have hx := X.1
  have hb := X.2.1
  have hown := X.2.2.2.1
  unfold wpX6_state at hw
  refine lv_aload_n hx hb dX6_state_0 rfl (lv_at hl 0 rfl) ?_
  refine lv_iload_n hx hb dX6_state_1 rfl (lv_at hl 1 rfl) ?_
  obtain ⟨k2, hw⟩ := hw
  refine rx_V (As := [.int p1]) (rest := []) X h hno k2 (by decide) rfl (meX6_requireContent l hl9 G _ _ _ _ _ hw) gV_X6_64 rfl rfl hdV_X6_requireContent rfl ⟨Nat.le_of_ble_eq_true rfl, Nat.le_of_ble_eq_true rfl⟩ hl.1 rfl (Nat.le_of_ble_eq_true rfl) ⟨Nat.le_of_ble_eq_true rfl, Nat.le_of_ble_eq_true rfl⟩ ⟨Nat.le_of_ble_eq_true rfl, Nat.le_of_ble_eq_true rfl⟩ dX6_state_2 (fun u3 S1 H locs hw h => ?_)
  refine lv_aload_n hx hb dX6_state_5 rfl (lv_at hl 0 rfl) ?_
  obtain ⟨k4, hw⟩ := hw
  obtain ⟨o5, eo5, hw⟩ := hw
  refine r_getR X h k4 0 eo5  (by decide) rfl inX6 (by decide) rfl q120 rfl dX6_state_6 ?_
  refine lv_iload_n hx hb dX6_state_9 rfl (lv_at hl 1 rfl) ?_
  obtain ⟨k7, hw⟩ := hw
  refine rc_V (As := [.int p1]) (rest := []) X h k7 (by decide) rfl (meX0_stateOf l G _ _ _ _ hw) gV_X6_76 rfl rfl hdV_X0_stateOf rfl ⟨Nat.le_of_ble_eq_true rfl, Nat.le_of_ble_eq_true rfl⟩ hl.1 rfl (Nat.le_of_ble_eq_true rfl) ⟨Nat.le_of_ble_eq_true rfl, Nat.le_of_ble_eq_true rfl⟩ dX6_state_10 (fun x8 S6 H locs hw h => ?_)
  exact vx_ret (en_i X h hr hw (Nat.le_of_ble_eq_true rfl) (Nat.le_of_ble_eq_true rfl) dX6_state_13)
abbrev rmX6_staten : Room := { frames := 2, cells := 0, slots := 0, locals := 42 }
def wpX6_staten (S : Mem) (a0 : Nat) (p1 : Int32) (post : Int32 → Mem → Prop) : Prop := isK S a0 6 ∧ (wpX6_requireContentn S a0 p1 (fun u3 S1 => isK S1 a0 6 ∧ (∃ o5, mR S1 a0 0 = some o5 ∧ (isK S1 o5 0 ∧ (wpX0_stateOf S1 o5 p1 (fun x8 S6 => post x8 S6))))))
set_option maxHeartbeats 4000000 in
set_option maxRecDepth 100000 in
theorem meX6_staten (l : Launch) (G : GT) (S : Mem) (a0 : Nat) (p1 : Int32) (post : Int32 → Mem → Prop) (hw : wpX6_staten S a0 p1 post) : CN emI l yX6_state (wsU yX6_state cX6_state 2 (some .int)) rmX6_staten 0 0 G [.ref a0, .int p1] S post := by
  refine cn_open RX6 rfl (by decide +kernel) (Nat.le_of_ble_eq_true rfl) ?_
  intro p e s m args below meth c A X h hr hin ls hl
  have hl : lv_has ls 2 [(0, .ref a0), (1, .int p1)] := hl
  have hx := X.1
  have hb := X.2.1
  have hown := X.2.2.2.1
  unfold wpX6_staten at hw
  refine lv_aload_n hx hb dX6_state_0 rfl (lv_at hl 0 rfl) ?_
  refine lv_iload_n hx hb dX6_state_1 rfl (lv_at hl 1 rfl) ?_
  obtain ⟨k2, hw⟩ := hw
  refine rc_V (As := [.int p1]) (rest := []) X h k2 (by decide) rfl (meX6_requireContentn l G _ _ _ _ hw) gV_X6_64 rfl rfl hdV_X6_requireContent rfl ⟨Nat.le_of_ble_eq_true rfl, Nat.le_of_ble_eq_true rfl⟩ hl.1 rfl (Nat.le_of_ble_eq_true rfl) ⟨Nat.le_of_ble_eq_true rfl, Nat.le_of_ble_eq_true rfl⟩ dX6_state_2 (fun u3 S1 H locs hw h => ?_)
  refine lv_aload_n hx hb dX6_state_5 rfl (lv_at hl 0 rfl) ?_
  obtain ⟨k4, hw⟩ := hw
  obtain ⟨o5, eo5, hw⟩ := hw
  refine r_getR X h k4 0 eo5  (by decide) rfl inX6 (by decide) rfl q120 rfl dX6_state_6 ?_
  refine lv_iload_n hx hb dX6_state_9 rfl (lv_at hl 1 rfl) ?_
  obtain ⟨k7, hw⟩ := hw
  refine rc_V (As := [.int p1]) (rest := []) X h k7 (by decide) rfl (meX0_stateOf l G _ _ _ _ hw) gV_X6_76 rfl rfl hdV_X0_stateOf rfl ⟨Nat.le_of_ble_eq_true rfl, Nat.le_of_ble_eq_true rfl⟩ hl.1 rfl (Nat.le_of_ble_eq_true rfl) ⟨Nat.le_of_ble_eq_true rfl, Nat.le_of_ble_eq_true rfl⟩ dX6_state_10 (fun x8 S6 H locs hw h => ?_)
  exact (en_i X h hr hw (Nat.le_of_ble_eq_true rfl) (Nat.le_of_ble_eq_true rfl) dX6_state_13)
abbrev rmL_state : Room := { frames := 8, cells := 1, slots := 6, locals := 132 }
def wpL_state (S : Mem) (a0 : Nat) (p1 : Int32) (post : Int32 → Mem → Prop) : Prop := isK S a0 6 ∧ (wpX6_state S a0 p1 (fun x3 S1 => post x3 S1) (fun k4 S5 => (k4 = 1 → (post (-77 : Int32) S5)) ∧ (k4 = 1)))
set_option maxHeartbeats 4000000 in
set_option maxRecDepth 100000 in
theorem meL_state (l : Launch) (hl9 : l.stackTraces = false) (G : GT) (S : Mem) (a0 : Nat) (p1 : Int32) (post : Int32 → Mem → Prop) (hw : wpL_state S a0 p1 post) : CN emI l yL_state (wsH yL_state cL_state 3 (some .int) [(0, 5, 6, 26)]) rmL_state 1 6 G [.ref a0, .int p1] S post := by
  refine ch_open RL rfl (by decide +kernel) (Nat.le_of_ble_eq_true rfl) ?_
  intro p e s m args below meth c A X h hr hTab ls hl
  have hl : lv_has ls 3 [(0, .ref a0), (1, .int p1)] := hl
  have hx := X.1
  have hb := X.2.1
  have hown := X.2.2.2.1
  unfold wpL_state at hw
  refine lv_aload_n hx hb dL_state_0 rfl (lv_at hl 0 rfl) ?_
  refine lv_iload_n hx hb dL_state_1 rfl (lv_at hl 1 rfl) ?_
  obtain ⟨k2, hw⟩ := hw
  refine rx_VH (As := [.int p1]) (rest := []) X h k2 (by decide) rfl (meX6_state l hl9 G _ _ _ _ _ hw) gV_L_32 rfl rfl hdV_X6_state rfl ⟨Nat.le_of_ble_eq_true rfl, Nat.le_of_ble_eq_true rfl⟩ hl.1 rfl (Nat.le_of_ble_eq_true rfl) ⟨Nat.le_of_ble_eq_true rfl, Nat.le_of_ble_eq_true rfl⟩ dL_state_2 (fun k4 S5 H locs q9 ce hw h hce hcv hcl => ?_) (fun x3 S1 H locs hw h => ?_)
  · rcases hw.2 with hk9
    · subst hk9
      have hw := hw.1 rfl
      refine vx_catch (own := RL) (name := "java/lang/IndexOutOfBoundsException") (E := xn 1) hown [] ⟨0, 5, 6, 26⟩ [] (by rw [hTab]; rfl) (fun z hz => nomatch hz) (by decide) (by decide) (X.hts q262) (va_Nw.use (by rfl) (X.nw q296)) hce hcv hcl ?_
      refine lv_astore_n (lv' := [(2, .ref q9), (0, .ref a0), (1, .int p1)]) hx hb dL_state_6 rfl hl (by decide) rfl (fun ls hl => ?_)
      refine lv_bipush (v := (-77 : Int32)) hx hb dL_state_7 (by decide) ?_
      exact (en_i X h hr hw (Nat.le_of_ble_eq_true rfl) (Nat.le_of_ble_eq_true rfl) dL_state_9)
  · exact (en_i X h hr hw (Nat.le_of_ble_eq_true rfl) (Nat.le_of_ble_eq_true rfl) dL_state_5)
abbrev rmL_staten : Room := { frames := 3, cells := 0, slots := 0, locals := 63 }
def wpL_staten (S : Mem) (a0 : Nat) (p1 : Int32) (post : Int32 → Mem → Prop) : Prop := isK S a0 6 ∧ (wpX6_staten S a0 p1 (fun x3 S1 => post x3 S1))
set_option maxHeartbeats 4000000 in
set_option maxRecDepth 100000 in
theorem meL_staten (l : Launch) (hl9 : l.stackTraces = false) (G : GT) (S : Mem) (a0 : Nat) (p1 : Int32) (post : Int32 → Mem → Prop) (hw : wpL_staten S a0 p1 post) : CN emI l yL_state (wsH yL_state cL_state 3 (some .int) [(0, 5, 6, 26)]) rmL_staten 0 0 G [.ref a0, .int p1] S post := by
  refine ch_open RL rfl (by decide +kernel) (Nat.le_of_ble_eq_true rfl) ?_
  intro p e s m args below meth c A X h hr hTab ls hl
  have hl : lv_has ls 3 [(0, .ref a0), (1, .int p1)] := hl
  have hx := X.1
  have hb := X.2.1
  have hown := X.2.2.2.1
  unfold wpL_staten at hw
  refine lv_aload_n hx hb dL_state_0 rfl (lv_at hl 0 rfl) ?_
  refine lv_iload_n hx hb dL_state_1 rfl (lv_at hl 1 rfl) ?_
  obtain ⟨k2, hw⟩ := hw
  refine rc_V (As := [.int p1]) (rest := []) X h k2 (by decide) rfl (meX6_staten l G _ _ _ _ hw) gV_L_32 rfl rfl hdV_X6_state rfl ⟨Nat.le_of_ble_eq_true rfl, Nat.le_of_ble_eq_true rfl⟩ hl.1 rfl (Nat.le_of_ble_eq_true rfl) ⟨Nat.le_of_ble_eq_true rfl, Nat.le_of_ble_eq_true rfl⟩ dL_state_2 (fun x3 S1 H locs hw h => ?_)
  exact (en_i X h hr hw (Nat.le_of_ble_eq_true rfl) (Nat.le_of_ble_eq_true rfl) dL_state_5)
abbrev rmX6_copies : Room := { frames := 7, cells := 1, slots := 6, locals := 112 }
def wpX6_copies (S : Mem) (a0 : Nat) (p1 : Int32) (post : Int32 → Mem → Prop) (px : Nat → Mem → Prop) : Prop := isK S a0 6 ∧ (wpX6_existingLot S a0 p1 (fun r3 S1 => ∃ o4, r3 = some o4 ∧ (isK S1 o4 2 ∧ (post (mI S1 o4 0) S1))) px)
set_option maxHeartbeats 4000000 in
set_option maxRecDepth 100000 in
theorem meX6_copies (l : Launch) (hl9 : l.stackTraces = false) (G : GT) (S : Mem) (a0 : Nat) (p1 : Int32) (post : Int32 → Mem → Prop) (px : Nat → Mem → Prop) (hw : wpX6_copies S a0 p1 post px) : CX emI l yX6_copies (wsU yX6_copies cX6_copies 2 (some .int)) rmX6_copies 1 6 G [.ref a0, .int p1] S post px := by
  refine cx_open RX6 rfl (by decide +kernel) (Nat.le_of_ble_eq_true rfl) ?_
  intro p e s m args below meth c A X h hr hno ls hl
  have hl : lv_has ls 2 [(0, .ref a0), (1, .int p1)] := hl
  have hx := X.1
  have hb := X.2.1
  have hown := X.2.2.2.1
  unfold wpX6_copies at hw
  refine lv_aload_n hx hb dX6_copies_0 rfl (lv_at hl 0 rfl) ?_
  refine lv_iload_n hx hb dX6_copies_1 rfl (lv_at hl 1 rfl) ?_
  obtain ⟨k2, hw⟩ := hw
  refine rx_V (As := [.int p1]) (rest := []) X h hno k2 (by decide) rfl (meX6_existingLot l hl9 G _ _ _ _ _ hw) gV_X6_243 rfl rfl hdV_X6_existingLot rfl ⟨Nat.le_of_ble_eq_true rfl, Nat.le_of_ble_eq_true rfl⟩ hl.1 rfl (Nat.le_of_ble_eq_true rfl) ⟨Nat.le_of_ble_eq_true rfl, Nat.le_of_ble_eq_true rfl⟩ ⟨Nat.le_of_ble_eq_true rfl, Nat.le_of_ble_eq_true rfl⟩ dX6_copies_2 (fun r3 S1 H locs hw h => ?_)
  obtain ⟨o4, rfl, hw⟩ := hw
  obtain ⟨k5, hw⟩ := hw
  refine r_getIN X h k5 0  (by decide) rfl inX2 (by decide) rfl q627 rfl dX6_copies_5 ?_
  exact vx_ret (en_i X h hr hw (Nat.le_of_ble_eq_true rfl) (Nat.le_of_ble_eq_true rfl) dX6_copies_8)
abbrev rmX6_copiesn : Room := { frames := 2, cells := 0, slots := 0, locals := 43 }
def wpX6_copiesn (S : Mem) (a0 : Nat) (p1 : Int32) (post : Int32 → Mem → Prop) : Prop := isK S a0 6 ∧ (wpX6_existingLotn S a0 p1 (fun r3 S1 => ∃ o4, r3 = some o4 ∧ (isK S1 o4 2 ∧ (post (mI S1 o4 0) S1))))
set_option maxHeartbeats 4000000 in
set_option maxRecDepth 100000 in
theorem meX6_copiesn (l : Launch) (G : GT) (S : Mem) (a0 : Nat) (p1 : Int32) (post : Int32 → Mem → Prop) (hw : wpX6_copiesn S a0 p1 post) : CN emI l yX6_copies (wsU yX6_copies cX6_copies 2 (some .int)) rmX6_copiesn 0 0 G [.ref a0, .int p1] S post := by
  refine cn_open RX6 rfl (by decide +kernel) (Nat.le_of_ble_eq_true rfl) ?_
  intro p e s m args below meth c A X h hr hin ls hl
  have hl : lv_has ls 2 [(0, .ref a0), (1, .int p1)] := hl
  have hx := X.1
  have hb := X.2.1
  have hown := X.2.2.2.1
  unfold wpX6_copiesn at hw
  refine lv_aload_n hx hb dX6_copies_0 rfl (lv_at hl 0 rfl) ?_
  refine lv_iload_n hx hb dX6_copies_1 rfl (lv_at hl 1 rfl) ?_
  obtain ⟨k2, hw⟩ := hw
  refine rc_V (As := [.int p1]) (rest := []) X h k2 (by decide) rfl (meX6_existingLotn l G _ _ _ _ hw) gV_X6_243 rfl rfl hdV_X6_existingLot rfl ⟨Nat.le_of_ble_eq_true rfl, Nat.le_of_ble_eq_true rfl⟩ hl.1 rfl (Nat.le_of_ble_eq_true rfl) ⟨Nat.le_of_ble_eq_true rfl, Nat.le_of_ble_eq_true rfl⟩ dX6_copies_2 (fun r3 S1 H locs hw h => ?_)
  obtain ⟨o4, rfl, hw⟩ := hw
  obtain ⟨k5, hw⟩ := hw
  refine r_getIN X h k5 0  (by decide) rfl inX2 (by decide) rfl q627 rfl dX6_copies_5 ?_
  exact (en_i X h hr hw (Nat.le_of_ble_eq_true rfl) (Nat.le_of_ble_eq_true rfl) dX6_copies_8)
abbrev rmL_copies : Room := { frames := 8, cells := 1, slots := 6, locals := 133 }
def wpL_copies (S : Mem) (a0 : Nat) (p1 : Int32) (post : Int32 → Mem → Prop) : Prop := isK S a0 6 ∧ (wpX6_copies S a0 p1 (fun x3 S1 => post x3 S1) (fun k4 S5 => (k4 = 1 → (post (-77 : Int32) S5)) ∧ (k4 = 1)))
set_option maxHeartbeats 4000000 in
set_option maxRecDepth 100000 in
theorem meL_copies (l : Launch) (hl9 : l.stackTraces = false) (G : GT) (S : Mem) (a0 : Nat) (p1 : Int32) (post : Int32 → Mem → Prop) (hw : wpL_copies S a0 p1 post) : CN emI l yL_copies (wsH yL_copies cL_copies 3 (some .int) [(0, 5, 6, 26)]) rmL_copies 1 6 G [.ref a0, .int p1] S post := by
  refine ch_open RL rfl (by decide +kernel) (Nat.le_of_ble_eq_true rfl) ?_
  intro p e s m args below meth c A X h hr hTab ls hl
  have hl : lv_has ls 3 [(0, .ref a0), (1, .int p1)] := hl
  have hx := X.1
  have hb := X.2.1
  have hown := X.2.2.2.1
  unfold wpL_copies at hw
  refine lv_aload_n hx hb dL_copies_0 rfl (lv_at hl 0 rfl) ?_
  refine lv_iload_n hx hb dL_copies_1 rfl (lv_at hl 1 rfl) ?_
  obtain ⟨k2, hw⟩ := hw
  refine rx_VH (As := [.int p1]) (rest := []) X h k2 (by decide) rfl (meX6_copies l hl9 G _ _ _ _ _ hw) gV_L_86 rfl rfl hdV_X6_copies rfl ⟨Nat.le_of_ble_eq_true rfl, Nat.le_of_ble_eq_true rfl⟩ hl.1 rfl (Nat.le_of_ble_eq_true rfl) ⟨Nat.le_of_ble_eq_true rfl, Nat.le_of_ble_eq_true rfl⟩ dL_copies_2 (fun k4 S5 H locs q9 ce hw h hce hcv hcl => ?_) (fun x3 S1 H locs hw h => ?_)
  · rcases hw.2 with hk9
    · subst hk9
      have hw := hw.1 rfl
      refine vx_catch (own := RL) (name := "java/lang/IndexOutOfBoundsException") (E := xn 1) hown [] ⟨0, 5, 6, 26⟩ [] (by rw [hTab]; rfl) (fun z hz => nomatch hz) (by decide) (by decide) (X.hts q262) (va_Nw.use (by rfl) (X.nw q296)) hce hcv hcl ?_
      refine lv_astore_n (lv' := [(2, .ref q9), (0, .ref a0), (1, .int p1)]) hx hb dL_copies_6 rfl hl (by decide) rfl (fun ls hl => ?_)
      refine lv_bipush (v := (-77 : Int32)) hx hb dL_copies_7 (by decide) ?_
      exact (en_i X h hr hw (Nat.le_of_ble_eq_true rfl) (Nat.le_of_ble_eq_true rfl) dL_copies_9)
  · exact (en_i X h hr hw (Nat.le_of_ble_eq_true rfl) (Nat.le_of_ble_eq_true rfl) dL_copies_5)
abbrev rmL_copiesn : Room := { frames := 3, cells := 0, slots := 0, locals := 64 }
def wpL_copiesn (S : Mem) (a0 : Nat) (p1 : Int32) (post : Int32 → Mem → Prop) : Prop := isK S a0 6 ∧ (wpX6_copiesn S a0 p1 (fun x3 S1 => post x3 S1))
set_option maxHeartbeats 4000000 in
set_option maxRecDepth 100000 in
theorem meL_copiesn (l : Launch) (hl9 : l.stackTraces = false) (G : GT) (S : Mem) (a0 : Nat) (p1 : Int32) (post : Int32 → Mem → Prop) (hw : wpL_copiesn S a0 p1 post) : CN emI l yL_copies (wsH yL_copies cL_copies 3 (some .int) [(0, 5, 6, 26)]) rmL_copiesn 0 0 G [.ref a0, .int p1] S post := by
  refine ch_open RL rfl (by decide +kernel) (Nat.le_of_ble_eq_true rfl) ?_
  intro p e s m args below meth c A X h hr hTab ls hl
  have hl : lv_has ls 3 [(0, .ref a0), (1, .int p1)] := hl
  have hx := X.1
  have hb := X.2.1
  have hown := X.2.2.2.1
  unfold wpL_copiesn at hw
  refine lv_aload_n hx hb dL_copies_0 rfl (lv_at hl 0 rfl) ?_
  refine lv_iload_n hx hb dL_copies_1 rfl (lv_at hl 1 rfl) ?_
  obtain ⟨k2, hw⟩ := hw
  refine rc_V (As := [.int p1]) (rest := []) X h k2 (by decide) rfl (meX6_copiesn l G _ _ _ _ hw) gV_L_86 rfl rfl hdV_X6_copies rfl ⟨Nat.le_of_ble_eq_true rfl, Nat.le_of_ble_eq_true rfl⟩ hl.1 rfl (Nat.le_of_ble_eq_true rfl) ⟨Nat.le_of_ble_eq_true rfl, Nat.le_of_ble_eq_true rfl⟩ dL_copies_2 (fun x3 S1 H locs hw h => ?_)
  exact (en_i X h hr hw (Nat.le_of_ble_eq_true rfl) (Nat.le_of_ble_eq_true rfl) dL_copies_5)
abbrev rmX2_showsInOtherState : Room := { frames := 2, cells := 0, slots := 0, locals := 42 }
def wlX2_showsInOtherState_2 (a0 : Nat) (p1 : Int32) (p2 : Int32)  (post : Int32 → Mem → Prop)  : Nat → Int32 → Mem → Prop
  | 0 => fun _ _ => False
  | n + 1 => fun w3 S => isK S a0 2 ∧ (((mI S a0 1) < w3 → (vz_nar (nI 0) ∧ (post (nI 0) S))) ∧ (¬ (mI S a0 1) < w3 → (wpX2_contentOf S a0 w3 (fun x5 S4 => (¬ x5 = p1 → (∀ x7 : Int32, x7 = (w3 + (nI 1)) → (wlX2_showsInOtherState_2 a0 p1 p2 post n x7 S4))) ∧ (x5 = p1 → (isK S4 a0 2 ∧ (wpX2_keptState S4 a0 w3 (fun x10 S8 => (x10 = p2 → (∀ x12 : Int32, x12 = (w3 + (nI 1)) → (wlX2_showsInOtherState_2 a0 p1 p2 post n x12 S8))) ∧ (¬ x10 = p2 → (vz_nar (nI 1) ∧ (post (nI 1) S8)))))))))))
set_option maxHeartbeats 4000000 in
set_option maxRecDepth 100000 in
theorem llX2_showsInOtherState_2 {p : Program} {l : Launch} {e : Env} {s : State} {m : MethodId} {args : Array Value} {below : List Frame} {meth : Method} {c : Code} {G : GT} {A : Nat → Prop} (X : Cx p s m args meth c cX2_showsInOtherState 4 RX2 G A) (hr : meth.sig.returnType = (some .boolean)) (a0 : Nat) (p1 : Int32) (p2 : Int32)  (post : Int32 → Mem → Prop)   : ∀ (n : Nat) (w3 : Int32) (S : Mem), wlX2_showsInOtherState_2 a0 p1 p2 post n w3 S → ∀ (H : Heap) (locs : List Loc) (ls : Array Slot), Hx G A s.heap H locs S → lv_has ls 4 [(0, .ref a0), (1, .int p1), (2, .int p2), (3, .int w3)] → W p l e rmX2_showsInOtherState s m args below meth c H locs 0 0 (MQ below (QN emI post G A) args s 0 0 A) (F0 m 2 ls []) := by
  have hx := X.1
  have hb := X.2.1
  have hown := X.2.2.2.1
  intro n
  induction n with
  | zero =>
    intro _ _ hw
    exact hw.elim
  | succ n ih =>
    intro w3 S hw H locs ls h hl
    refine lv_iload_n hx hb dX2_showsInOtherState_2 rfl (lv_at hl 3 rfl) ?_
    refine lv_aload_n hx hb dX2_showsInOtherState_3 rfl (lv_at hl 0 rfl) ?_
    obtain ⟨k1, hw⟩ := hw
    refine r_getI X h k1 1  (by decide) rfl inX2 (by decide) rfl q628 rfl dX2_showsInOtherState_4 ?_
    refine lv_icmp_gt (tgt := 36) hx hb dX2_showsInOtherState_7 (by decide) (fun c2 => ?_) (fun c2 => ?_)
    · have hw := hw.1 c2
      refine lv_iconst (v := (nI 0)) hx hb dX2_showsInOtherState_36 (by decide) ?_
      obtain ⟨b3, hw⟩ := hw
      exact (en_z X h hr b3 hw (Nat.le_of_ble_eq_true rfl) (Nat.le_of_ble_eq_true rfl) dX2_showsInOtherState_37)
    · have hw := hw.2 c2
      refine lv_aload_n hx hb dX2_showsInOtherState_10 rfl (lv_at hl 0 rfl) ?_
      refine lv_iload_n hx hb dX2_showsInOtherState_11 rfl (lv_at hl 3 rfl) ?_
      refine rc_V (As := [.int w3]) (rest := []) X h k1 (by decide) rfl (meX2_contentOf l G _ _ _ _ hw) gV_X2_36 rfl rfl hdV_X2_contentOf rfl ⟨Nat.le_of_ble_eq_true rfl, Nat.le_of_ble_eq_true rfl⟩ hl.1 rfl (Nat.le_of_ble_eq_true rfl) ⟨Nat.le_of_ble_eq_true rfl, Nat.le_of_ble_eq_true rfl⟩ dX2_showsInOtherState_12 (fun x5 S4 H locs hw h => ?_)
      refine lv_iload_n hx hb dX2_showsInOtherState_15 rfl (lv_at hl 1 rfl) ?_
      refine lv_icmp_ne (tgt := 30) hx hb dX2_showsInOtherState_16 (by decide) (fun c6 => ?_) (fun c6 => ?_)
      · have hw := hw.1 c6
        obtain ⟨x7, ex7⟩ : ∃ y : Int32, y = (w3 + (nI 1)) := ⟨_, rfl⟩
        have hw := hw x7 ex7
        refine lv_iinc (v := x7) (lv' := [(3, .int x7), (0, .ref a0), (1, .int p1), (2, .int p2)]) hx hb dX2_showsInOtherState_30 hl (k := 3) rfl (by rw [ex7]; rfl) (by decide) rfl (fun ls hl => ?_)
        refine lv_goto (tgt := 2) hx hb dX2_showsInOtherState_33 (by decide) ?_
        exact ih _ _ hw _ _ _ h (lv_sub hl [1, 2, 3, 0] rfl)
      · have hw := hw.2 c6
        refine lv_aload_n hx hb dX2_showsInOtherState_19 rfl (lv_at hl 0 rfl) ?_
        refine lv_iload_n hx hb dX2_showsInOtherState_20 rfl (lv_at hl 3 rfl) ?_
        obtain ⟨k9, hw⟩ := hw
        refine rc_V (As := [.int w3]) (rest := []) X h k9 (by decide) rfl (meX2_keptState l G _ _ _ _ hw) gV_X2_40 rfl rfl hdV_X2_keptState rfl ⟨Nat.le_of_ble_eq_true rfl, Nat.le_of_ble_eq_true rfl⟩ hl.1 rfl (Nat.le_of_ble_eq_true rfl) ⟨Nat.le_of_ble_eq_true rfl, Nat.le_of_ble_eq_true rfl⟩ dX2_showsInOtherState_21 (fun x10 S8 H locs hw h => ?_)
        refine lv_iload_n hx hb dX2_showsInOtherState_24 rfl (lv_at hl 2 rfl) ?_
        refine lv_icmp_eq (tgt := 30) hx hb dX2_showsInOtherState_25 (by decide) (fun c11 => ?_) (fun c11 => ?_)
        · have hw := hw.1 c11
          obtain ⟨x12, ex12⟩ : ∃ y : Int32, y = (w3 + (nI 1)) := ⟨_, rfl⟩
          have hw := hw x12 ex12
          refine lv_iinc (v := x12) (lv' := [(3, .int x12), (0, .ref a0), (1, .int p1), (2, .int p2)]) hx hb dX2_showsInOtherState_30 hl (k := 3) rfl (by rw [ex12]; rfl) (by decide) rfl (fun ls hl => ?_)
          refine lv_goto (tgt := 2) hx hb dX2_showsInOtherState_33 (by decide) ?_
          exact ih _ _ hw _ _ _ h (lv_sub hl [1, 2, 3, 0] rfl)
        · have hw := hw.2 c11
          refine lv_iconst (v := (nI 1)) hx hb dX2_showsInOtherState_28 (by decide) ?_
          obtain ⟨b13, hw⟩ := hw
          exact (en_z X h hr b13 hw (Nat.le_of_ble_eq_true rfl) (Nat.le_of_ble_eq_true rfl) dX2_showsInOtherState_29)
def wpX2_showsInOtherState (S : Mem) (a0 : Nat) (p1 : Int32) (p2 : Int32) (post : Int32 → Mem → Prop) : Prop := ∃ m, wlX2_showsInOtherState_2 a0 p1 p2 post m (nI 1) S
set_option maxHeartbeats 4000000 in
set_option maxRecDepth 100000 in
theorem meX2_showsInOtherState (l : Launch) (G : GT) (S : Mem) (a0 : Nat) (p1 : Int32) (p2 : Int32) (post : Int32 → Mem → Prop) (hw : wpX2_showsInOtherState S a0 p1 p2 post) : CN emI l yX2_showsInOtherState (wsU yX2_showsInOtherState cX2_showsInOtherState 4 (some .boolean)) rmX2_showsInOtherState 0 0 G [.ref a0, .int p1, .int p2] S post := by
  refine cn_open RX2 rfl (by decide +kernel) (Nat.le_of_ble_eq_true rfl) ?_
  intro p e s m args below meth c A X h hr hin ls hl
  have hl : lv_has ls 4 [(0, .ref a0), (1, .int p1), (2, .int p2)] := hl
  have hx := X.1
  have hb := X.2.1
  have hown := X.2.2.2.1
  unfold wpX2_showsInOtherState at hw
  refine lv_iconst (v := (nI 1)) hx hb dX2_showsInOtherState_0 (by decide) ?_
  refine lv_istore_n (lv' := [(3, .int (nI 1)), (0, .ref a0), (1, .int p1), (2, .int p2)]) hx hb dX2_showsInOtherState_1 rfl hl (by decide) rfl (fun ls hl => ?_)
  obtain ⟨n14, hw⟩ := hw
  exact llX2_showsInOtherState_2  X hr _ _ _ _ n14 _ _ hw _ _ _ h (lv_sub hl [1, 2, 3, 0] rfl)
abbrev rmX6_outdated : Room := { frames := 7, cells := 1, slots := 6, locals := 111 }
def wlX6_outdated_19 (a0 : Nat) (p1 : Int32) (x8 : Int32) (post : Int32 → Mem → Prop) (px : Nat → Mem → Prop)  : Nat → Int32 → Int32 → Mem → Prop
  | 0 => fun _ _ _ => False
  | n + 1 => fun w3 w4 S => ((nI 100) ≤ w4 → (post w3 S)) ∧ (¬ (nI 100) ≤ w4 → (isK S a0 6 ∧ (wpX6_findLot S a0 w4 (fun r12 S10 => (r12 = none → (∀ x14 : Int32, x14 = (w4 + (nI 1)) → (wlX6_outdated_19 a0 p1 x8 post px n w3 x14 S10))) ∧ (∀ o13, r12 = some o13 → (isK S10 o13 2 ∧ (wpX2_showsInOtherState S10 o13 p1 x8 (fun x17 S15 => (x17 = 0 → (∀ x19 : Int32, x19 = (w4 + (nI 1)) → (wlX6_outdated_19 a0 p1 x8 post px n w3 x19 S15))) ∧ (¬ x17 = 0 → (isK S15 o13 2 ∧ (∀ x21 : Int32, x21 = (w3 + (mI S15 o13 0)) → (∀ x22 : Int32, x22 = (w4 + (nI 1)) → (wlX6_outdated_19 a0 p1 x8 post px n x21 x22 S15)))))))))))))
set_option maxHeartbeats 4000000 in
set_option maxRecDepth 100000 in
theorem llX6_outdated_19 {p : Program} {l : Launch} {e : Env} {s : State} {m : MethodId} {args : Array Value} {below : List Frame} {meth : Method} {c : Code} {G : GT} {A : Nat → Prop} (hl9 : l.stackTraces = false) (hno : ∀ x ∈ c.exceptionTable.toList, False) (X : Cx p s m args meth c cX6_outdated 6 RX6 G A) (hr : meth.sig.returnType = (some .int)) (a0 : Nat) (p1 : Int32) (x8 : Int32) (post : Int32 → Mem → Prop) (px : Nat → Mem → Prop)   : ∀ (n : Nat) (w3 : Int32) (w4 : Int32) (S : Mem), wlX6_outdated_19 a0 p1 x8 post px n w3 w4 S → ∀ (H : Heap) (locs : List Loc) (ls : Array Slot), Hx G A s.heap H locs S → lv_has ls 6 [(0, .ref a0), (1, .int p1), (2, .int x8), (3, .int w3), (4, .int w4)] → W p l e rmX6_outdated s m args below meth c H locs 1 6 (vx_MQ below (QN emI post G A) (QX px G A) args s 1 6 A) (F0 m 19 ls []) := by
  have hx := X.1
  have hb := X.2.1
  have hown := X.2.2.2.1
  intro n
  induction n with
  | zero =>
    intro _ _ _ hw
    exact hw.elim
  | succ n ih =>
    intro w3 w4 S hw H locs ls h hl
    refine lv_iload hx hb dX6_outdated_19 (lv_at hl 4 rfl) ?_
    refine lv_bipush (v := (nI 100)) hx hb dX6_outdated_21 (by decide) ?_
    refine lv_icmp_ge (tgt := 63) hx hb dX6_outdated_23 (by decide) (fun c9 => ?_) (fun c9 => ?_)
    · have hw := hw.1 c9
      refine lv_iload_n hx hb dX6_outdated_63 rfl (lv_at hl 3 rfl) ?_
      exact vx_ret (en_i X h hr hw (Nat.le_of_ble_eq_true rfl) (Nat.le_of_ble_eq_true rfl) dX6_outdated_64)
    · have hw := hw.2 c9
      refine lv_aload_n hx hb dX6_outdated_26 rfl (lv_at hl 0 rfl) ?_
      refine lv_iload hx hb dX6_outdated_27 (lv_at hl 4 rfl) ?_
      obtain ⟨k11, hw⟩ := hw
      refine rc_V (As := [.int w4]) (rest := []) X h k11 (by decide) rfl (meX6_findLot l G _ _ _ _ hw) gV_X6_266 rfl rfl hdV_X6_findLot rfl ⟨Nat.le_of_ble_eq_true rfl, Nat.le_of_ble_eq_true rfl⟩ hl.1 rfl (Nat.le_of_ble_eq_true rfl) ⟨Nat.le_of_ble_eq_true rfl, Nat.le_of_ble_eq_true rfl⟩ dX6_outdated_29 (fun r12 S10 H locs hw h => ?_)
      rcases r12 with _ | o13
      · have hw := hw.1 rfl
        refine lv_astoreN (lv' := [(5, .null), (0, .ref a0), (1, .int p1), (2, .int x8), (3, .int w3), (4, .int w4)]) hx hb dX6_outdated_32 hl (by decide) rfl (fun ls hl => ?_)
        refine lv_aloadN hx hb dX6_outdated_34 (lv_at hl 0 rfl) ?_
        refine lv_ifnullN (tgt := 57) hx hb dX6_outdated_36 (by decide) ?_
        obtain ⟨x14, ex14⟩ : ∃ y : Int32, y = (w4 + (nI 1)) := ⟨_, rfl⟩
        have hw := hw x14 ex14
        refine lv_iinc (v := x14) (lv' := [(4, .int x14), (5, .null), (0, .ref a0), (1, .int p1), (2, .int x8), (3, .int w3)]) hx hb dX6_outdated_57 hl (k := 5) rfl (by rw [ex14]; rfl) (by decide) rfl (fun ls hl => ?_)
        refine lv_goto (tgt := 19) hx hb dX6_outdated_60 (by decide) ?_
        exact ih _ _ _ hw _ _ _ h (lv_sub hl [2, 3, 4, 5, 0] rfl)
      · have hw := hw.2 o13 rfl
        refine lv_astore (lv' := [(5, .ref o13), (0, .ref a0), (1, .int p1), (2, .int x8), (3, .int w3), (4, .int w4)]) hx hb dX6_outdated_32 hl (by decide) rfl (fun ls hl => ?_)
        refine lv_aload hx hb dX6_outdated_34 (lv_at hl 0 rfl) ?_
        refine lv_ifnull hx hb dX6_outdated_36 ?_
        refine lv_aload hx hb dX6_outdated_39 (lv_at hl 0 rfl) ?_
        refine lv_iload_n hx hb dX6_outdated_41 rfl (lv_at hl 2 rfl) ?_
        refine lv_iload_n hx hb dX6_outdated_42 rfl (lv_at hl 3 rfl) ?_
        obtain ⟨k16, hw⟩ := hw
        refine rc_V (As := [.int p1, .int x8]) (rest := []) X h k16 (by decide) rfl (meX2_showsInOtherState l G _ _ _ _ _ hw) gV_X6_269 rfl rfl hdV_X2_showsInOtherState rfl ⟨Nat.le_of_ble_eq_true rfl, Nat.le_of_ble_eq_true rfl⟩ hl.1 rfl (Nat.le_of_ble_eq_true rfl) ⟨Nat.le_of_ble_eq_true rfl, Nat.le_of_ble_eq_true rfl⟩ dX6_outdated_43 (fun x17 S15 H locs hw h => ?_)
        refine lv_if_eq (tgt := 57) hx hb dX6_outdated_46 (by decide) (fun c18 => ?_) (fun c18 => ?_)
        · have hw := hw.1 c18
          obtain ⟨x19, ex19⟩ : ∃ y : Int32, y = (w4 + (nI 1)) := ⟨_, rfl⟩
          have hw := hw x19 ex19
          refine lv_iinc (v := x19) (lv' := [(4, .int x19), (5, .ref o13), (0, .ref a0), (1, .int p1), (2, .int x8), (3, .int w3)]) hx hb dX6_outdated_57 hl (k := 5) rfl (by rw [ex19]; rfl) (by decide) rfl (fun ls hl => ?_)
          refine lv_goto (tgt := 19) hx hb dX6_outdated_60 (by decide) ?_
          exact ih _ _ _ hw _ _ _ h (lv_sub hl [2, 3, 4, 5, 0] rfl)
        · have hw := hw.2 c18
          refine lv_iload_n hx hb dX6_outdated_49 rfl (lv_at hl 4 rfl) ?_
          refine lv_aload hx hb dX6_outdated_50 (lv_at hl 0 rfl) ?_
          obtain ⟨k20, hw⟩ := hw
          refine r_getIN X h k20 0  (by decide) rfl inX2 (by decide) rfl q627 rfl dX6_outdated_52 ?_
          refine lv_iadd hx hb dX6_outdated_55 ?_
          refine lv_topi (fun x21 ex21 => ?_)
          have hw := hw x21 ex21
          refine lv_istore_n (lv' := [(3, .int x21), (5, .ref o13), (0, .ref a0), (1, .int p1), (2, .int x8), (4, .int w4)]) hx hb dX6_outdated_56 rfl hl (by decide) rfl (fun ls hl => ?_)
          obtain ⟨x22, ex22⟩ : ∃ y : Int32, y = (w4 + (nI 1)) := ⟨_, rfl⟩
          have hw := hw x22 ex22
          refine lv_iinc (v := x22) (lv' := [(4, .int x22), (3, .int x21), (5, .ref o13), (0, .ref a0), (1, .int p1), (2, .int x8)]) hx hb dX6_outdated_57 hl (k := 5) rfl (by rw [ex22]; rfl) (by decide) rfl (fun ls hl => ?_)
          refine lv_goto (tgt := 19) hx hb dX6_outdated_60 (by decide) ?_
          exact ih _ _ _ hw _ _ _ h (lv_sub hl [3, 4, 5, 1, 0] rfl)
def wpX6_outdated (S : Mem) (a0 : Nat) (p1 : Int32) (post : Int32 → Mem → Prop) (px : Nat → Mem → Prop) : Prop := isK S a0 6 ∧ (wpX6_requireContent S a0 p1 (fun u3 S1 => isK S1 a0 6 ∧ (∃ o5, mR S1 a0 0 = some o5 ∧ (isK S1 o5 0 ∧ (wpX0_stateOf S1 o5 p1 (fun x8 S6 => ∃ m, wlX6_outdated_19 a0 p1 x8 post px m (nI 0) (nI 0) S6))))) px)
set_option maxHeartbeats 4000000 in
set_option maxRecDepth 100000 in
theorem meX6_outdated (l : Launch) (hl9 : l.stackTraces = false) (G : GT) (S : Mem) (a0 : Nat) (p1 : Int32) (post : Int32 → Mem → Prop) (px : Nat → Mem → Prop) (hw : wpX6_outdated S a0 p1 post px) : CX emI l yX6_outdated (wsU yX6_outdated cX6_outdated 6 (some .int)) rmX6_outdated 1 6 G [.ref a0, .int p1] S post px := by
  refine cx_open RX6 rfl (by decide +kernel) (Nat.le_of_ble_eq_true rfl) ?_
  intro p e s m args below meth c A X h hr hno ls hl
  have hl : lv_has ls 6 [(0, .ref a0), (1, .int p1)] := hl
  have hx := X.1
  have hb := X.2.1
  have hown := X.2.2.2.1
  unfold wpX6_outdated at hw
  refine lv_aload_n hx hb dX6_outdated_0 rfl (lv_at hl 0 rfl) ?_
  refine lv_iload_n hx hb dX6_outdated_1 rfl (lv_at hl 1 rfl) ?_
  obtain ⟨k2, hw⟩ := hw
  refine rx_V (As := [.int p1]) (rest := []) X h hno k2 (by decide) rfl (meX6_requireContent l hl9 G _ _ _ _ _ hw) gV_X6_64 rfl rfl hdV_X6_requireContent rfl ⟨Nat.le_of_ble_eq_true rfl, Nat.le_of_ble_eq_true rfl⟩ hl.1 rfl (Nat.le_of_ble_eq_true rfl) ⟨Nat.le_of_ble_eq_true rfl, Nat.le_of_ble_eq_true rfl⟩ ⟨Nat.le_of_ble_eq_true rfl, Nat.le_of_ble_eq_true rfl⟩ dX6_outdated_2 (fun u3 S1 H locs hw h => ?_)
  refine lv_aload_n hx hb dX6_outdated_5 rfl (lv_at hl 0 rfl) ?_
  obtain ⟨k4, hw⟩ := hw
  obtain ⟨o5, eo5, hw⟩ := hw
  refine r_getR X h k4 0 eo5  (by decide) rfl inX6 (by decide) rfl q120 rfl dX6_outdated_6 ?_
  refine lv_iload_n hx hb dX6_outdated_9 rfl (lv_at hl 1 rfl) ?_
  obtain ⟨k7, hw⟩ := hw
  refine rc_V (As := [.int p1]) (rest := []) X h k7 (by decide) rfl (meX0_stateOf l G _ _ _ _ hw) gV_X6_76 rfl rfl hdV_X0_stateOf rfl ⟨Nat.le_of_ble_eq_true rfl, Nat.le_of_ble_eq_true rfl⟩ hl.1 rfl (Nat.le_of_ble_eq_true rfl) ⟨Nat.le_of_ble_eq_true rfl, Nat.le_of_ble_eq_true rfl⟩ dX6_outdated_10 (fun x8 S6 H locs hw h => ?_)
  refine lv_istore_n (lv' := [(2, .int x8), (0, .ref a0), (1, .int p1)]) hx hb dX6_outdated_13 rfl hl (by decide) rfl (fun ls hl => ?_)
  refine lv_iconst (v := (nI 0)) hx hb dX6_outdated_14 (by decide) ?_
  refine lv_istore_n (lv' := [(3, .int (nI 0)), (2, .int x8), (0, .ref a0), (1, .int p1)]) hx hb dX6_outdated_15 rfl hl (by decide) rfl (fun ls hl => ?_)
  refine lv_iconst (v := (nI 0)) hx hb dX6_outdated_16 (by decide) ?_
  refine lv_istore (lv' := [(4, .int (nI 0)), (3, .int (nI 0)), (2, .int x8), (0, .ref a0), (1, .int p1)]) hx hb dX6_outdated_17 hl (by decide) rfl (fun ls hl => ?_)
  obtain ⟨n23, hw⟩ := hw
  exact llX6_outdated_19 hl9 hno X hr _ _ _ _ _ n23 _ _ _ hw _ _ _ h (lv_sub hl [3, 4, 2, 1, 0] rfl)
abbrev rmL_outdated : Room := { frames := 8, cells := 1, slots := 6, locals := 136 }
def wpL_outdated (S : Mem) (a0 : Nat) (p1 : Int32) (post : Int32 → Mem → Prop) : Prop := isK S a0 6 ∧ (wpX6_outdated S a0 p1 (fun x3 S1 => post x3 S1) (fun k4 S5 => (k4 = 1 → (post (-77 : Int32) S5)) ∧ (k4 = 1)))
set_option maxHeartbeats 4000000 in
set_option maxRecDepth 100000 in
theorem meL_outdated (l : Launch) (hl9 : l.stackTraces = false) (G : GT) (S : Mem) (a0 : Nat) (p1 : Int32) (post : Int32 → Mem → Prop) (hw : wpL_outdated S a0 p1 post) : CN emI l yL_outdated (wsH yL_outdated cL_outdated 3 (some .int) [(0, 5, 6, 26)]) rmL_outdated 1 6 G [.ref a0, .int p1] S post := by
  refine ch_open RL rfl (by decide +kernel) (Nat.le_of_ble_eq_true rfl) ?_
  intro p e s m args below meth c A X h hr hTab ls hl
  have hl : lv_has ls 3 [(0, .ref a0), (1, .int p1)] := hl
  have hx := X.1
  have hb := X.2.1
  have hown := X.2.2.2.1
  unfold wpL_outdated at hw
  refine lv_aload_n hx hb dL_outdated_0 rfl (lv_at hl 0 rfl) ?_
  refine lv_iload_n hx hb dL_outdated_1 rfl (lv_at hl 1 rfl) ?_
  obtain ⟨k2, hw⟩ := hw
  refine rx_VH (As := [.int p1]) (rest := []) X h k2 (by decide) rfl (meX6_outdated l hl9 G _ _ _ _ _ hw) gV_L_95 rfl rfl hdV_X6_outdated rfl ⟨Nat.le_of_ble_eq_true rfl, Nat.le_of_ble_eq_true rfl⟩ hl.1 rfl (Nat.le_of_ble_eq_true rfl) ⟨Nat.le_of_ble_eq_true rfl, Nat.le_of_ble_eq_true rfl⟩ dL_outdated_2 (fun k4 S5 H locs q9 ce hw h hce hcv hcl => ?_) (fun x3 S1 H locs hw h => ?_)
  · rcases hw.2 with hk9
    · subst hk9
      have hw := hw.1 rfl
      refine vx_catch (own := RL) (name := "java/lang/IndexOutOfBoundsException") (E := xn 1) hown [] ⟨0, 5, 6, 26⟩ [] (by rw [hTab]; rfl) (fun z hz => nomatch hz) (by decide) (by decide) (X.hts q262) (va_Nw.use (by rfl) (X.nw q296)) hce hcv hcl ?_
      refine lv_astore_n (lv' := [(2, .ref q9), (0, .ref a0), (1, .int p1)]) hx hb dL_outdated_6 rfl hl (by decide) rfl (fun ls hl => ?_)
      refine lv_bipush (v := (-77 : Int32)) hx hb dL_outdated_7 (by decide) ?_
      exact (en_i X h hr hw (Nat.le_of_ble_eq_true rfl) (Nat.le_of_ble_eq_true rfl) dL_outdated_9)
  · exact (en_i X h hr hw (Nat.le_of_ble_eq_true rfl) (Nat.le_of_ble_eq_true rfl) dL_outdated_5)
