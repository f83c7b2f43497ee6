abbrev rmX6_sheets : Room := { frames := 8, cells := 2, slots := 12, locals := 134 }
def wpX6_sheets (S : Mem) (a0 : Nat) (p1 : Int32) (post : Int32 → Mem → Prop) (px : Nat → Mem → Prop) : Prop := isK S a0 6 ∧ (wpX6_completeJob S a0 p1 (fun r3 S1 => ∃ o4, r3 = some o4 ∧ (isK S1 o4 1 ∧ (wpX1_sheetCount S1 o4 (fun x7 S5 => post x7 S5)))) px)
set_option maxHeartbeats 4000000 in
set_option maxRecDepth 100000 in
theorem meX6_sheets (l : Launch) (hl9 : l.stackTraces = false) (G : GT) (S : Mem) (a0 : Nat) (p1 : Int32) (post : Int32 → Mem → Prop) (px : Nat → Mem → Prop) (hw : wpX6_sheets S a0 p1 post px) : CX emI l yX6_sheets (wsU yX6_sheets cX6_sheets 2 (some .int)) rmX6_sheets 2 12 G [.ref a0, .int p1] S post px := by
  refine cx_open RX6 rfl (by decide +kernel) (Nat.le_of_ble_eq_true rfl) ?_
  intro p e s m args below meth c A X h hr hno ls hl
  have hl : lv_has ls 2 [(0, .ref a0), (1, .int p1)] := hl
  have hx := X.1
  have hb := X.2.1
  have hown := X.2.2.2.1
  unfold wpX6_sheets at hw
  refine lv_aload_n hx hb dX6_sheets_0 rfl (lv_at hl 0 rfl) ?_
  refine lv_iload_n hx hb dX6_sheets_1 rfl (lv_at hl 1 rfl) ?_
  obtain ⟨k2, hw⟩ := hw
  refine rx_V (As := [.int p1]) (rest := []) X h hno k2 (by decide) rfl (meX6_completeJob l hl9 G _ _ _ _ _ hw) gV_X6_121 rfl rfl hdV_X6_completeJob rfl ⟨Nat.le_of_ble_eq_true rfl, Nat.le_of_ble_eq_true rfl⟩ hl.1 rfl (Nat.le_of_ble_eq_true rfl) ⟨Nat.le_of_ble_eq_true rfl, Nat.le_of_ble_eq_true rfl⟩ ⟨Nat.le_of_ble_eq_true rfl, Nat.le_of_ble_eq_true rfl⟩ dX6_sheets_2 (fun r3 S1 H locs hw h => ?_)
  obtain ⟨o4, rfl, hw⟩ := hw
  obtain ⟨k6, hw⟩ := hw
  refine rc_V (As := []) (rest := []) X h k6 (by decide) rfl (meX1_sheetCount l G _ _ _ hw) gV_X6_124 rfl rfl hdV_X1_sheetCount rfl ⟨Nat.le_of_ble_eq_true rfl, Nat.le_of_ble_eq_true rfl⟩ hl.1 rfl (Nat.le_of_ble_eq_true rfl) ⟨Nat.le_of_ble_eq_true rfl, Nat.le_of_ble_eq_true rfl⟩ dX6_sheets_5 (fun x7 S5 H locs hw h => ?_)
  exact vx_ret (en_i X h hr hw (Nat.le_of_ble_eq_true rfl) (Nat.le_of_ble_eq_true rfl) dX6_sheets_8)
abbrev rmL_sheets : Room := { frames := 9, cells := 2, slots := 12, locals := 155 }
def wpL_sheets (S : Mem) (a0 : Nat) (p1 : Int32) (post : Int32 → Mem → Prop) : Prop := isK S a0 6 ∧ (wpX6_sheets S a0 p1 (fun x3 S1 => post x3 S1) (fun k4 S5 => (k4 = 1 → (post (-77 : Int32) S5)) ∧ (k4 = 2 → (post (-79 : Int32) S5)) ∧ (k4 = 1 ∨ k4 = 2)))
set_option maxHeartbeats 4000000 in
set_option maxRecDepth 100000 in
theorem meL_sheets (l : Launch) (hl9 : l.stackTraces = false) (G : GT) (S : Mem) (a0 : Nat) (p1 : Int32) (post : Int32 → Mem → Prop) (hw : wpL_sheets S a0 p1 post) : CN emI l yL_sheets (wsH yL_sheets cL_sheets 3 (some .int) [(0, 5, 6, 26), (0, 5, 10, 20)]) rmL_sheets 2 12 G [.ref a0, .int p1] S post := by
  refine ch_open RL rfl (by decide +kernel) (Nat.le_of_ble_eq_true rfl) ?_
  intro p e s m args below meth c A X h hr hTab ls hl
  have hl : lv_has ls 3 [(0, .ref a0), (1, .int p1)] := hl
  have hx := X.1
  have hb := X.2.1
  have hown := X.2.2.2.1
  unfold wpL_sheets at hw
  refine lv_aload_n hx hb dL_sheets_0 rfl (lv_at hl 0 rfl) ?_
  refine lv_iload_n hx hb dL_sheets_1 rfl (lv_at hl 1 rfl) ?_
  obtain ⟨k2, hw⟩ := hw
  refine rx_VH (As := [.int p1]) (rest := []) X h k2 (by decide) rfl (meX6_sheets l hl9 G _ _ _ _ _ hw) gV_L_48 rfl rfl hdV_X6_sheets rfl ⟨Nat.le_of_ble_eq_true rfl, Nat.le_of_ble_eq_true rfl⟩ hl.1 rfl (Nat.le_of_ble_eq_true rfl) ⟨Nat.le_of_ble_eq_true rfl, Nat.le_of_ble_eq_true rfl⟩ dL_sheets_2 (fun k4 S5 H locs q9 ce hw h hce hcv hcl => ?_) (fun x3 S1 H locs hw h => ?_)
  · rcases hw.2.2 with hk9 | hk9
    · subst hk9
      have hw := hw.1 rfl
      refine vx_catch (own := RL) (name := "java/lang/IndexOutOfBoundsException") (E := xn 1) hown [] ⟨0, 5, 6, 26⟩ [⟨0, 5, 10, 20⟩] (by rw [hTab]; rfl) (fun z hz => nomatch hz) (by decide) (by decide) (X.hts q262) (va_Nw.use (by rfl) (X.nw q296)) hce hcv hcl ?_
      refine lv_astore_n (lv' := [(2, .ref q9), (0, .ref a0), (1, .int p1)]) hx hb dL_sheets_6 rfl hl (by decide) rfl (fun ls hl => ?_)
      refine lv_bipush (v := (-77 : Int32)) hx hb dL_sheets_7 (by decide) ?_
      exact (en_i X h hr hw (Nat.le_of_ble_eq_true rfl) (Nat.le_of_ble_eq_true rfl) dL_sheets_9)
    · subst hk9
      have hw := hw.2.1 rfl
      have hpass2 : ∀ z ∈ ([⟨0, 5, 6, 26⟩] : List ExceptionTableEntry), covers z 2 = false ∨ (z.catchType ≠ 0 ∧ ∃ nm : String, (Cond.classLink RL z.catchType nm).before args s = true ∧ va_Nc (xn 2) nm s) := by
        intro z hz
        rcases List.mem_cons.mp hz with rfl | hz
        · exact Or.inr ⟨by decide, "java/lang/IndexOutOfBoundsException", X.hts q262, X.2.2.2.2.2.2.1.2.2.2.2.1 ("java/lang/IllegalStateException", "java/lang/IndexOutOfBoundsException") (by decide +kernel)⟩
        cases hz
      refine vx_catch (own := RL) (name := "java/lang/IllegalStateException") (E := xn 2) hown [⟨0, 5, 6, 26⟩] ⟨0, 5, 10, 20⟩ [] (by rw [hTab]; rfl) (hpass2) (by decide) (by decide) (X.hts q179) (va_Nw.use (by rfl) (X.nw q186)) hce hcv hcl ?_
      refine lv_astore_n (lv' := [(2, .ref q9), (0, .ref a0), (1, .int p1)]) hx hb dL_sheets_10 rfl hl (by decide) rfl (fun ls hl => ?_)
      refine lv_bipush (v := (-79 : Int32)) hx hb dL_sheets_11 (by decide) ?_
      exact (en_i X h hr hw (Nat.le_of_ble_eq_true rfl) (Nat.le_of_ble_eq_true rfl) dL_sheets_13)
  · exact (en_i X h hr hw (Nat.le_of_ble_eq_true rfl) (Nat.le_of_ble_eq_true rfl) dL_sheets_5)
abbrev rmX6_requireSheet : Room := { frames := 6, cells := 1, slots := 6, locals := 90 }
def wpX6_requireSheet (S : Mem) (a0 : Nat) (p1 : Int32) (post : Unit → Mem → Prop) (px : Nat → Mem → Prop) : Prop := (p1 < 0 → (px 3 S)) ∧ (¬ p1 < 0 → (isK S a0 1 ∧ (wpX1_sheetCount S a0 (fun x4 S2 => (p1 < x4 → (post () S2)) ∧ (¬ p1 < x4 → (px 3 S2))))))
set_option maxHeartbeats 4000000 in
set_option maxRecDepth 100000 in
theorem meX6_requireSheet (l : Launch) (hl9 : l.stackTraces = false) (G : GT) (S : Mem) (a0 : Nat) (p1 : Int32) (post : Unit → Mem → Prop) (px : Nat → Mem → Prop) (hw : wpX6_requireSheet S a0 p1 post px) : CX emV l yX6_requireSheet (wsU yX6_requireSheet cX6_requireSheet 2 none) rmX6_requireSheet 1 6 G [.ref a0, .int p1] S post px := by
  refine cx_open RX6 rfl (by decide +kernel) (Nat.le_of_ble_eq_true rfl) ?_
  intro p e s m args below meth c A X h hr hno ls hl
  have hl : lv_has ls 2 [(0, .ref a0), (1, .int p1)] := hl
  have hx := X.1
  have hb := X.2.1
  have hown := X.2.2.2.1
  unfold wpX6_requireSheet at hw
  refine lv_iload_n hx hb dX6_requireSheet_0 rfl (lv_at hl 1 rfl) ?_
  refine lv_if_lt (tgt := 12) hx hb dX6_requireSheet_1 (by decide) (fun c1 => ?_) (fun c1 => ?_)
  · have hw := hw.1 c1
    exact en_yW ta_X6_138d0 ta_X6_138d1 ta_X6_138d2 ta_X6_138d5 3 X h hl9 th_X6_291 hl.1 hno dX6_requireSheet_12 dX6_requireSheet_15 dX6_requireSheet_16 dX6_requireSheet_19 dX6_requireSheet_22 ⟨Nat.le_of_ble_eq_true rfl, Nat.le_of_ble_eq_true rfl⟩ ⟨Nat.le_of_ble_eq_true rfl, Nat.le_of_ble_eq_true rfl⟩ ⟨Nat.le_of_ble_eq_true rfl, Nat.le_of_ble_eq_true rfl⟩ hw
  · have hw := hw.2 c1
    refine lv_iload_n hx hb dX6_requireSheet_4 rfl (lv_at hl 1 rfl) ?_
    refine lv_aload_n hx hb dX6_requireSheet_5 rfl (lv_at hl 0 rfl) ?_
    obtain ⟨k3, hw⟩ := hw
    refine rc_V (As := []) (rest := [.int p1]) X h k3 (by decide) rfl (meX1_sheetCount l G _ _ _ hw) gV_X6_124 rfl rfl hdV_X1_sheetCount rfl ⟨Nat.le_of_ble_eq_true rfl, Nat.le_of_ble_eq_true rfl⟩ hl.1 rfl (Nat.le_of_ble_eq_true rfl) ⟨Nat.le_of_ble_eq_true rfl, Nat.le_of_ble_eq_true rfl⟩ dX6_requireSheet_6 (fun x4 S2 H locs hw h => ?_)
    refine lv_icmp_lt (tgt := 23) hx hb dX6_requireSheet_9 (by decide) (fun c5 => ?_) (fun c5 => ?_)
    · have hw := hw.1 c5
      exact vx_ret (en_v X h hr hw (Nat.le_of_ble_eq_true rfl) (Nat.le_of_ble_eq_true rfl) dX6_requireSheet_23)
    · have hw := hw.2 c5
      exact en_yW ta_X6_138d0 ta_X6_138d1 ta_X6_138d2 ta_X6_138d5 3 X h hl9 th_X6_291 hl.1 hno dX6_requireSheet_12 dX6_requireSheet_15 dX6_requireSheet_16 dX6_requireSheet_19 dX6_requireSheet_22 ⟨Nat.le_of_ble_eq_true rfl, Nat.le_of_ble_eq_true rfl⟩ ⟨Nat.le_of_ble_eq_true rfl, Nat.le_of_ble_eq_true rfl⟩ ⟨Nat.le_of_ble_eq_true rfl, Nat.le_of_ble_eq_true rfl⟩ hw
abbrev rmX1_placeCount : Room := { frames := 0, cells := 0, slots := 0, locals := 0 }
def wpX1_placeCount (S : Mem) (a0 : Nat) (post : Int32 → Mem → Prop) : Prop := isK S a0 1 ∧ ((¬ (mI S a0 0) = (nI 119) → (post (nI 4) S)) ∧ ((mI S a0 0) = (nI 119) → (post (nI 2) S)))
set_option maxHeartbeats 4000000 in
set_option maxRecDepth 100000 in
theorem meX1_placeCount (l : Launch) (G : GT) (S : Mem) (a0 : Nat) (post : Int32 → Mem → Prop) (hw : wpX1_placeCount S a0 post) : CN emI l yX1_placeCount (wsU yX1_placeCount cX1_placeCount 1 (some .int)) rmX1_placeCount 0 0 G [.ref a0] S post := by
  refine cn_open RX1 rfl (by decide +kernel) (Nat.le_of_ble_eq_true rfl) ?_
  intro p e s m args below meth c A X h hr hin ls hl
  have hl : lv_has ls 1 [(0, .ref a0)] := hl
  have hx := X.1
  have hb := X.2.1
  have hown := X.2.2.2.1
  unfold wpX1_placeCount at hw
  refine lv_aload_n hx hb dX1_placeCount_0 rfl (lv_at hl 0 rfl) ?_
  obtain ⟨k1, hw⟩ := hw
  refine r_getI X h k1 0  (by decide) rfl inX1 (by decide) rfl q414 rfl dX1_placeCount_1 ?_
  refine lv_bipush (v := (nI 119)) hx hb dX1_placeCount_4 (by decide) ?_
  refine lv_icmp_ne (tgt := 13) hx hb dX1_placeCount_6 (by decide) (fun c2 => ?_) (fun c2 => ?_)
  · have hw := hw.1 c2
    refine lv_iconst (v := (nI 4)) hx hb dX1_placeCount_13 (by decide) ?_
    exact (en_i X h hr hw (Nat.le_of_ble_eq_true rfl) (Nat.le_of_ble_eq_true rfl) dX1_placeCount_14)
  · have hw := hw.2 c2
    refine lv_iconst (v := (nI 2)) hx hb dX1_placeCount_9 (by decide) ?_
    refine lv_goto (tgt := 14) hx hb dX1_placeCount_10 (by decide) ?_
    exact (en_i X h hr hw (Nat.le_of_ble_eq_true rfl) (Nat.le_of_ble_eq_true rfl) dX1_placeCount_14)
abbrev rmX1_pageOn : Room := { frames := 0, cells := 0, slots := 0, locals := 0 }
def wpX1_pageOn (S : Mem) (a0 : Nat) (p1 : Int32) (p2 : Int32) (post : Int32 → Mem → Prop) : Prop := isK S a0 1 ∧ ((¬ (mI S a0 0) = (nI 119) → ((¬ (mI S a0 0) = (nI 112) → ((¬ (0 ≤ p2.toInt ∧ p2.toInt < 3) → (post (((mI S a0 3) - ((nI 2) * p1)) - (nI 1)) S)) ∧ (p2 = nI 0 → (post ((mI S a0 3) - ((nI 2) * p1)) S)) ∧ (p2 = nI 1 → (post (((nI 2) * p1) + (nI 1)) S)) ∧ (p2 = nI 2 → (post (((nI 2) * p1) + (nI 2)) S)))) ∧ ((mI S a0 0) = (nI 112) → ((¬ p2 = 0 → (post (((nI 4) * p1) + p2) S)) ∧ (p2 = 0 → (post (((nI 4) * p1) + (nI 4)) S)))))) ∧ ((mI S a0 0) = (nI 119) → (post ((((nI 2) * p1) + (nI 1)) + p2) S)))
set_option maxHeartbeats 4000000 in
set_option maxRecDepth 100000 in
theorem meX1_pageOn (l : Launch) (G : GT) (S : Mem) (a0 : Nat) (p1 : Int32) (p2 : Int32) (post : Int32 → Mem → Prop) (hw : wpX1_pageOn S a0 p1 p2 post) : CN emI l yX1_pageOn (wsU yX1_pageOn cX1_pageOn 3 (some .int)) rmX1_pageOn 0 0 G [.ref a0, .int p1, .int p2] S post := by
  refine cn_open RX1 rfl (by decide +kernel) (Nat.le_of_ble_eq_true rfl) ?_
  intro p e s m args below meth c A X h hr hin ls hl
  have hl : lv_has ls 3 [(0, .ref a0), (1, .int p1), (2, .int p2)] := hl
  have hx := X.1
  have hb := X.2.1
  have hown := X.2.2.2.1
  unfold wpX1_pageOn at hw
  refine lv_aload_n hx hb dX1_pageOn_0 rfl (lv_at hl 0 rfl) ?_
  obtain ⟨k1, hw⟩ := hw
  refine r_getI X h k1 0  (by decide) rfl inX1 (by decide) rfl q414 rfl dX1_pageOn_1 ?_
  refine lv_bipush (v := (nI 119)) hx hb dX1_pageOn_4 (by decide) ?_
  refine lv_icmp_ne (tgt := 17) hx hb dX1_pageOn_6 (by decide) (fun c2 => ?_) (fun c2 => ?_)
  · have hw := hw.1 c2
    refine lv_aload_n hx hb dX1_pageOn_17 rfl (lv_at hl 0 rfl) ?_
    refine r_getI X h k1 0  (by decide) rfl inX1 (by decide) rfl q414 rfl dX1_pageOn_18 ?_
    refine lv_bipush (v := (nI 112)) hx hb dX1_pageOn_21 (by decide) ?_
    refine lv_icmp_ne (tgt := 44) hx hb dX1_pageOn_23 (by decide) (fun c3 => ?_) (fun c3 => ?_)
    · have hw := hw.1 c3
      refine lv_iload_n hx hb dX1_pageOn_44 rfl (lv_at hl 2 rfl) ?_
      rcases tbl_cases p2 3 (by decide) with c4 | ⟨jc4, hjc4, c4⟩
      · have hw := hw.1 c4
        refine lv_tableOut (tgt := 93) hx hb dX1_pageOn_45 (by omega) (by decide) ?_
        refine lv_aload_n hx hb dX1_pageOn_93 rfl (lv_at hl 0 rfl) ?_
        refine r_getI X h k1 3  (by decide) rfl inX1 (by decide) rfl q418 rfl dX1_pageOn_94 ?_
        refine lv_iconst (v := (nI 2)) hx hb dX1_pageOn_97 (by decide) ?_
        refine lv_iload_n hx hb dX1_pageOn_98 rfl (lv_at hl 1 rfl) ?_
        refine lv_imul hx hb dX1_pageOn_99 ?_
        refine lv_isub hx hb dX1_pageOn_100 ?_
        refine lv_iconst (v := (nI 1)) hx hb dX1_pageOn_101 (by decide) ?_
        refine lv_isub hx hb dX1_pageOn_102 ?_
        exact (en_i X h hr hw (Nat.le_of_ble_eq_true rfl) (Nat.le_of_ble_eq_true rfl) dX1_pageOn_103)
      · have hw := hw.2
        rcases jc4 with _ | jc4
        · have hw := hw.1 c4
          refine lv_tableIn (tgt := 72) (off := 27) hx hb dX1_pageOn_45 (by rw [c4]; decide) (by rw [c4]; decide) (by rw [c4]; rfl) (by decide) ?_
          refine lv_aload_n hx hb dX1_pageOn_72 rfl (lv_at hl 0 rfl) ?_
          refine r_getI X h k1 3  (by decide) rfl inX1 (by decide) rfl q418 rfl dX1_pageOn_73 ?_
          refine lv_iconst (v := (nI 2)) hx hb dX1_pageOn_76 (by decide) ?_
          refine lv_iload_n hx hb dX1_pageOn_77 rfl (lv_at hl 1 rfl) ?_
          refine lv_imul hx hb dX1_pageOn_78 ?_
          refine lv_isub hx hb dX1_pageOn_79 ?_
          exact (en_i X h hr hw (Nat.le_of_ble_eq_true rfl) (Nat.le_of_ble_eq_true rfl) dX1_pageOn_80)
        have hw := hw.2
        rcases jc4 with _ | jc4
        · have hw := hw.1 c4
          refine lv_tableIn (tgt := 81) (off := 36) hx hb dX1_pageOn_45 (by rw [c4]; decide) (by rw [c4]; decide) (by rw [c4]; rfl) (by decide) ?_
          refine lv_iconst (v := (nI 2)) hx hb dX1_pageOn_81 (by decide) ?_
          refine lv_iload_n hx hb dX1_pageOn_82 rfl (lv_at hl 1 rfl) ?_
          refine lv_imul hx hb dX1_pageOn_83 ?_
          refine lv_iconst (v := (nI 1)) hx hb dX1_pageOn_84 (by decide) ?_
          refine lv_iadd hx hb dX1_pageOn_85 ?_
          exact (en_i X h hr hw (Nat.le_of_ble_eq_true rfl) (Nat.le_of_ble_eq_true rfl) dX1_pageOn_86)
        have hw := hw.2
        obtain rfl : jc4 = 0 := by omega
        have hw := hw c4
        refine lv_tableIn (tgt := 87) (off := 42) hx hb dX1_pageOn_45 (by rw [c4]; decide) (by rw [c4]; decide) (by rw [c4]; rfl) (by decide) ?_
        refine lv_iconst (v := (nI 2)) hx hb dX1_pageOn_87 (by decide) ?_
        refine lv_iload_n hx hb dX1_pageOn_88 rfl (lv_at hl 1 rfl) ?_
        refine lv_imul hx hb dX1_pageOn_89 ?_
        refine lv_iconst (v := (nI 2)) hx hb dX1_pageOn_90 (by decide) ?_
        refine lv_iadd hx hb dX1_pageOn_91 ?_
        exact (en_i X h hr hw (Nat.le_of_ble_eq_true rfl) (Nat.le_of_ble_eq_true rfl) dX1_pageOn_92)
    · have hw := hw.2 c3
      refine lv_iload_n hx hb dX1_pageOn_26 rfl (lv_at hl 2 rfl) ?_
      refine lv_if_ne (tgt := 38) hx hb dX1_pageOn_27 (by decide) (fun c5 => ?_) (fun c5 => ?_)
      · have hw := hw.1 c5
        refine lv_iconst (v := (nI 4)) hx hb dX1_pageOn_38 (by decide) ?_
        refine lv_iload_n hx hb dX1_pageOn_39 rfl (lv_at hl 1 rfl) ?_
        refine lv_imul hx hb dX1_pageOn_40 ?_
        refine lv_iload_n hx hb dX1_pageOn_41 rfl (lv_at hl 2 rfl) ?_
        refine lv_iadd hx hb dX1_pageOn_42 ?_
        exact (en_i X h hr hw (Nat.le_of_ble_eq_true rfl) (Nat.le_of_ble_eq_true rfl) dX1_pageOn_43)
      · have hw := hw.2 c5
        refine lv_iconst (v := (nI 4)) hx hb dX1_pageOn_30 (by decide) ?_
        refine lv_iload_n hx hb dX1_pageOn_31 rfl (lv_at hl 1 rfl) ?_
        refine lv_imul hx hb dX1_pageOn_32 ?_
        refine lv_iconst (v := (nI 4)) hx hb dX1_pageOn_33 (by decide) ?_
        refine lv_iadd hx hb dX1_pageOn_34 ?_
        refine lv_goto (tgt := 43) hx hb dX1_pageOn_35 (by decide) ?_
        exact (en_i X h hr hw (Nat.le_of_ble_eq_true rfl) (Nat.le_of_ble_eq_true rfl) dX1_pageOn_43)
  · have hw := hw.2 c2
    refine lv_iconst (v := (nI 2)) hx hb dX1_pageOn_9 (by decide) ?_
    refine lv_iload_n hx hb dX1_pageOn_10 rfl (lv_at hl 1 rfl) ?_
    refine lv_imul hx hb dX1_pageOn_11 ?_
    refine lv_iconst (v := (nI 1)) hx hb dX1_pageOn_12 (by decide) ?_
    refine lv_iadd hx hb dX1_pageOn_13 ?_
    refine lv_iload_n hx hb dX1_pageOn_14 rfl (lv_at hl 2 rfl) ?_
    refine lv_iadd hx hb dX1_pageOn_15 ?_
    exact (en_i X h hr hw (Nat.le_of_ble_eq_true rfl) (Nat.le_of_ble_eq_true rfl) dX1_pageOn_16)
abbrev rmX1_contentOf : Room := { frames := 1, cells := 0, slots := 0, locals := 21 }
def wpX1_contentOf (S : Mem) (a0 : Nat) (p1 : Int32) (post : Int32 → Mem → Prop) : Prop := isK S a0 1 ∧ (∃ o2, mR S a0 1 = some o2 ∧ (wpX6_at S o2 (p1 - (nI 1)) (fun x4 S3 => post x4 S3)))
set_option maxHeartbeats 4000000 in
set_option maxRecDepth 100000 in
theorem meX1_contentOf (l : Launch) (G : GT) (S : Mem) (a0 : Nat) (p1 : Int32) (post : Int32 → Mem → Prop) (hw : wpX1_contentOf S a0 p1 post) : CN emI l yX1_contentOf (wsU yX1_contentOf cX1_contentOf 2 (some .int)) rmX1_contentOf 0 0 G [.ref a0, .int p1] S post := by
  refine cn_open RX1 rfl (by decide +kernel) (Nat.le_of_ble_eq_true rfl) ?_
  intro p e s m args below meth c A X h hr hin ls hl
  have hl : lv_has ls 2 [(0, .ref a0), (1, .int p1)] := hl
  have hx := X.1
  have hb := X.2.1
  have hown := X.2.2.2.1
  unfold wpX1_contentOf at hw
  refine lv_aload_n hx hb dX1_contentOf_0 rfl (lv_at hl 0 rfl) ?_
  obtain ⟨k1, hw⟩ := hw
  obtain ⟨o2, eo2, hw⟩ := hw
  refine r_getR X h k1 1 eo2  (by decide) rfl inX1 (by decide) rfl q416 rfl dX1_contentOf_1 ?_
  refine lv_iload_n hx hb dX1_contentOf_4 rfl (lv_at hl 1 rfl) ?_
  refine lv_iconst (v := (nI 1)) hx hb dX1_contentOf_5 (by decide) ?_
  refine lv_isub hx hb dX1_contentOf_6 ?_
  refine rc_SN (As := [.ref o2, .int (p1 - (nI 1))]) (rest := []) X h (meX6_at l G _ _ _ _ hw) gU_X1_30 q365 q14 q312 rfl rfl hdS_X6_at rfl ⟨Nat.le_of_ble_eq_true rfl, Nat.le_of_ble_eq_true rfl⟩ hl.1 rfl (Nat.le_of_ble_eq_true rfl) ⟨Nat.le_of_ble_eq_true rfl, Nat.le_of_ble_eq_true rfl⟩ dX1_contentOf_7 (fun x4 S3 H locs hw h => ?_)
  exact (en_i X h hr hw (Nat.le_of_ble_eq_true rfl) (Nat.le_of_ble_eq_true rfl) dX1_contentOf_10)
abbrev rmX1_contentOn : Room := { frames := 2, cells := 0, slots := 0, locals := 42 }
def wpX1_contentOn (S : Mem) (a0 : Nat) (p1 : Int32) (p2 : Int32) (post : Int32 → Mem → Prop) : Prop := isK S a0 1 ∧ (wpX1_pageOn S a0 p1 p2 (fun x3 S1 => isK S1 a0 1 ∧ (wpX1_contentOf S1 a0 x3 (fun x6 S4 => post x6 S4))))
set_option maxHeartbeats 4000000 in
set_option maxRecDepth 100000 in
theorem meX1_contentOn (l : Launch) (G : GT) (S : Mem) (a0 : Nat) (p1 : Int32) (p2 : Int32) (post : Int32 → Mem → Prop) (hw : wpX1_contentOn S a0 p1 p2 post) : CN emI l yX1_contentOn (wsU yX1_contentOn cX1_contentOn 3 (some .int)) rmX1_contentOn 0 0 G [.ref a0, .int p1, .int p2] S post := by
  refine cn_open RX1 rfl (by decide +kernel) (Nat.le_of_ble_eq_true rfl) ?_
  intro p e s m args below meth c A X h hr hin ls hl
  have hl : lv_has ls 3 [(0, .ref a0), (1, .int p1), (2, .int p2)] := hl
  have hx := X.1
  have hb := X.2.1
  have hown := X.2.2.2.1
  unfold wpX1_contentOn at hw
  refine lv_aload_n hx hb dX1_contentOn_0 rfl (lv_at hl 0 rfl) ?_
  refine lv_aload_n hx hb dX1_contentOn_1 rfl (lv_at hl 0 rfl) ?_
  refine lv_iload_n hx hb dX1_contentOn_2 rfl (lv_at hl 1 rfl) ?_
  refine lv_iload_n hx hb dX1_contentOn_3 rfl (lv_at hl 2 rfl) ?_
  obtain ⟨k2, hw⟩ := hw
  refine rc_V (As := [.int p1, .int p2]) (rest := [.ref a0]) X h k2 (by decide) rfl (meX1_pageOn l G _ _ _ _ _ hw) gV_X1_34 rfl rfl hdV_X1_pageOn rfl ⟨Nat.le_of_ble_eq_true rfl, Nat.le_of_ble_eq_true rfl⟩ hl.1 rfl (Nat.le_of_ble_eq_true rfl) ⟨Nat.le_of_ble_eq_true rfl, Nat.le_of_ble_eq_true rfl⟩ dX1_contentOn_4 (fun x3 S1 H locs hw h => ?_)
  obtain ⟨k5, hw⟩ := hw
  refine rc_V (As := [.int x3]) (rest := []) X h k5 (by decide) rfl (meX1_contentOf l G _ _ _ _ hw) gV_X1_38 rfl rfl hdV_X1_contentOf rfl ⟨Nat.le_of_ble_eq_true rfl, Nat.le_of_ble_eq_true rfl⟩ hl.1 rfl (Nat.le_of_ble_eq_true rfl) ⟨Nat.le_of_ble_eq_true rfl, Nat.le_of_ble_eq_true rfl⟩ dX1_contentOn_7 (fun x6 S4 H locs hw h => ?_)
  exact (en_i X h hr hw (Nat.le_of_ble_eq_true rfl) (Nat.le_of_ble_eq_true rfl) dX1_contentOn_10)
abbrev rmX0_stateOf : Room := { frames := 1, cells := 0, slots := 0, locals := 21 }
def wpX0_stateOf (S : Mem) (a0 : Nat) (p1 : Int32) (post : Int32 → Mem → Prop) : Prop := isK S a0 0 ∧ (∃ o2, mR S a0 0 = some o2 ∧ (wpX6_at S o2 p1 (fun x4 S3 => post x4 S3)))
set_option maxHeartbeats 4000000 in
set_option maxRecDepth 100000 in
theorem meX0_stateOf (l : Launch) (G : GT) (S : Mem) (a0 : Nat) (p1 : Int32) (post : Int32 → Mem → Prop) (hw : wpX0_stateOf S a0 p1 post) : CN emI l yX0_stateOf (wsU yX0_stateOf cX0_stateOf 2 (some .int)) rmX0_stateOf 0 0 G [.ref a0, .int p1] S post := by
  refine cn_open RX0 rfl (by decide +kernel) (Nat.le_of_ble_eq_true rfl) ?_
  intro p e s m args below meth c A X h hr hin ls hl
  have hl : lv_has ls 2 [(0, .ref a0), (1, .int p1)] := hl
  have hx := X.1
  have hb := X.2.1
  have hown := X.2.2.2.1
  unfold wpX0_stateOf at hw
  refine lv_aload_n hx hb dX0_stateOf_0 rfl (lv_at hl 0 rfl) ?_
  obtain ⟨k1, hw⟩ := hw
  obtain ⟨o2, eo2, hw⟩ := hw
  refine r_getR X h k1 0 eo2  (by decide) rfl inX0 (by decide) rfl q46 rfl dX0_stateOf_1 ?_
  refine lv_iload_n hx hb dX0_stateOf_4 rfl (lv_at hl 1 rfl) ?_
  refine rc_SN (As := [.ref o2, .int p1]) (rest := []) X h (meX6_at l G _ _ _ _ hw) gU_X0_25 q311 q14 q312 rfl rfl hdS_X6_at rfl ⟨Nat.le_of_ble_eq_true rfl, Nat.le_of_ble_eq_true rfl⟩ hl.1 rfl (Nat.le_of_ble_eq_true rfl) ⟨Nat.le_of_ble_eq_true rfl, Nat.le_of_ble_eq_true rfl⟩ dX0_stateOf_5 (fun x4 S3 H locs hw h => ?_)
  exact (en_i X h hr hw (Nat.le_of_ble_eq_true rfl) (Nat.le_of_ble_eq_true rfl) dX0_stateOf_8)
abbrev rmX0_plateOf : Room := { frames := 2, cells := 0, slots := 0, locals := 42 }
def wpX0_plateOf (S : Mem) (a0 : Nat) (p1 : Int32) (p2 : Int32) (post : Int32 → Mem → Prop) : Prop := ∀ x1 : Int32, x1 = (((p1 * (nI 13)) + p2) + (nI 1)) → ((¬ p2 = (-1 : Int32) → (isK S a0 0 ∧ (wpX0_stateOf S a0 p2 (fun x5 S3 => isK S3 a0 0 ∧ (wpX0_stateOf S3 a0 p1 (fun x8 S6 => post (((x1 * (nI 10000)) + (x8 * (nI 100))) + x5) S6)))))) ∧ (p2 = (-1 : Int32) → (isK S a0 0 ∧ (wpX0_stateOf S a0 p1 (fun x11 S9 => post (((x1 * (nI 10000)) + (x11 * (nI 100))) + (nI 0)) S9)))))
set_option maxHeartbeats 4000000 in
set_option maxRecDepth 100000 in
theorem meX0_plateOf (l : Launch) (G : GT) (S : Mem) (a0 : Nat) (p1 : Int32) (p2 : Int32) (post : Int32 → Mem → Prop) (hw : wpX0_plateOf S a0 p1 p2 post) : CN emI l yX0_plateOf (wsU yX0_plateOf cX0_plateOf 5 (some .int)) rmX0_plateOf 0 0 G [.ref a0, .int p1, .int p2] S post := by
  refine cn_open RX0 rfl (by decide +kernel) (Nat.le_of_ble_eq_true rfl) ?_
  intro p e s m args below meth c A X h hr hin ls hl
  have hl : lv_has ls 5 [(0, .ref a0), (1, .int p1), (2, .int p2)] := hl
  have hx := X.1
  have hb := X.2.1
  have hown := X.2.2.2.1
  unfold wpX0_plateOf at hw
  refine lv_iload_n hx hb dX0_plateOf_0 rfl (lv_at hl 1 rfl) ?_
  refine lv_bipush (v := (nI 13)) hx hb dX0_plateOf_1 (by decide) ?_
  refine lv_imul hx hb dX0_plateOf_3 ?_
  refine lv_iload_n hx hb dX0_plateOf_4 rfl (lv_at hl 2 rfl) ?_
  refine lv_iadd hx hb dX0_plateOf_5 ?_
  refine lv_iconst (v := (nI 1)) hx hb dX0_plateOf_6 (by decide) ?_
  refine lv_iadd hx hb dX0_plateOf_7 ?_
  refine lv_topi (fun x1 ex1 => ?_)
  have hw := hw x1 ex1
  refine lv_istore_n (lv' := [(3, .int x1), (0, .ref a0), (1, .int p1), (2, .int p2)]) hx hb dX0_plateOf_8 rfl hl (by decide) rfl (fun ls hl => ?_)
  refine lv_iload_n hx hb dX0_plateOf_9 rfl (lv_at hl 3 rfl) ?_
  refine lv_iconst (v := (-1 : Int32)) hx hb dX0_plateOf_10 (by decide) ?_
  refine lv_icmp_ne (tgt := 18) hx hb dX0_plateOf_11 (by decide) (fun c2 => ?_) (fun c2 => ?_)
  · have hw := hw.1 c2
    refine lv_aload_n hx hb dX0_plateOf_18 rfl (lv_at hl 1 rfl) ?_
    refine lv_iload_n hx hb dX0_plateOf_19 rfl (lv_at hl 3 rfl) ?_
    obtain ⟨k4, hw⟩ := hw
    refine rc_V (As := [.int p2]) (rest := []) X h k4 (by decide) rfl (meX0_stateOf l G _ _ _ _ hw) gV_X0_33 rfl rfl hdV_X0_stateOf rfl ⟨Nat.le_of_ble_eq_true rfl, Nat.le_of_ble_eq_true rfl⟩ hl.1 rfl (Nat.le_of_ble_eq_true rfl) ⟨Nat.le_of_ble_eq_true rfl, Nat.le_of_ble_eq_true rfl⟩ dX0_plateOf_20 (fun x5 S3 H locs hw h => ?_)
    refine lv_istore (lv' := [(4, .int x5), (3, .int x1), (0, .ref a0), (1, .int p1), (2, .int p2)]) hx hb dX0_plateOf_23 hl (by decide) rfl (fun ls hl => ?_)
    refine lv_iload_n hx hb dX0_plateOf_25 rfl (lv_at hl 1 rfl) ?_
    refine lv_sipush (v := (nI 10000)) hx hb dX0_plateOf_26 (by decide) ?_
    refine lv_imul hx hb dX0_plateOf_29 ?_
    refine lv_aload_n hx hb dX0_plateOf_30 rfl (lv_at hl 2 rfl) ?_
    refine lv_iload_n hx hb dX0_plateOf_31 rfl (lv_at hl 3 rfl) ?_
    obtain ⟨k7, hw⟩ := hw
    refine rc_V (As := [.int p1]) (rest := [.int (x1 * (nI 10000))]) X h k7 (by decide) rfl (meX0_stateOf l G _ _ _ _ hw) gV_X0_33 rfl rfl hdV_X0_stateOf rfl ⟨Nat.le_of_ble_eq_true rfl, Nat.le_of_ble_eq_true rfl⟩ hl.1 rfl (Nat.le_of_ble_eq_true rfl) ⟨Nat.le_of_ble_eq_true rfl, Nat.le_of_ble_eq_true rfl⟩ dX0_plateOf_32 (fun x8 S6 H locs hw h => ?_)
    refine lv_bipush (v := (nI 100)) hx hb dX0_plateOf_35 (by decide) ?_
    refine lv_imul hx hb dX0_plateOf_37 ?_
    refine lv_iadd hx hb dX0_plateOf_38 ?_
    refine lv_iload hx hb dX0_plateOf_39 (lv_at hl 0 rfl) ?_
    refine lv_iadd hx hb dX0_plateOf_41 ?_
    exact (en_i X h hr hw (Nat.le_of_ble_eq_true rfl) (Nat.le_of_ble_eq_true rfl) dX0_plateOf_42)
  · have hw := hw.2 c2
    refine lv_iconst (v := (nI 0)) hx hb dX0_plateOf_14 (by decide) ?_
    refine lv_goto (tgt := 23) hx hb dX0_plateOf_15 (by decide) ?_
    refine lv_istore (lv' := [(4, .int (nI 0)), (3, .int x1), (0, .ref a0), (1, .int p1), (2, .int p2)]) hx hb dX0_plateOf_23 hl (by decide) rfl (fun ls hl => ?_)
    refine lv_iload_n hx hb dX0_plateOf_25 rfl (lv_at hl 1 rfl) ?_
    refine lv_sipush (v := (nI 10000)) hx hb dX0_plateOf_26 (by decide) ?_
    refine lv_imul hx hb dX0_plateOf_29 ?_
    refine lv_aload_n hx hb dX0_plateOf_30 rfl (lv_at hl 2 rfl) ?_
    refine lv_iload_n hx hb dX0_plateOf_31 rfl (lv_at hl 3 rfl) ?_
    obtain ⟨k10, hw⟩ := hw
    refine rc_V (As := [.int p1]) (rest := [.int (x1 * (nI 10000))]) X h k10 (by decide) rfl (meX0_stateOf l G _ _ _ _ hw) gV_X0_33 rfl rfl hdV_X0_stateOf rfl ⟨Nat.le_of_ble_eq_true rfl, Nat.le_of_ble_eq_true rfl⟩ hl.1 rfl (Nat.le_of_ble_eq_true rfl) ⟨Nat.le_of_ble_eq_true rfl, Nat.le_of_ble_eq_true rfl⟩ dX0_plateOf_32 (fun x11 S9 H locs hw h => ?_)
    refine lv_bipush (v := (nI 100)) hx hb dX0_plateOf_35 (by decide) ?_
    refine lv_imul hx hb dX0_plateOf_37 ?_
    refine lv_iadd hx hb dX0_plateOf_38 ?_
    refine lv_iload hx hb dX0_plateOf_39 (lv_at hl 0 rfl) ?_
    refine lv_iadd hx hb dX0_plateOf_41 ?_
    exact (en_i X h hr hw (Nat.le_of_ble_eq_true rfl) (Nat.le_of_ble_eq_true rfl) dX0_plateOf_42)
abbrev rmX6_plateFor : Room := { frames := 3, cells := 0, slots := 0, locals := 66 }
def wpX6_plateFor (S : Mem) (a0 : Nat) (a1 : Nat) (p2 : Int32) (p3 : Int32) (post : Int32 → Mem → Prop) : Prop := isK S a1 1 ∧ (wpX1_placeCount S a1 (fun x3 S1 => (¬ x3 = (nI 2) → (isK S1 a0 6 ∧ (∃ o6, mR S1 a0 0 = some o6 ∧ (isK S1 a1 1 ∧ (wpX1_contentOn S1 a1 p2 ((nI 2) * p3) (fun x9 S7 => isK S7 a1 1 ∧ (wpX1_contentOn S7 a1 p2 (((nI 2) * p3) + (nI 1)) (fun x12 S10 => isK S10 o6 0 ∧ (wpX0_plateOf S10 o6 x9 x12 (fun x15 S13 => post x15 S13)))))))))) ∧ (x3 = (nI 2) → (isK S1 a0 6 ∧ (∃ o17, mR S1 a0 0 = some o17 ∧ (isK S1 a1 1 ∧ (wpX1_contentOn S1 a1 p2 p3 (fun x20 S18 => isK S18 o17 0 ∧ (wpX0_plateOf S18 o17 x20 (-1 : Int32) (fun x23 S21 => post x23 S21))))))))))
set_option maxHeartbeats 4000000 in
set_option maxRecDepth 100000 in
theorem meX6_plateFor (l : Launch) (G : GT) (S : Mem) (a0 : Nat) (a1 : Nat) (p2 : Int32) (p3 : Int32) (post : Int32 → Mem → Prop) (hw : wpX6_plateFor S a0 a1 p2 p3 post) : CN emI l yX6_plateFor (wsU yX6_plateFor cX6_plateFor 4 (some .int)) rmX6_plateFor 0 0 G [.ref a0, .ref a1, .int p2, .int p3] S post := by
  refine cn_open RX6 rfl (by decide +kernel) (Nat.le_of_ble_eq_true rfl) ?_
  intro p e s m args below meth c A X h hr hin ls hl
  have hl : lv_has ls 4 [(0, .ref a0), (1, .ref a1), (2, .int p2), (3, .int p3)] := hl
  have hx := X.1
  have hb := X.2.1
  have hown := X.2.2.2.1
  unfold wpX6_plateFor at hw
  refine lv_aload_n hx hb dX6_plateFor_0 rfl (lv_at hl 1 rfl) ?_
  obtain ⟨k2, hw⟩ := hw
  refine rc_V (As := []) (rest := []) X h k2 (by decide) rfl (meX1_placeCount l G _ _ _ hw) gV_X6_131 rfl rfl hdV_X1_placeCount rfl ⟨Nat.le_of_ble_eq_true rfl, Nat.le_of_ble_eq_true rfl⟩ hl.1 rfl (Nat.le_of_ble_eq_true rfl) ⟨Nat.le_of_ble_eq_true rfl, Nat.le_of_ble_eq_true rfl⟩ dX6_plateFor_1 (fun x3 S1 H locs hw h => ?_)
  refine lv_iconst (v := (nI 2)) hx hb dX6_plateFor_4 (by decide) ?_
  refine lv_icmp_ne (tgt := 23) hx hb dX6_plateFor_5 (by decide) (fun c4 => ?_) (fun c4 => ?_)
  · have hw := hw.1 c4
    refine lv_aload_n hx hb dX6_plateFor_23 rfl (lv_at hl 0 rfl) ?_
    obtain ⟨k5, hw⟩ := hw
    obtain ⟨o6, eo6, hw⟩ := hw
    refine r_getR X h k5 0 eo6  (by decide) rfl inX6 (by decide) rfl q120 rfl dX6_plateFor_24 ?_
    refine lv_aload_n hx hb dX6_plateFor_27 rfl (lv_at hl 1 rfl) ?_
    refine lv_iload_n hx hb dX6_plateFor_28 rfl (lv_at hl 2 rfl) ?_
    refine lv_iconst (v := (nI 2)) hx hb dX6_plateFor_29 (by decide) ?_
    refine lv_iload_n hx hb dX6_plateFor_30 rfl (lv_at hl 3 rfl) ?_
    refine lv_imul hx hb dX6_plateFor_31 ?_
    obtain ⟨k8, hw⟩ := hw
    refine rc_V (As := [.int p2, .int ((nI 2) * p3)]) (rest := [.ref o6]) X h k8 (by decide) rfl (meX1_contentOn l G _ _ _ _ _ hw) gV_X6_300 rfl rfl hdV_X1_contentOn rfl ⟨Nat.le_of_ble_eq_true rfl, Nat.le_of_ble_eq_true rfl⟩ hl.1 rfl (Nat.le_of_ble_eq_true rfl) ⟨Nat.le_of_ble_eq_true rfl, Nat.le_of_ble_eq_true rfl⟩ dX6_plateFor_32 (fun x9 S7 H locs hw h => ?_)
    refine lv_aload_n hx hb dX6_plateFor_35 rfl (lv_at hl 1 rfl) ?_
    refine lv_iload_n hx hb dX6_plateFor_36 rfl (lv_at hl 2 rfl) ?_
    refine lv_iconst (v := (nI 2)) hx hb dX6_plateFor_37 (by decide) ?_
    refine lv_iload_n hx hb dX6_plateFor_38 rfl (lv_at hl 3 rfl) ?_
    refine lv_imul hx hb dX6_plateFor_39 ?_
    refine lv_iconst (v := (nI 1)) hx hb dX6_plateFor_40 (by decide) ?_
    refine lv_iadd hx hb dX6_plateFor_41 ?_
    obtain ⟨k11, hw⟩ := hw
    refine rc_V (As := [.int p2, .int (((nI 2) * p3) + (nI 1))]) (rest := [.int x9, .ref o6]) X h k11 (by decide) rfl (meX1_contentOn l G _ _ _ _ _ hw) gV_X6_300 rfl rfl hdV_X1_contentOn rfl ⟨Nat.le_of_ble_eq_true rfl, Nat.le_of_ble_eq_true rfl⟩ hl.1 rfl (Nat.le_of_ble_eq_true rfl) ⟨Nat.le_of_ble_eq_true rfl, Nat.le_of_ble_eq_true rfl⟩ dX6_plateFor_42 (fun x12 S10 H locs hw h => ?_)
    obtain ⟨k14, hw⟩ := hw
    refine rc_V (As := [.int x9, .int x12]) (rest := []) X h k14 (by decide) rfl (meX0_plateOf l G _ _ _ _ _ hw) gV_X6_303 rfl rfl hdV_X0_plateOf rfl ⟨Nat.le_of_ble_eq_true rfl, Nat.le_of_ble_eq_true rfl⟩ hl.1 rfl (Nat.le_of_ble_eq_true rfl) ⟨Nat.le_of_ble_eq_true rfl, Nat.le_of_ble_eq_true rfl⟩ dX6_plateFor_45 (fun x15 S13 H locs hw h => ?_)
    exact (en_i X h hr hw (Nat.le_of_ble_eq_true rfl) (Nat.le_of_ble_eq_true rfl) dX6_plateFor_48)
  · have hw := hw.2 c4
    refine lv_aload_n hx hb dX6_plateFor_8 rfl (lv_at hl 0 rfl) ?_
    obtain ⟨k16, hw⟩ := hw
    obtain ⟨o17, eo17, hw⟩ := hw
    refine r_getR X h k16 0 eo17  (by decide) rfl inX6 (by decide) rfl q120 rfl dX6_plateFor_9 ?_
    refine lv_aload_n hx hb dX6_plateFor_12 rfl (lv_at hl 1 rfl) ?_
    refine lv_iload_n hx hb dX6_plateFor_13 rfl (lv_at hl 2 rfl) ?_
    refine lv_iload_n hx hb dX6_plateFor_14 rfl (lv_at hl 3 rfl) ?_
    obtain ⟨k19, hw⟩ := hw
    refine rc_V (As := [.int p2, .int p3]) (rest := [.ref o17]) X h k19 (by decide) rfl (meX1_contentOn l G _ _ _ _ _ hw) gV_X6_300 rfl rfl hdV_X1_contentOn rfl ⟨Nat.le_of_ble_eq_true rfl, Nat.le_of_ble_eq_true rfl⟩ hl.1 rfl (Nat.le_of_ble_eq_true rfl) ⟨Nat.le_of_ble_eq_true rfl, Nat.le_of_ble_eq_true rfl⟩ dX6_plateFor_15 (fun x20 S18 H locs hw h => ?_)
    refine lv_iconst (v := (-1 : Int32)) hx hb dX6_plateFor_18 (by decide) ?_
    obtain ⟨k22, hw⟩ := hw
    refine rc_V (As := [.int x20, .int (-1 : Int32)]) (rest := []) X h k22 (by decide) rfl (meX0_plateOf l G _ _ _ _ _ hw) gV_X6_303 rfl rfl hdV_X0_plateOf rfl ⟨Nat.le_of_ble_eq_true rfl, Nat.le_of_ble_eq_true rfl⟩ hl.1 rfl (Nat.le_of_ble_eq_true rfl) ⟨Nat.le_of_ble_eq_true rfl, Nat.le_of_ble_eq_true rfl⟩ dX6_plateFor_19 (fun x23 S21 H locs hw h => ?_)
    exact (en_i X h hr hw (Nat.le_of_ble_eq_true rfl) (Nat.le_of_ble_eq_true rfl) dX6_plateFor_22)
abbrev rmX5_bindingMinutes : Room := { frames := 0, cells := 0, slots := 0, locals := 0 }
def wpX5_bindingMinutes (S : Mem) (a0 : Nat) (p1 : Int32) (post : Int32 → Mem → Prop) : Prop := isK S a0 5 ∧ ((¬ (mI S a0 2) = p1 → (post (nI 15) S)) ∧ ((mI S a0 2) = p1 → (post (nI 0) S)))
set_option maxHeartbeats 4000000 in
set_option maxRecDepth 100000 in
theorem meX5_bindingMinutes (l : Launch) (G : GT) (S : Mem) (a0 : Nat) (p1 : Int32) (post : Int32 → Mem → Prop) (hw : wpX5_bindingMinutes S a0 p1 post) : CN emI l yX5_bindingMinutes (wsU yX5_bindingMinutes cX5_bindingMinutes 2 (some .int)) rmX5_bindingMinutes 0 0 G [.ref a0, .int p1] S post := by
  refine cn_open RX5 rfl (by decide +kernel) (Nat.le_of_ble_eq_true rfl) ?_
  intro p e s m args below meth c A X h hr hin ls hl
  have hl : lv_has ls 2 [(0, .ref a0), (1, .int p1)] := hl
  have hx := X.1
  have hb := X.2.1
  have hown := X.2.2.2.1
  unfold wpX5_bindingMinutes at hw
  refine lv_aload_n hx hb dX5_bindingMinutes_0 rfl (lv_at hl 0 rfl) ?_
  obtain ⟨k1, hw⟩ := hw
  refine r_getI X h k1 2  (by decide) rfl inX5 (by decide) rfl q77 rfl dX5_bindingMinutes_1 ?_
  refine lv_iload_n hx hb dX5_bindingMinutes_4 rfl (lv_at hl 1 rfl) ?_
  refine lv_icmp_ne (tgt := 12) hx hb dX5_bindingMinutes_5 (by decide) (fun c2 => ?_) (fun c2 => ?_)
  · have hw := hw.1 c2
    refine lv_bipush (v := (nI 15)) hx hb dX5_bindingMinutes_12 (by decide) ?_
    exact (en_i X h hr hw (Nat.le_of_ble_eq_true rfl) (Nat.le_of_ble_eq_true rfl) dX5_bindingMinutes_14)
  · have hw := hw.2 c2
    refine lv_iconst (v := (nI 0)) hx hb dX5_bindingMinutes_8 (by decide) ?_
    refine lv_goto (tgt := 14) hx hb dX5_bindingMinutes_9 (by decide) ?_
    exact (en_i X h hr hw (Nat.le_of_ble_eq_true rfl) (Nat.le_of_ble_eq_true rfl) dX5_bindingMinutes_14)
abbrev rmX5_minutesFor : Room := { frames := 1, cells := 0, slots := 0, locals := 21 }
def wpX5_minutesFor (S : Mem) (a0 : Nat) (p1 : Int32) (p2 : Int32) (p3 : Int32) (post : Int32 → Mem → Prop) : Prop := isK S a0 5 ∧ (wpX5_bindingMinutes S a0 p3 (fun x3 S1 => isK S1 a0 5 ∧ (((mI S1 a0 0) = p1 → (((mI S1 a0 1) = p2 → (post x3 S1)) ∧ (¬ (mI S1 a0 1) = p2 → (∀ x7 : Int32, x7 = (x3 + (nI 20)) → (post x7 S1))))) ∧ (¬ (mI S1 a0 0) = p1 → (∀ x8 : Int32, x8 = (x3 + (nI 20)) → (((mI S1 a0 1) = p2 → (post x8 S1)) ∧ (¬ (mI S1 a0 1) = p2 → (∀ x10 : Int32, x10 = (x8 + (nI 20)) → (post x10 S1)))))))))
set_option maxHeartbeats 4000000 in
set_option maxRecDepth 100000 in
theorem meX5_minutesFor (l : Launch) (G : GT) (S : Mem) (a0 : Nat) (p1 : Int32) (p2 : Int32) (p3 : Int32) (post : Int32 → Mem → Prop) (hw : wpX5_minutesFor S a0 p1 p2 p3 post) : CN emI l yX5_minutesFor (wsU yX5_minutesFor cX5_minutesFor 5 (some .int)) rmX5_minutesFor 0 0 G [.ref a0, .int p1, .int p2, .int p3] S post := by
  refine cn_open RX5 rfl (by decide +kernel) (Nat.le_of_ble_eq_true rfl) ?_
  intro p e s m args below meth c A X h hr hin ls hl
  have hl : lv_has ls 5 [(0, .ref a0), (1, .int p1), (2, .int p2), (3, .int p3)] := hl
  have hx := X.1
  have hb := X.2.1
  have hown := X.2.2.2.1
  unfold wpX5_minutesFor at hw
  refine lv_aload_n hx hb dX5_minutesFor_0 rfl (lv_at hl 0 rfl) ?_
  refine lv_iload_n hx hb dX5_minutesFor_1 rfl (lv_at hl 3 rfl) ?_
  obtain ⟨k2, hw⟩ := hw
  refine rc_V (As := [.int p3]) (rest := []) X h k2 (by decide) rfl (meX5_bindingMinutes l G _ _ _ _ hw) gV_X5_22 rfl rfl hdV_X5_bindingMinutes rfl ⟨Nat.le_of_ble_eq_true rfl, Nat.le_of_ble_eq_true rfl⟩ hl.1 rfl (Nat.le_of_ble_eq_true rfl) ⟨Nat.le_of_ble_eq_true rfl, Nat.le_of_ble_eq_true rfl⟩ dX5_minutesFor_2 (fun x3 S1 H locs hw h => ?_)
  refine lv_istore (lv' := [(4, .int x3), (0, .ref a0), (1, .int p1), (2, .int p2), (3, .int p3)]) hx hb dX5_minutesFor_5 hl (by decide) rfl (fun ls hl => ?_)
  refine lv_aload_n hx hb dX5_minutesFor_7 rfl (lv_at hl 1 rfl) ?_
  obtain ⟨k4, hw⟩ := hw
  refine r_getI X h k4 0  (by decide) rfl inX5 (by decide) rfl q73 rfl dX5_minutesFor_8 ?_
  refine lv_iload_n hx hb dX5_minutesFor_11 rfl (lv_at hl 2 rfl) ?_
  refine lv_icmp_eq (tgt := 18) hx hb dX5_minutesFor_12 (by decide) (fun c5 => ?_) (fun c5 => ?_)
  · have hw := hw.1 c5
    refine lv_aload_n hx hb dX5_minutesFor_18 rfl (lv_at hl 1 rfl) ?_
    refine r_getI X h k4 1  (by decide) rfl inX5 (by decide) rfl q75 rfl dX5_minutesFor_19 ?_
    refine lv_iload_n hx hb dX5_minutesFor_22 rfl (lv_at hl 3 rfl) ?_
    refine lv_icmp_eq (tgt := 29) hx hb dX5_minutesFor_23 (by decide) (fun c6 => ?_) (fun c6 => ?_)
    · have hw := hw.1 c6
      refine lv_iload hx hb dX5_minutesFor_29 (lv_at hl 0 rfl) ?_
      exact (en_i X h hr hw (Nat.le_of_ble_eq_true rfl) (Nat.le_of_ble_eq_true rfl) dX5_minutesFor_31)
    · have hw := hw.2 c6
      obtain ⟨x7, ex7⟩ : ∃ y : Int32, y = (x3 + (nI 20)) := ⟨_, rfl⟩
      have hw := hw x7 ex7
      refine lv_iinc (v := x7) (lv' := [(4, .int x7), (0, .ref a0), (1, .int p1), (2, .int p2), (3, .int p3)]) hx hb dX5_minutesFor_26 hl (k := 0) rfl (by rw [ex7]; rfl) (by decide) rfl (fun ls hl => ?_)
      refine lv_iload hx hb dX5_minutesFor_29 (lv_at hl 0 rfl) ?_
      exact (en_i X h hr hw (Nat.le_of_ble_eq_true rfl) (Nat.le_of_ble_eq_true rfl) dX5_minutesFor_31)
  · have hw := hw.2 c5
    obtain ⟨x8, ex8⟩ : ∃ y : Int32, y = (x3 + (nI 20)) := ⟨_, rfl⟩
    have hw := hw x8 ex8
    refine lv_iinc (v := x8) (lv' := [(4, .int x8), (0, .ref a0), (1, .int p1), (2, .int p2), (3, .int p3)]) hx hb dX5_minutesFor_15 hl (k := 0) rfl (by rw [ex8]; rfl) (by decide) rfl (fun ls hl => ?_)
    refine lv_aload_n hx hb dX5_minutesFor_18 rfl (lv_at hl 1 rfl) ?_
    refine r_getI X h k4 1  (by decide) rfl inX5 (by decide) rfl q75 rfl dX5_minutesFor_19 ?_
    refine lv_iload_n hx hb dX5_minutesFor_22 rfl (lv_at hl 3 rfl) ?_
    refine lv_icmp_eq (tgt := 29) hx hb dX5_minutesFor_23 (by decide) (fun c9 => ?_) (fun c9 => ?_)
    · have hw := hw.1 c9
      refine lv_iload hx hb dX5_minutesFor_29 (lv_at hl 0 rfl) ?_
      exact (en_i X h hr hw (Nat.le_of_ble_eq_true rfl) (Nat.le_of_ble_eq_true rfl) dX5_minutesFor_31)
    · have hw := hw.2 c9
      obtain ⟨x10, ex10⟩ : ∃ y : Int32, y = (x8 + (nI 20)) := ⟨_, rfl⟩
      have hw := hw x10 ex10
      refine lv_iinc (v := x10) (lv' := [(4, .int x10), (0, .ref a0), (1, .int p1), (2, .int p2), (3, .int p3)]) hx hb dX5_minutesFor_26 hl (k := 0) rfl (by rw [ex10]; rfl) (by decide) rfl (fun ls hl => ?_)
      refine lv_iload hx hb dX5_minutesFor_29 (lv_at hl 0 rfl) ?_
      exact (en_i X h hr hw (Nat.le_of_ble_eq_true rfl) (Nat.le_of_ble_eq_true rfl) dX5_minutesFor_31)
abbrev rmX6_makeready : Room := { frames := 8, cells := 3, slots := 18, locals := 134 }
def wpX6_makeready (S : Mem) (a0 : Nat) (p1 : Int32) (p2 : Int32) (post : Int32 → Mem → Prop) (px : Nat → Mem → Prop) : Prop := isK S a0 6 ∧ (wpX6_completeJob S a0 p1 (fun r3 S1 => ∃ o4, r3 = some o4 ∧ (wpX6_requireSheet S1 o4 p2 (fun u6 S5 => isK S5 a0 6 ∧ (∃ o8, mR S5 a0 2 = some o8 ∧ (wpX6_plateFor S5 a0 o4 p2 (nI 0) (fun x10 S9 => isK S9 a0 6 ∧ (wpX6_plateFor S9 a0 o4 p2 (nI 1) (fun x13 S11 => isK S11 o4 1 ∧ (isK S11 o8 5 ∧ (wpX5_minutesFor S11 o8 x10 x13 (mI S11 o4 0) (fun x17 S15 => post x17 S15))))))))) px)) px)
set_option maxHeartbeats 4000000 in
set_option maxRecDepth 100000 in
theorem meX6_makeready (l : Launch) (hl9 : l.stackTraces = false) (G : GT) (S : Mem) (a0 : Nat) (p1 : Int32) (p2 : Int32) (post : Int32 → Mem → Prop) (px : Nat → Mem → Prop) (hw : wpX6_makeready S a0 p1 p2 post px) : CX emI l yX6_makeready (wsU yX6_makeready cX6_makeready 4 (some .int)) rmX6_makeready 3 18 G [.ref a0, .int p1, .int p2] S post px := by
  refine cx_open RX6 rfl (by decide +kernel) (Nat.le_of_ble_eq_true rfl) ?_
  intro p e s m args below meth c A X h hr hno ls hl
  have hl : lv_has ls 4 [(0, .ref a0), (1, .int p1), (2, .int p2)] := hl
  have hx := X.1
  have hb := X.2.1
  have hown := X.2.2.2.1
  unfold wpX6_makeready at hw
  refine lv_aload_n hx hb dX6_makeready_0 rfl (lv_at hl 0 rfl) ?_
  refine lv_iload_n hx hb dX6_makeready_1 rfl (lv_at hl 1 rfl) ?_
  obtain ⟨k2, hw⟩ := hw
  refine rx_V (As := [.int p1]) (rest := []) X h hno k2 (by decide) rfl (meX6_completeJob l hl9 G _ _ _ _ _ hw) gV_X6_121 rfl rfl hdV_X6_completeJob rfl ⟨Nat.le_of_ble_eq_true rfl, Nat.le_of_ble_eq_true rfl⟩ hl.1 rfl (Nat.le_of_ble_eq_true rfl) ⟨Nat.le_of_ble_eq_true rfl, Nat.le_of_ble_eq_true rfl⟩ ⟨Nat.le_of_ble_eq_true rfl, Nat.le_of_ble_eq_true rfl⟩ dX6_makeready_2 (fun r3 S1 H locs hw h => ?_)
  obtain ⟨o4, rfl, hw⟩ := hw
  refine lv_astore_n (lv' := [(3, .ref o4), (0, .ref a0), (1, .int p1), (2, .int p2)]) hx hb dX6_makeready_5 rfl hl (by decide) rfl (fun ls hl => ?_)
  refine lv_aload_n hx hb dX6_makeready_6 rfl (lv_at hl 0 rfl) ?_
  refine lv_iload_n hx hb dX6_makeready_7 rfl (lv_at hl 3 rfl) ?_
  refine rx_S (As := [.ref o4, .int p2]) (rest := []) X h hno (meX6_requireSheet l hl9 G _ _ _ _ _ hw) gS_X6_127 rfl rfl hdS_X6_requireSheet rfl ⟨Nat.le_of_ble_eq_true rfl, Nat.le_of_ble_eq_true rfl⟩ hl.1 rfl (Nat.le_of_ble_eq_true rfl) ⟨Nat.le_of_ble_eq_true rfl, Nat.le_of_ble_eq_true rfl⟩ ⟨Nat.le_of_ble_eq_true rfl, Nat.le_of_ble_eq_true rfl⟩ dX6_makeready_8 (fun u6 S5 H locs hw h => ?_)
  refine lv_aload_n hx hb dX6_makeready_11 rfl (lv_at hl 1 rfl) ?_
  obtain ⟨k7, hw⟩ := hw
  obtain ⟨o8, eo8, hw⟩ := hw
  refine r_getR X h k7 2 eo8  (by decide) rfl inX6 (by decide) rfl q122 rfl dX6_makeready_12 ?_
  refine lv_aload_n hx hb dX6_makeready_15 rfl (lv_at hl 1 rfl) ?_
  refine lv_aload_n hx hb dX6_makeready_16 rfl (lv_at hl 0 rfl) ?_
  refine lv_iload_n hx hb dX6_makeready_17 rfl (lv_at hl 3 rfl) ?_
  refine lv_iconst (v := (nI 0)) hx hb dX6_makeready_18 (by decide) ?_
  refine rc_V (As := [.ref o4, .int p2, .int (nI 0)]) (rest := [.ref o8]) X h k7 (by decide) rfl (meX6_plateFor l G _ _ _ _ _ _ hw) gV_X6_165 rfl rfl hdV_X6_plateFor rfl ⟨Nat.le_of_ble_eq_true rfl, Nat.le_of_ble_eq_true rfl⟩ hl.1 rfl (Nat.le_of_ble_eq_true rfl) ⟨Nat.le_of_ble_eq_true rfl, Nat.le_of_ble_eq_true rfl⟩ dX6_makeready_19 (fun x10 S9 H locs hw h => ?_)
  refine lv_aload_n hx hb dX6_makeready_22 rfl (lv_at hl 1 rfl) ?_
  refine lv_aload_n hx hb dX6_makeready_23 rfl (lv_at hl 0 rfl) ?_
  refine lv_iload_n hx hb dX6_makeready_24 rfl (lv_at hl 3 rfl) ?_
  refine lv_iconst (v := (nI 1)) hx hb dX6_makeready_25 (by decide) ?_
  obtain ⟨k12, hw⟩ := hw
  refine rc_V (As := [.ref o4, .int p2, .int (nI 1)]) (rest := [.int x10, .ref o8]) X h k12 (by decide) rfl (meX6_plateFor l G _ _ _ _ _ _ hw) gV_X6_165 rfl rfl hdV_X6_plateFor rfl ⟨Nat.le_of_ble_eq_true rfl, Nat.le_of_ble_eq_true rfl⟩ hl.1 rfl (Nat.le_of_ble_eq_true rfl) ⟨Nat.le_of_ble_eq_true rfl, Nat.le_of_ble_eq_true rfl⟩ dX6_makeready_26 (fun x13 S11 H locs hw h => ?_)
  refine lv_aload_n hx hb dX6_makeready_29 rfl (lv_at hl 0 rfl) ?_
  obtain ⟨k14, hw⟩ := hw
  refine r_getIN X h k14 0  (by decide) rfl inX1 (by decide) rfl q415 rfl dX6_makeready_30 ?_
  obtain ⟨k16, hw⟩ := hw
  refine rc_V (As := [.int x10, .int x13, .int (mI S11 o4 0)]) (rest := []) X h k16 (by decide) rfl (meX5_minutesFor l G _ _ _ _ _ _ hw) gV_X6_173 rfl rfl hdV_X5_minutesFor rfl ⟨Nat.le_of_ble_eq_true rfl, Nat.le_of_ble_eq_true rfl⟩ hl.1 rfl (Nat.le_of_ble_eq_true rfl) ⟨Nat.le_of_ble_eq_true rfl, Nat.le_of_ble_eq_true rfl⟩ dX6_makeready_33 (fun x17 S15 H locs hw h => ?_)
  exact vx_ret (en_i X h hr hw (Nat.le_of_ble_eq_true rfl) (Nat.le_of_ble_eq_true rfl) dX6_makeready_36)
abbrev rmL_makeready : Room := { frames := 9, cells := 3, slots := 18, locals := 157 }
def wpL_makeready (S : Mem) (a0 : Nat) (p1 : Int32) (p2 : Int32) (post : Int32 → Mem → Prop) : Prop := isK S a0 6 ∧ (wpX6_makeready S a0 p1 p2 (fun x3 S1 => post x3 S1) (fun k4 S5 => (k4 = 1 → (post (-77 : Int32) S5)) ∧ (k4 = 2 → (post (-79 : Int32) S5)) ∧ (k4 = 3 → (post (-75 : Int32) S5)) ∧ (k4 = 1 ∨ k4 = 2 ∨ k4 = 3)))
set_option maxHeartbeats 4000000 in
set_option maxRecDepth 100000 in
theorem meL_makeready (l : Launch) (hl9 : l.stackTraces = false) (G : GT) (S : Mem) (a0 : Nat) (p1 : Int32) (p2 : Int32) (post : Int32 → Mem → Prop) (hw : wpL_makeready S a0 p1 p2 post) : CN emI l yL_makeready (wsH yL_makeready cL_makeready 4 (some .int) [(0, 6, 7, 26), (0, 6, 11, 20), (0, 6, 15, 55)]) rmL_makeready 3 18 G [.ref a0, .int p1, .int p2] S post := by
  refine ch_open RL rfl (by decide +kernel) (Nat.le_of_ble_eq_true rfl) ?_
  intro p e s m args below meth c A X h hr hTab ls hl
  have hl : lv_has ls 4 [(0, .ref a0), (1, .int p1), (2, .int p2)] := hl
  have hx := X.1
  have hb := X.2.1
  have hown := X.2.2.2.1
  unfold wpL_makeready at hw
  refine lv_aload_n hx hb dL_makeready_0 rfl (lv_at hl 0 rfl) ?_
  refine lv_iload_n hx hb dL_makeready_1 rfl (lv_at hl 1 rfl) ?_
  refine lv_iload_n hx hb dL_makeready_2 rfl (lv_at hl 2 rfl) ?_
  obtain ⟨k2, hw⟩ := hw
  refine rx_VH (As := [.int p1, .int p2]) (rest := []) X h k2 (by decide) rfl (meX6_makeready l hl9 G _ _ _ _ _ _ hw) gV_L_65 rfl rfl hdV_X6_makeready rfl ⟨Nat.le_of_ble_eq_true rfl, Nat.le_of_ble_eq_true rfl⟩ hl.1 rfl (Nat.le_of_ble_eq_true rfl) ⟨Nat.le_of_ble_eq_true rfl, Nat.le_of_ble_eq_true rfl⟩ dL_makeready_3 (fun k4 S5 H locs q9 ce hw h hce hcv hcl => ?_) (fun x3 S1 H locs hw h => ?_)
  · rcases hw.2.2.2 with hk9 | hk9 | hk9
    · subst hk9
      have hw := hw.1 rfl
      refine vx_catch (own := RL) (name := "java/lang/IndexOutOfBoundsException") (E := xn 1) hown [] ⟨0, 6, 7, 26⟩ [⟨0, 6, 11, 20⟩, ⟨0, 6, 15, 55⟩] (by rw [hTab]; rfl) (fun z hz => nomatch hz) (by decide) (by decide) (X.hts q262) (va_Nw.use (by rfl) (X.nw q296)) hce hcv hcl ?_
      refine lv_astore_n (lv' := [(3, .ref q9), (0, .ref a0), (1, .int p1), (2, .int p2)]) hx hb dL_makeready_7 rfl hl (by decide) rfl (fun ls hl => ?_)
      refine lv_bipush (v := (-77 : Int32)) hx hb dL_makeready_8 (by decide) ?_
      exact (en_i X h hr hw (Nat.le_of_ble_eq_true rfl) (Nat.le_of_ble_eq_true rfl) dL_makeready_10)
    · subst hk9
      have hw := hw.2.1 rfl
      have hpass2 : ∀ z ∈ ([⟨0, 6, 7, 26⟩] : List ExceptionTableEntry), covers z 3 = false ∨ (z.catchType ≠ 0 ∧ ∃ nm : String, (Cond.classLink RL z.catchType nm).before args s = true ∧ va_Nc (xn 2) nm s) := by
        intro z hz
        rcases List.mem_cons.mp hz with rfl | hz
        · exact Or.inr ⟨by decide, "java/lang/IndexOutOfBoundsException", X.hts q262, X.2.2.2.2.2.2.1.2.2.2.2.1 ("java/lang/IllegalStateException", "java/lang/IndexOutOfBoundsException") (by decide +kernel)⟩
        cases hz
      refine vx_catch (own := RL) (name := "java/lang/IllegalStateException") (E := xn 2) hown [⟨0, 6, 7, 26⟩] ⟨0, 6, 11, 20⟩ [⟨0, 6, 15, 55⟩] (by rw [hTab]; rfl) (hpass2) (by decide) (by decide) (X.hts q179) (va_Nw.use (by rfl) (X.nw q186)) hce hcv hcl ?_
      refine lv_astore_n (lv' := [(3, .ref q9), (0, .ref a0), (1, .int p1), (2, .int p2)]) hx hb dL_makeready_11 rfl hl (by decide) rfl (fun ls hl => ?_)
      refine lv_bipush (v := (-79 : Int32)) hx hb dL_makeready_12 (by decide) ?_
      exact (en_i X h hr hw (Nat.le_of_ble_eq_true rfl) (Nat.le_of_ble_eq_true rfl) dL_makeready_14)
    · subst hk9
      have hw := hw.2.2.1 rfl
      have hpass3 : ∀ z ∈ ([⟨0, 6, 7, 26⟩, ⟨0, 6, 11, 20⟩] : List ExceptionTableEntry), covers z 3 = false ∨ (z.catchType ≠ 0 ∧ ∃ nm : String, (Cond.classLink RL z.catchType nm).before args s = true ∧ va_Nc (xn 3) nm s) := by
        intro z hz
        rcases List.mem_cons.mp hz with rfl | hz
        · exact Or.inr ⟨by decide, "java/lang/IndexOutOfBoundsException", X.hts q262, X.2.2.2.2.2.2.1.2.2.2.2.1 ("java/util/NoSuchElementException", "java/lang/IndexOutOfBoundsException") (by decide +kernel)⟩
        rcases List.mem_cons.mp hz with rfl | hz
        · exact Or.inr ⟨by decide, "java/lang/IllegalStateException", X.hts q179, X.2.2.2.2.2.2.1.2.2.2.2.1 ("java/util/NoSuchElementException", "java/lang/IllegalStateException") (by decide +kernel)⟩
        cases hz
      refine vx_catch (own := RL) (name := "java/util/NoSuchElementException") (E := xn 3) hown [⟨0, 6, 7, 26⟩, ⟨0, 6, 11, 20⟩] ⟨0, 6, 15, 55⟩ [] (by rw [hTab]; rfl) (hpass3) (by decide) (by decide) (X.hts q480) (va_Nw.use (by rfl) (X.nw q491)) hce hcv hcl ?_
      refine lv_astore_n (lv' := [(3, .ref q9), (0, .ref a0), (1, .int p1), (2, .int p2)]) hx hb dL_makeready_15 rfl hl (by decide) rfl (fun ls hl => ?_)
      refine lv_bipush (v := (-75 : Int32)) hx hb dL_makeready_16 (by decide) ?_
      exact (en_i X h hr hw (Nat.le_of_ble_eq_true rfl) (Nat.le_of_ble_eq_true rfl) dL_makeready_18)
  · exact (en_i X h hr hw (Nat.le_of_ble_eq_true rfl) (Nat.le_of_ble_eq_true rfl) dL_makeready_6)
abbrev rmX1_stockOf : Room := { frames := 1, cells := 0, slots := 0, locals := 21 }
def wpX1_stockOf (S : Mem) (a0 : Nat) (p1 : Int32) (post : Int32 → Mem → Prop) : Prop := isK S a0 1 ∧ (∃ o2, mR S a0 2 = some o2 ∧ (wpX6_at S o2 p1 (fun x4 S3 => post x4 S3)))
set_option maxHeartbeats 4000000 in
set_option maxRecDepth 100000 in
theorem meX1_stockOf (l : Launch) (G : GT) (S : Mem) (a0 : Nat) (p1 : Int32) (post : Int32 → Mem → Prop) (hw : wpX1_stockOf S a0 p1 post) : CN emI l yX1_stockOf (wsU yX1_stockOf cX1_stockOf 2 (some .int)) rmX1_stockOf 0 0 G [.ref a0, .int p1] S post := by
  refine cn_open RX1 rfl (by decide +kernel) (Nat.le_of_ble_eq_true rfl) ?_
  intro p e s m args below meth c A X h hr hin ls hl
  have hl : lv_has ls 2 [(0, .ref a0), (1, .int p1)] := hl
  have hx := X.1
  have hb := X.2.1
  have hown := X.2.2.2.1
  unfold wpX1_stockOf at hw
  refine lv_aload_n hx hb dX1_stockOf_0 rfl (lv_at hl 0 rfl) ?_
  obtain ⟨k1, hw⟩ := hw
  obtain ⟨o2, eo2, hw⟩ := hw
  refine r_getR X h k1 2 eo2  (by decide) rfl inX1 (by decide) rfl q417 rfl dX1_stockOf_1 ?_
  refine lv_iload_n hx hb dX1_stockOf_4 rfl (lv_at hl 1 rfl) ?_
  refine rc_SN (As := [.ref o2, .int p1]) (rest := []) X h (meX6_at l G _ _ _ _ hw) gU_X1_30 q365 q14 q312 rfl rfl hdS_X6_at rfl ⟨Nat.le_of_ble_eq_true rfl, Nat.le_of_ble_eq_true rfl⟩ hl.1 rfl (Nat.le_of_ble_eq_true rfl) ⟨Nat.le_of_ble_eq_true rfl, Nat.le_of_ble_eq_true rfl⟩ dX1_stockOf_5 (fun x4 S3 H locs hw h => ?_)
  exact (en_i X h hr hw (Nat.le_of_ble_eq_true rfl) (Nat.le_of_ble_eq_true rfl) dX1_stockOf_8)
abbrev rmX6_stock : Room := { frames := 8, cells := 3, slots := 18, locals := 134 }
def wpX6_stock (S : Mem) (a0 : Nat) (p1 : Int32) (p2 : Int32) (post : Int32 → Mem → Prop) (px : Nat → Mem → Prop) : Prop := isK S a0 6 ∧ (wpX6_completeJob S a0 p1 (fun r3 S1 => ∃ o4, r3 = some o4 ∧ (wpX6_requireSheet S1 o4 p2 (fun u6 S5 => isK S5 o4 1 ∧ (wpX1_stockOf S5 o4 p2 (fun x9 S7 => post x9 S7))) px)) px)
set_option maxHeartbeats 4000000 in
set_option maxRecDepth 100000 in
theorem meX6_stock (l : Launch) (hl9 : l.stackTraces = false) (G : GT) (S : Mem) (a0 : Nat) (p1 : Int32) (p2 : Int32) (post : Int32 → Mem → Prop) (px : Nat → Mem → Prop) (hw : wpX6_stock S a0 p1 p2 post px) : CX emI l yX6_stock (wsU yX6_stock cX6_stock 4 (some .int)) rmX6_stock 3 18 G [.ref a0, .int p1, .int p2] S post px := by
  refine cx_open RX6 rfl (by decide +kernel) (Nat.le_of_ble_eq_true rfl) ?_
  intro p e s m args below meth c A X h hr hno ls hl
  have hl : lv_has ls 4 [(0, .ref a0), (1, .int p1), (2, .int p2)] := hl
  have hx := X.1
  have hb := X.2.1
  have hown := X.2.2.2.1
  unfold wpX6_stock at hw
  refine lv_aload_n hx hb dX6_stock_0 rfl (lv_at hl 0 rfl) ?_
  refine lv_iload_n hx hb dX6_stock_1 rfl (lv_at hl 1 rfl) ?_
  obtain ⟨k2, hw⟩ := hw
  refine rx_V (As := [.int p1]) (rest := []) X h hno k2 (by decide) rfl (meX6_completeJob l hl9 G _ _ _ _ _ hw) gV_X6_121 rfl rfl hdV_X6_completeJob rfl ⟨Nat.le_of_ble_eq_true rfl, Nat.le_of_ble_eq_true rfl⟩ hl.1 rfl (Nat.le_of_ble_eq_true rfl) ⟨Nat.le_of_ble_eq_true rfl, Nat.le_of_ble_eq_true rfl⟩ ⟨Nat.le_of_ble_eq_true rfl, Nat.le_of_ble_eq_true rfl⟩ dX6_stock_2 (fun r3 S1 H locs hw h => ?_)
  obtain ⟨o4, rfl, hw⟩ := hw
  refine lv_astore_n (lv' := [(3, .ref o4), (0, .ref a0), (1, .int p1), (2, .int p2)]) hx hb dX6_stock_5 rfl hl (by decide) rfl (fun ls hl => ?_)
  refine lv_aload_n hx hb dX6_stock_6 rfl (lv_at hl 0 rfl) ?_
  refine lv_iload_n hx hb dX6_stock_7 rfl (lv_at hl 3 rfl) ?_
  refine rx_S (As := [.ref o4, .int p2]) (rest := []) X h hno (meX6_requireSheet l hl9 G _ _ _ _ _ hw) gS_X6_127 rfl rfl hdS_X6_requireSheet rfl ⟨Nat.le_of_ble_eq_true rfl, Nat.le_of_ble_eq_true rfl⟩ hl.1 rfl (Nat.le_of_ble_eq_true rfl) ⟨Nat.le_of_ble_eq_true rfl, Nat.le_of_ble_eq_true rfl⟩ ⟨Nat.le_of_ble_eq_true rfl, Nat.le_of_ble_eq_true rfl⟩ dX6_stock_8 (fun u6 S5 H locs hw h => ?_)
  refine lv_aload_n hx hb dX6_stock_11 rfl (lv_at hl 0 rfl) ?_
  refine lv_iload_n hx hb dX6_stock_12 rfl (lv_at hl 3 rfl) ?_
  obtain ⟨k8, hw⟩ := hw
  refine rc_V (As := [.int p2]) (rest := []) X h k8 (by decide) rfl (meX1_stockOf l G _ _ _ _ hw) gV_X6_160 rfl rfl hdV_X1_stockOf rfl ⟨Nat.le_of_ble_eq_true rfl, Nat.le_of_ble_eq_true rfl⟩ hl.1 rfl (Nat.le_of_ble_eq_true rfl) ⟨Nat.le_of_ble_eq_true rfl, Nat.le_of_ble_eq_true rfl⟩ dX6_stock_13 (fun x9 S7 H locs hw h => ?_)
  exact vx_ret (en_i X h hr hw (Nat.le_of_ble_eq_true rfl) (Nat.le_of_ble_eq_true rfl) dX6_stock_16)
abbrev rmL_stock : Room := { frames := 9, cells := 3, slots := 18, locals := 157 }
def wpL_stock (S : Mem) (a0 : Nat) (p1 : Int32) (p2 : Int32) (post : Int32 → Mem → Prop) : Prop := isK S a0 6 ∧ (wpX6_stock S a0 p1 p2 (fun x3 S1 => post x3 S1) (fun k4 S5 => (k4 = 1 → (post (-77 : Int32) S5)) ∧ (k4 = 2 → (post (-79 : Int32) S5)) ∧ (k4 = 3 → (post (-75 : Int32) S5)) ∧ (k4 = 1 ∨ k4 = 2 ∨ k4 = 3)))
set_option maxHeartbeats 4000000 in
set_option maxRecDepth 100000 in
theorem meL_stock (l : Launch) (hl9 : l.stackTraces = false) (G : GT) (S : Mem) (a0 : Nat) (p1 : Int32) (p2 : Int32) (post : Int32 → Mem → Prop) (hw : wpL_stock S a0 p1 p2 post) : CN emI l yL_stock (wsH yL_stock cL_stock 4 (some .int) [(0, 6, 7, 26), (0, 6, 11, 20), (0, 6, 15, 55)]) rmL_stock 3 18 G [.ref a0, .int p1, .int p2] S post := by
  refine ch_open RL rfl (by decide +kernel) (Nat.le_of_ble_eq_true rfl) ?_
  intro p e s m args below meth c A X h hr hTab ls hl
  have hl : lv_has ls 4 [(0, .ref a0), (1, .int p1), (2, .int p2)] := hl
  have hx := X.1
  have hb := X.2.1
  have hown := X.2.2.2.1
  unfold wpL_stock at hw
  refine lv_aload_n hx hb dL_stock_0 rfl (lv_at hl 0 rfl) ?_
  refine lv_iload_n hx hb dL_stock_1 rfl (lv_at hl 1 rfl) ?_
  refine lv_iload_n hx hb dL_stock_2 rfl (lv_at hl 2 rfl) ?_
  obtain ⟨k2, hw⟩ := hw
  refine rx_VH (As := [.int p1, .int p2]) (rest := []) X h k2 (by decide) rfl (meX6_stock l hl9 G _ _ _ _ _ _ hw) gV_L_74 rfl rfl hdV_X6_stock rfl ⟨Nat.le_of_ble_eq_true rfl, Nat.le_of_ble_eq_true rfl⟩ hl.1 rfl (Nat.le_of_ble_eq_true rfl) ⟨Nat.le_of_ble_eq_true rfl, Nat.le_of_ble_eq_true rfl⟩ dL_stock_3 (fun k4 S5 H locs q9 ce hw h hce hcv hcl => ?_) (fun x3 S1 H locs hw h => ?_)
  · rcases hw.2.2.2 with hk9 | hk9 | hk9
    · subst hk9
      have hw := hw.1 rfl
      refine vx_catch (own := RL) (name := "java/lang/IndexOutOfBoundsException") (E := xn 1) hown [] ⟨0, 6, 7, 26⟩ [⟨0, 6, 11, 20⟩, ⟨0, 6, 15, 55⟩] (by rw [hTab]; rfl) (fun z hz => nomatch hz) (by decide) (by decide) (X.hts q262) (va_Nw.use (by rfl) (X.nw q296)) hce hcv hcl ?_
      refine lv_astore_n (lv' := [(3, .ref q9), (0, .ref a0), (1, .int p1), (2, .int p2)]) hx hb dL_stock_7 rfl hl (by decide) rfl (fun ls hl => ?_)
      refine lv_bipush (v := (-77 : Int32)) hx hb dL_stock_8 (by decide) ?_
      exact (en_i X h hr hw (Nat.le_of_ble_eq_true rfl) (Nat.le_of_ble_eq_true rfl) dL_stock_10)
    · subst hk9
      have hw := hw.2.1 rfl
      have hpass2 : ∀ z ∈ ([⟨0, 6, 7, 26⟩] : List ExceptionTableEntry), covers z 3 = false ∨ (z.catchType ≠ 0 ∧ ∃ nm : String, (Cond.classLink RL z.catchType nm).before args s = true ∧ va_Nc (xn 2) nm s) := by
        intro z hz
        rcases List.mem_cons.mp hz with rfl | hz
        · exact Or.inr ⟨by decide, "java/lang/IndexOutOfBoundsException", X.hts q262, X.2.2.2.2.2.2.1.2.2.2.2.1 ("java/lang/IllegalStateException", "java/lang/IndexOutOfBoundsException") (by decide +kernel)⟩
        cases hz
      refine vx_catch (own := RL) (name := "java/lang/IllegalStateException") (E := xn 2) hown [⟨0, 6, 7, 26⟩] ⟨0, 6, 11, 20⟩ [⟨0, 6, 15, 55⟩] (by rw [hTab]; rfl) (hpass2) (by decide) (by decide) (X.hts q179) (va_Nw.use (by rfl) (X.nw q186)) hce hcv hcl ?_
      refine lv_astore_n (lv' := [(3, .ref q9), (0, .ref a0), (1, .int p1), (2, .int p2)]) hx hb dL_stock_11 rfl hl (by decide) rfl (fun ls hl => ?_)
      refine lv_bipush (v := (-79 : Int32)) hx hb dL_stock_12 (by decide) ?_
      exact (en_i X h hr hw (Nat.le_of_ble_eq_true rfl) (Nat.le_of_ble_eq_true rfl) dL_stock_14)
    · subst hk9
      have hw := hw.2.2.1 rfl
      have hpass3 : ∀ z ∈ ([⟨0, 6, 7, 26⟩, ⟨0, 6, 11, 20⟩] : List ExceptionTableEntry), covers z 3 = false ∨ (z.catchType ≠ 0 ∧ ∃ nm : String, (Cond.classLink RL z.catchType nm).before args s = true ∧ va_Nc (xn 3) nm s) := by
        intro z hz
        rcases List.mem_cons.mp hz with rfl | hz
        · exact Or.inr ⟨by decide, "java/lang/IndexOutOfBoundsException", X.hts q262, X.2.2.2.2.2.2.1.2.2.2.2.1 ("java/util/NoSuchElementException", "java/lang/IndexOutOfBoundsException") (by decide +kernel)⟩
        rcases List.mem_cons.mp hz with rfl | hz
        · exact Or.inr ⟨by decide, "java/lang/IllegalStateException", X.hts q179, X.2.2.2.2.2.2.1.2.2.2.2.1 ("java/util/NoSuchElementException", "java/lang/IllegalStateException") (by decide +kernel)⟩
        cases hz
      refine vx_catch (own := RL) (name := "java/util/NoSuchElementException") (E := xn 3) hown [⟨0, 6, 7, 26⟩, ⟨0, 6, 11, 20⟩] ⟨0, 6, 15, 55⟩ [] (by rw [hTab]; rfl) (hpass3) (by decide) (by decide) (X.hts q480) (va_Nw.use (by rfl) (X.nw q491)) hce hcv hcl ?_
      refine lv_astore_n (lv' := [(3, .ref q9), (0, .ref a0), (1, .int p1), (2, .int p2)]) hx hb dL_stock_15 rfl hl (by decide) rfl (fun ls hl => ?_)
      refine lv_bipush (v := (-75 : Int32)) hx hb dL_stock_16 (by decide) ?_
      exact (en_i X h hr hw (Nat.le_of_ble_eq_true rfl) (Nat.le_of_ble_eq_true rfl) dL_stock_18)
  · exact (en_i X h hr hw (Nat.le_of_ble_eq_true rfl) (Nat.le_of_ble_eq_true rfl) dL_stock_6)
abbrev rmX6_pageAt : Room := { frames := 8, cells := 4, slots := 24, locals := 134 }
def wpX6_pageAt (S : Mem) (a0 : Nat) (p1 : Int32) (p2 : Int32) (p3 : Int32) (post : Int32 → Mem → Prop) (px : Nat → Mem → Prop) : Prop := isK S a0 6 ∧ (wpX6_completeJob S a0 p1 (fun r3 S1 => ∃ o4, r3 = some o4 ∧ (wpX6_requireSheet S1 o4 p2 (fun u6 S5 => (p3 < 0 → (px 3 S5)) ∧ (¬ p3 < 0 → (isK S5 o4 1 ∧ (wpX1_placeCount S5 o4 (fun x10 S8 => (p3 < x10 → (isK S8 o4 1 ∧ (wpX1_pageOn S8 o4 p2 p3 (fun x14 S12 => post x14 S12)))) ∧ (¬ p3 < x10 → (px 3 S8))))))) px)) px)
set_option maxHeartbeats 4000000 in
set_option maxRecDepth 100000 in
theorem meX6_pageAt (l : Launch) (hl9 : l.stackTraces = false) (G : GT) (S : Mem) (a0 : Nat) (p1 : Int32) (p2 : Int32) (p3 : Int32) (post : Int32 → Mem → Prop) (px : Nat → Mem → Prop) (hw : wpX6_pageAt S a0 p1 p2 p3 post px) : CX emI l yX6_pageAt (wsU yX6_pageAt cX6_pageAt 5 (some .int)) rmX6_pageAt 4 24 G [.ref a0, .int p1, .int p2, .int p3] S post px := by
  refine cx_open RX6 rfl (by decide +kernel) (Nat.le_of_ble_eq_true rfl) ?_
  intro p e s m args below meth c A X h hr hno ls hl
  have hl : lv_has ls 5 [(0, .ref a0), (1, .int p1), (2, .int p2), (3, .int p3)] := hl
  have hx := X.1
  have hb := X.2.1
  have hown := X.2.2.2.1
  unfold wpX6_pageAt at hw
  refine lv_aload_n hx hb dX6_pageAt_0 rfl (lv_at hl 0 rfl) ?_
  refine lv_iload_n hx hb dX6_pageAt_1 rfl (lv_at hl 1 rfl) ?_
  obtain ⟨k2, hw⟩ := hw
  refine rx_V (As := [.int p1]) (rest := []) X h hno k2 (by decide) rfl (meX6_completeJob l hl9 G _ _ _ _ _ hw) gV_X6_121 rfl rfl hdV_X6_completeJob rfl ⟨Nat.le_of_ble_eq_true rfl, Nat.le_of_ble_eq_true rfl⟩ hl.1 rfl (Nat.le_of_ble_eq_true rfl) ⟨Nat.le_of_ble_eq_true rfl, Nat.le_of_ble_eq_true rfl⟩ ⟨Nat.le_of_ble_eq_true rfl, Nat.le_of_ble_eq_true rfl⟩ dX6_pageAt_2 (fun r3 S1 H locs hw h => ?_)
  obtain ⟨o4, rfl, hw⟩ := hw
  refine lv_astore (lv' := [(4, .ref o4), (0, .ref a0), (1, .int p1), (2, .int p2), (3, .int p3)]) hx hb dX6_pageAt_5 hl (by decide) rfl (fun ls hl => ?_)
  refine lv_aload hx hb dX6_pageAt_7 (lv_at hl 0 rfl) ?_
  refine lv_iload_n hx hb dX6_pageAt_9 rfl (lv_at hl 3 rfl) ?_
  refine rx_S (As := [.ref o4, .int p2]) (rest := []) X h hno (meX6_requireSheet l hl9 G _ _ _ _ _ hw) gS_X6_127 rfl rfl hdS_X6_requireSheet rfl ⟨Nat.le_of_ble_eq_true rfl, Nat.le_of_ble_eq_true rfl⟩ hl.1 rfl (Nat.le_of_ble_eq_true rfl) ⟨Nat.le_of_ble_eq_true rfl, Nat.le_of_ble_eq_true rfl⟩ ⟨Nat.le_of_ble_eq_true rfl, Nat.le_of_ble_eq_true rfl⟩ dX6_pageAt_10 (fun u6 S5 H locs hw h => ?_)
  refine lv_iload_n hx hb dX6_pageAt_13 rfl (lv_at hl 4 rfl) ?_
  refine lv_if_lt (tgt := 26) hx hb dX6_pageAt_14 (by decide) (fun c7 => ?_) (fun c7 => ?_)
  · have hw := hw.1 c7
    exact en_y ta_X6_138d0 ta_X6_138d1 ta_X6_138d2 ta_X6_138d5 3 X h hl9 th_X6_136 hl.1 hno dX6_pageAt_26 dX6_pageAt_29 dX6_pageAt_30 dX6_pageAt_32 dX6_pageAt_35 ⟨Nat.le_of_ble_eq_true rfl, Nat.le_of_ble_eq_true rfl⟩ ⟨Nat.le_of_ble_eq_true rfl, Nat.le_of_ble_eq_true rfl⟩ ⟨Nat.le_of_ble_eq_true rfl, Nat.le_of_ble_eq_true rfl⟩ hw
  · have hw := hw.2 c7
    refine lv_iload_n hx hb dX6_pageAt_17 rfl (lv_at hl 4 rfl) ?_
    refine lv_aload hx hb dX6_pageAt_18 (lv_at hl 0 rfl) ?_
    obtain ⟨k9, hw⟩ := hw
    refine rc_V (As := []) (rest := [.int p3]) X h k9 (by decide) rfl (meX1_placeCount l G _ _ _ hw) gV_X6_131 rfl rfl hdV_X1_placeCount rfl ⟨Nat.le_of_ble_eq_true rfl, Nat.le_of_ble_eq_true rfl⟩ hl.1 rfl (Nat.le_of_ble_eq_true rfl) ⟨Nat.le_of_ble_eq_true rfl, Nat.le_of_ble_eq_true rfl⟩ dX6_pageAt_20 (fun x10 S8 H locs hw h => ?_)
    refine lv_icmp_lt (tgt := 36) hx hb dX6_pageAt_23 (by decide) (fun c11 => ?_) (fun c11 => ?_)
    · have hw := hw.1 c11
      refine lv_aload hx hb dX6_pageAt_36 (lv_at hl 0 rfl) ?_
      refine lv_iload_n hx hb dX6_pageAt_38 rfl (lv_at hl 3 rfl) ?_
      refine lv_iload_n hx hb dX6_pageAt_39 rfl (lv_at hl 4 rfl) ?_
      obtain ⟨k13, hw⟩ := hw
      refine rc_V (As := [.int p2, .int p3]) (rest := []) X h k13 (by decide) rfl (meX1_pageOn l G _ _ _ _ _ hw) gV_X6_139 rfl rfl hdV_X1_pageOn rfl ⟨Nat.le_of_ble_eq_true rfl, Nat.le_of_ble_eq_true rfl⟩ hl.1 rfl (Nat.le_of_ble_eq_true rfl) ⟨Nat.le_of_ble_eq_true rfl, Nat.le_of_ble_eq_true rfl⟩ dX6_pageAt_40 (fun x14 S12 H locs hw h => ?_)
      exact vx_ret (en_i X h hr hw (Nat.le_of_ble_eq_true rfl) (Nat.le_of_ble_eq_true rfl) dX6_pageAt_43)
    · have hw := hw.2 c11
      exact en_y ta_X6_138d0 ta_X6_138d1 ta_X6_138d2 ta_X6_138d5 3 X h hl9 th_X6_136 hl.1 hno dX6_pageAt_26 dX6_pageAt_29 dX6_pageAt_30 dX6_pageAt_32 dX6_pageAt_35 ⟨Nat.le_of_ble_eq_true rfl, Nat.le_of_ble_eq_true rfl⟩ ⟨Nat.le_of_ble_eq_true rfl, Nat.le_of_ble_eq_true rfl⟩ ⟨Nat.le_of_ble_eq_true rfl, Nat.le_of_ble_eq_true rfl⟩ hw
abbrev rmL_pageAt : Room := { frames := 9, cells := 4, slots := 24, locals := 158 }
def wpL_pageAt (S : Mem) (a0 : Nat) (p1 : Int32) (p2 : Int32) (p3 : Int32) (post : Int32 → Mem → Prop) : Prop := isK S a0 6 ∧ (wpX6_pageAt S a0 p1 p2 p3 (fun x3 S1 => post x3 S1) (fun k4 S5 => (k4 = 1 → (post (-77 : Int32) S5)) ∧ (k4 = 2 → (post (-79 : Int32) S5)) ∧ (k4 = 3 → (post (-75 : Int32) S5)) ∧ (k4 = 1 ∨ k4 = 2 ∨ k4 = 3)))
set_option maxHeartbeats 4000000 in
set_option maxRecDepth 100000 in
theorem meL_pageAt (l : Launch) (hl9 : l.stackTraces = false) (G : GT) (S : Mem) (a0 : Nat) (p1 : Int32) (p2 : Int32) (p3 : Int32) (post : Int32 → Mem → Prop) (hw : wpL_pageAt S a0 p1 p2 p3 post) : CN emI l yL_pageAt (wsH yL_pageAt cL_pageAt 5 (some .int) [(0, 7, 8, 26), (0, 7, 13, 20), (0, 7, 18, 55)]) rmL_pageAt 4 24 G [.ref a0, .int p1, .int p2, .int p3] S post := by
  refine ch_open RL rfl (by decide +kernel) (Nat.le_of_ble_eq_true rfl) ?_
  intro p e s m args below meth c A X h hr hTab ls hl
  have hl : lv_has ls 5 [(0, .ref a0), (1, .int p1), (2, .int p2), (3, .int p3)] := hl
  have hx := X.1
  have hb := X.2.1
  have hown := X.2.2.2.1
  unfold wpL_pageAt at hw
  refine lv_aload_n hx hb dL_pageAt_0 rfl (lv_at hl 0 rfl) ?_
  refine lv_iload_n hx hb dL_pageAt_1 rfl (lv_at hl 1 rfl) ?_
  refine lv_iload_n hx hb dL_pageAt_2 rfl (lv_at hl 2 rfl) ?_
  refine lv_iload_n hx hb dL_pageAt_3 rfl (lv_at hl 3 rfl) ?_
  obtain ⟨k2, hw⟩ := hw
  refine rx_VH (As := [.int p1, .int p2, .int p3]) (rest := []) X h k2 (by decide) rfl (meX6_pageAt l hl9 G _ _ _ _ _ _ _ hw) gV_L_51 rfl rfl hdV_X6_pageAt rfl ⟨Nat.le_of_ble_eq_true rfl, Nat.le_of_ble_eq_true rfl⟩ hl.1 rfl (Nat.le_of_ble_eq_true rfl) ⟨Nat.le_of_ble_eq_true rfl, Nat.le_of_ble_eq_true rfl⟩ dL_pageAt_4 (fun k4 S5 H locs q9 ce hw h hce hcv hcl => ?_) (fun x3 S1 H locs hw h => ?_)
  · rcases hw.2.2.2 with hk9 | hk9 | hk9
    · subst hk9
      have hw := hw.1 rfl
      refine vx_catch (own := RL) (name := "java/lang/IndexOutOfBoundsException") (E := xn 1) hown [] ⟨0, 7, 8, 26⟩ [⟨0, 7, 13, 20⟩, ⟨0, 7, 18, 55⟩] (by rw [hTab]; rfl) (fun z hz => nomatch hz) (by decide) (by decide) (X.hts q262) (va_Nw.use (by rfl) (X.nw q296)) hce hcv hcl ?_
      refine lv_astore (lv' := [(4, .ref q9), (0, .ref a0), (1, .int p1), (2, .int p2), (3, .int p3)]) hx hb dL_pageAt_8 hl (by decide) rfl (fun ls hl => ?_)
      refine lv_bipush (v := (-77 : Int32)) hx hb dL_pageAt_10 (by decide) ?_
      exact (en_i X h hr hw (Nat.le_of_ble_eq_true rfl) (Nat.le_of_ble_eq_true rfl) dL_pageAt_12)
    · subst hk9
      have hw := hw.2.1 rfl
      have hpass2 : ∀ z ∈ ([⟨0, 7, 8, 26⟩] : List ExceptionTableEntry), covers z 4 = false ∨ (z.catchType ≠ 0 ∧ ∃ nm : String, (Cond.classLink RL z.catchType nm).before args s = true ∧ va_Nc (xn 2) nm s) := by
        intro z hz
        rcases List.mem_cons.mp hz with rfl | hz
        · exact Or.inr ⟨by decide, "java/lang/IndexOutOfBoundsException", X.hts q262, X.2.2.2.2.2.2.1.2.2.2.2.1 ("java/lang/IllegalStateException", "java/lang/IndexOutOfBoundsException") (by decide +kernel)⟩
        cases hz
      refine vx_catch (own := RL) (name := "java/lang/IllegalStateException") (E := xn 2) hown [⟨0, 7, 8, 26⟩] ⟨0, 7, 13, 20⟩ [⟨0, 7, 18, 55⟩] (by rw [hTab]; rfl) (hpass2) (by decide) (by decide) (X.hts q179) (va_Nw.use (by rfl) (X.nw q186)) hce hcv hcl ?_
      refine lv_astore (lv' := [(4, .ref q9), (0, .ref a0), (1, .int p1), (2, .int p2), (3, .int p3)]) hx hb dL_pageAt_13 hl (by decide) rfl (fun ls hl => ?_)
      refine lv_bipush (v := (-79 : Int32)) hx hb dL_pageAt_15 (by decide) ?_
      exact (en_i X h hr hw (Nat.le_of_ble_eq_true rfl) (Nat.le_of_ble_eq_true rfl) dL_pageAt_17)
    · subst hk9
      have hw := hw.2.2.1 rfl
      have hpass3 : ∀ z ∈ ([⟨0, 7, 8, 26⟩, ⟨0, 7, 13, 20⟩] : List ExceptionTableEntry), covers z 4 = false ∨ (z.catchType ≠ 0 ∧ ∃ nm : String, (Cond.classLink RL z.catchType nm).before args s = true ∧ va_Nc (xn 3) nm s) := by
        intro z hz
        rcases List.mem_cons.mp hz with rfl | hz
        · exact Or.inr ⟨by decide, "java/lang/IndexOutOfBoundsException", X.hts q262, X.2.2.2.2.2.2.1.2.2.2.2.1 ("java/util/NoSuchElementException", "java/lang/IndexOutOfBoundsException") (by decide +kernel)⟩
        rcases List.mem_cons.mp hz with rfl | hz
        · exact Or.inr ⟨by decide, "java/lang/IllegalStateException", X.hts q179, X.2.2.2.2.2.2.1.2.2.2.2.1 ("java/util/NoSuchElementException", "java/lang/IllegalStateException") (by decide +kernel)⟩
        cases hz
      refine vx_catch (own := RL) (name := "java/util/NoSuchElementException") (E := xn 3) hown [⟨0, 7, 8, 26⟩, ⟨0, 7, 13, 20⟩] ⟨0, 7, 18, 55⟩ [] (by rw [hTab]; rfl) (hpass3) (by decide) (by decide) (X.hts q480) (va_Nw.use (by rfl) (X.nw q491)) hce hcv hcl ?_
      refine lv_astore (lv' := [(4, .ref q9), (0, .ref a0), (1, .int p1), (2, .int p2), (3, .int p3)]) hx hb dL_pageAt_18 hl (by decide) rfl (fun ls hl => ?_)
      refine lv_bipush (v := (-75 : Int32)) hx hb dL_pageAt_20 (by decide) ?_
      exact (en_i X h hr hw (Nat.le_of_ble_eq_true rfl) (Nat.le_of_ble_eq_true rfl) dL_pageAt_22)
  · exact (en_i X h hr hw (Nat.le_of_ble_eq_true rfl) (Nat.le_of_ble_eq_true rfl) dL_pageAt_7)
abbrev rmX1_hasPage : Room := { frames := 1, cells := 0, slots := 0, locals := 22 }
def wlX1_hasPage_8 (a0 : Nat) (p1 : Int32) (p2 : Int32) (x3 : Int32) (post : Int32 → Mem → Prop)  : Nat → Int32 → Mem → Prop
  | 0 => fun _ _ => False
  | n + 1 => fun w4 S => (x3 ≤ w4 → (vz_nar (nI 0) ∧ (post (nI 0) S))) ∧ (¬ x3 ≤ w4 → (isK S a0 1 ∧ (wpX1_pageOn S a0 p1 w4 (fun x8 S6 => (¬ x8 = p2 → (∀ x10 : Int32, x10 = (w4 + (nI 1)) → (wlX1_hasPage_8 a0 p1 p2 x3 post n x10 S6))) ∧ (x8 = p2 → (vz_nar (nI 1) ∧ (post (nI 1) S6)))))))
set_option maxHeartbeats 4000000 in
set_option maxRecDepth 100000 in
theorem llX1_hasPage_8 {p : Program} {l : Launch} {e : Env} {s : State} {m : MethodId} {args : Array Value} {below : List Frame} {meth : Method} {c : Code} {G : GT} {A : Nat → Prop} (X : Cx p s m args meth c cX1_hasPage 5 RX1 G A) (hr : meth.sig.returnType = (some .boolean)) (a0 : Nat) (p1 : Int32) (p2 : Int32) (x3 : Int32) (post : Int32 → Mem → Prop)   : ∀ (n : Nat) (w4 : Int32) (S : Mem), wlX1_hasPage_8 a0 p1 p2 x3 post n w4 S → ∀ (H : Heap) (locs : List Loc) (ls : Array Slot), Hx G A s.heap H locs S → lv_has ls 5 [(0, .ref a0), (1, .int p1), (2, .int p2), (3, .int x3), (4, .int w4)] → W p l e rmX1_hasPage s m args below meth c H locs 0 0 (MQ below (QN emI post G A) args s 0 0 A) (F0 m 8 ls []) := by
  have hx := X.1
  have hb := X.2.1
  have hown := X.2.2.2.1
  intro n
  induction n with
  | zero =>
    intro _ _ hw
    exact hw.elim
  | succ n ih =>
    intro w4 S hw H locs ls h hl
    refine lv_iload hx hb dX1_hasPage_8 (lv_at hl 4 rfl) ?_
    refine lv_iload_n hx hb dX1_hasPage_10 rfl (lv_at hl 3 rfl) ?_
    refine lv_icmp_ge (tgt := 33) hx hb dX1_hasPage_11 (by decide) (fun c4 => ?_) (fun c4 => ?_)
    · have hw := hw.1 c4
      refine lv_iconst (v := (nI 0)) hx hb dX1_hasPage_33 (by decide) ?_
      obtain ⟨b5, hw⟩ := hw
      exact (en_z X h hr b5 hw (Nat.le_of_ble_eq_true rfl) (Nat.le_of_ble_eq_true rfl) dX1_hasPage_34)
    · have hw := hw.2 c4
      refine lv_aload_n hx hb dX1_hasPage_14 rfl (lv_at hl 0 rfl) ?_
      refine lv_iload_n hx hb dX1_hasPage_15 rfl (lv_at hl 1 rfl) ?_
      refine lv_iload hx hb dX1_hasPage_16 (lv_at hl 4 rfl) ?_
      obtain ⟨k7, hw⟩ := hw
      refine rc_V (As := [.int p1, .int w4]) (rest := []) X h k7 (by decide) rfl (meX1_pageOn l G _ _ _ _ _ hw) gV_X1_34 rfl rfl hdV_X1_pageOn rfl ⟨Nat.le_of_ble_eq_true rfl, Nat.le_of_ble_eq_true rfl⟩ hl.1 rfl (Nat.le_of_ble_eq_true rfl) ⟨Nat.le_of_ble_eq_true rfl, Nat.le_of_ble_eq_true rfl⟩ dX1_hasPage_18 (fun x8 S6 H locs hw h => ?_)
      refine lv_iload_n hx hb dX1_hasPage_21 rfl (lv_at hl 2 rfl) ?_
      refine lv_icmp_ne (tgt := 27) hx hb dX1_hasPage_22 (by decide) (fun c9 => ?_) (fun c9 => ?_)
      · have hw := hw.1 c9
        obtain ⟨x10, ex10⟩ : ∃ y : Int32, y = (w4 + (nI 1)) := ⟨_, rfl⟩
        have hw := hw x10 ex10
        refine lv_iinc (v := x10) (lv' := [(4, .int x10), (0, .ref a0), (1, .int p1), (2, .int p2), (3, .int x3)]) hx hb dX1_hasPage_27 hl (k := 4) rfl (by rw [ex10]; rfl) (by decide) rfl (fun ls hl => ?_)
        refine lv_goto (tgt := 8) hx hb dX1_hasPage_30 (by decide) ?_
        exact ih _ _ hw _ _ _ h (lv_sub hl [1, 2, 3, 4, 0] rfl)
      · have hw := hw.2 c9
        refine lv_iconst (v := (nI 1)) hx hb dX1_hasPage_25 (by decide) ?_
        obtain ⟨b11, hw⟩ := hw
        exact (en_z X h hr b11 hw (Nat.le_of_ble_eq_true rfl) (Nat.le_of_ble_eq_true rfl) dX1_hasPage_26)
def wpX1_hasPage (S : Mem) (a0 : Nat) (p1 : Int32) (p2 : Int32) (post : Int32 → Mem → Prop) : Prop := isK S a0 1 ∧ (wpX1_placeCount S a0 (fun x3 S1 => ∃ m, wlX1_hasPage_8 a0 p1 p2 x3 post m (nI 0) S1))
set_option maxHeartbeats 4000000 in
set_option maxRecDepth 100000 in
theorem meX1_hasPage (l : Launch) (G : GT) (S : Mem) (a0 : Nat) (p1 : Int32) (p2 : Int32) (post : Int32 → Mem → Prop) (hw : wpX1_hasPage S a0 p1 p2 post) : CN emI l yX1_hasPage (wsU yX1_hasPage cX1_hasPage 5 (some .boolean)) rmX1_hasPage 0 0 G [.ref a0, .int p1, .int p2] S post := by
  refine cn_open RX1 rfl (by decide +kernel) (Nat.le_of_ble_eq_true rfl) ?_
  intro p e s m args below meth c A X h hr hin ls hl
  have hl : lv_has ls 5 [(0, .ref a0), (1, .int p1), (2, .int p2)] := hl
  have hx := X.1
  have hb := X.2.1
  have hown := X.2.2.2.1
  unfold wpX1_hasPage at hw
  refine lv_aload_n hx hb dX1_hasPage_0 rfl (lv_at hl 0 rfl) ?_
  obtain ⟨k2, hw⟩ := hw
  refine rc_V (As := []) (rest := []) X h k2 (by decide) rfl (meX1_placeCount l G _ _ _ hw) gV_X1_42 rfl rfl hdV_X1_placeCount rfl ⟨Nat.le_of_ble_eq_true rfl, Nat.le_of_ble_eq_true rfl⟩ hl.1 rfl (Nat.le_of_ble_eq_true rfl) ⟨Nat.le_of_ble_eq_true rfl, Nat.le_of_ble_eq_true rfl⟩ dX1_hasPage_1 (fun x3 S1 H locs hw h => ?_)
  refine lv_istore_n (lv' := [(3, .int x3), (0, .ref a0), (1, .int p1), (2, .int p2)]) hx hb dX1_hasPage_4 rfl hl (by decide) rfl (fun ls hl => ?_)
  refine lv_iconst (v := (nI 0)) hx hb dX1_hasPage_5 (by decide) ?_
  refine lv_istore (lv' := [(4, .int (nI 0)), (3, .int x3), (0, .ref a0), (1, .int p1), (2, .int p2)]) hx hb dX1_hasPage_6 hl (by decide) rfl (fun ls hl => ?_)
  obtain ⟨n12, hw⟩ := hw
  exact llX1_hasPage_8  X hr _ _ _ _ _ n12 _ _ hw _ _ _ h (lv_sub hl [2, 3, 4, 1, 0] rfl)
abbrev rmX1_sheetWith : Room := { frames := 2, cells := 0, slots := 0, locals := 46 }
def wlX1_sheetWith_7 (a0 : Nat) (p1 : Int32) (x3 : Int32) (post : Int32 → Mem → Prop)  : Nat → Int32 → Mem → Prop
  | 0 => fun _ _ => False
  | n + 1 => fun w3 S => (x3 ≤ w3 → (post (-1 : Int32) S)) ∧ (¬ x3 ≤ w3 → (isK S a0 1 ∧ (wpX1_hasPage S a0 w3 p1 (fun x7 S5 => (x7 = 0 → (∀ x9 : Int32, x9 = (w3 + (nI 1)) → (wlX1_sheetWith_7 a0 p1 x3 post n x9 S5))) ∧ (¬ x7 = 0 → (post w3 S5))))))
set_option maxHeartbeats 4000000 in
set_option maxRecDepth 100000 in
theorem llX1_sheetWith_7 {p : Program} {l : Launch} {e : Env} {s : State} {m : MethodId} {args : Array Value} {below : List Frame} {meth : Method} {c : Code} {G : GT} {A : Nat → Prop} (X : Cx p s m args meth c cX1_sheetWith 4 RX1 G A) (hr : meth.sig.returnType = (some .int)) (a0 : Nat) (p1 : Int32) (x3 : Int32) (post : Int32 → Mem → Prop)   : ∀ (n : Nat) (w3 : Int32) (S : Mem), wlX1_sheetWith_7 a0 p1 x3 post n w3 S → ∀ (H : Heap) (locs : List Loc) (ls : Array Slot), Hx G A s.heap H locs S → lv_has ls 4 [(0, .ref a0), (1, .int p1), (2, .int x3), (3, .int w3)] → W p l e rmX1_sheetWith s m args below meth c H locs 0 0 (MQ below (QN emI post G A) args s 0 0 A) (F0 m 7 ls []) := by
  have hx := X.1
  have hb := X.2.1
  have hown := X.2.2.2.1
  intro n
  induction n with
  | zero =>
    intro _ _ hw
    exact hw.elim
  | succ n ih =>
    intro w3 S hw H locs ls h hl
    refine lv_iload_n hx hb dX1_sheetWith_7 rfl (lv_at hl 3 rfl) ?_
    refine lv_iload_n hx hb dX1_sheetWith_8 rfl (lv_at hl 2 rfl) ?_
    refine lv_icmp_ge (tgt := 29) hx hb dX1_sheetWith_9 (by decide) (fun c4 => ?_) (fun c4 => ?_)
    · have hw := hw.1 c4
      refine lv_iconst (v := (-1 : Int32)) hx hb dX1_sheetWith_29 (by decide) ?_
      exact (en_i X h hr hw (Nat.le_of_ble_eq_true rfl) (Nat.le_of_ble_eq_true rfl) dX1_sheetWith_30)
    · have hw := hw.2 c4
      refine lv_aload_n hx hb dX1_sheetWith_12 rfl (lv_at hl 0 rfl) ?_
      refine lv_iload_n hx hb dX1_sheetWith_13 rfl (lv_at hl 3 rfl) ?_
      refine lv_iload_n hx hb dX1_sheetWith_14 rfl (lv_at hl 1 rfl) ?_
      obtain ⟨k6, hw⟩ := hw
      refine rc_V (As := [.int w3, .int p1]) (rest := []) X h k6 (by decide) rfl (meX1_hasPage l G _ _ _ _ _ hw) gV_X1_49 rfl rfl hdV_X1_hasPage rfl ⟨Nat.le_of_ble_eq_true rfl, Nat.le_of_ble_eq_true rfl⟩ hl.1 rfl (Nat.le_of_ble_eq_true rfl) ⟨Nat.le_of_ble_eq_true rfl, Nat.le_of_ble_eq_true rfl⟩ dX1_sheetWith_15 (fun x7 S5 H locs hw h => ?_)
      refine lv_if_eq (tgt := 23) hx hb dX1_sheetWith_18 (by decide) (fun c8 => ?_) (fun c8 => ?_)
      · have hw := hw.1 c8
        obtain ⟨x9, ex9⟩ : ∃ y : Int32, y = (w3 + (nI 1)) := ⟨_, rfl⟩
        have hw := hw x9 ex9
        refine lv_iinc (v := x9) (lv' := [(3, .int x9), (0, .ref a0), (1, .int p1), (2, .int x3)]) hx hb dX1_sheetWith_23 hl (k := 3) rfl (by rw [ex9]; rfl) (by decide) rfl (fun ls hl => ?_)
        refine lv_goto (tgt := 7) hx hb dX1_sheetWith_26 (by decide) ?_
        exact ih _ _ hw _ _ _ h (lv_sub hl [1, 2, 3, 0] rfl)
      · have hw := hw.2 c8
        refine lv_iload_n hx hb dX1_sheetWith_21 rfl (lv_at hl 3 rfl) ?_
        exact (en_i X h hr hw (Nat.le_of_ble_eq_true rfl) (Nat.le_of_ble_eq_true rfl) dX1_sheetWith_22)
def wpX1_sheetWith (S : Mem) (a0 : Nat) (p1 : Int32) (post : Int32 → Mem → Prop) : Prop := isK S a0 1 ∧ (wpX1_sheetCount S a0 (fun x3 S1 => ∃ m, wlX1_sheetWith_7 a0 p1 x3 post m (nI 0) S1))
set_option maxHeartbeats 4000000 in
set_option maxRecDepth 100000 in
theorem meX1_sheetWith (l : Launch) (G : GT) (S : Mem) (a0 : Nat) (p1 : Int32) (post : Int32 → Mem → Prop) (hw : wpX1_sheetWith S a0 p1 post) : CN emI l yX1_sheetWith (wsU yX1_sheetWith cX1_sheetWith 4 (some .int)) rmX1_sheetWith 0 0 G [.ref a0, .int p1] S post := by
  refine cn_open RX1 rfl (by decide +kernel) (Nat.le_of_ble_eq_true rfl) ?_
  intro p e s m args below meth c A X h hr hin ls hl
  have hl : lv_has ls 4 [(0, .ref a0), (1, .int p1)] := hl
  have hx := X.1
  have hb := X.2.1
  have hown := X.2.2.2.1
  unfold wpX1_sheetWith at hw
  refine lv_aload_n hx hb dX1_sheetWith_0 rfl (lv_at hl 0 rfl) ?_
  obtain ⟨k2, hw⟩ := hw
  refine rc_V (As := []) (rest := []) X h k2 (by decide) rfl (meX1_sheetCount l G _ _ _ hw) gV_X1_46 rfl rfl hdV_X1_sheetCount rfl ⟨Nat.le_of_ble_eq_true rfl, Nat.le_of_ble_eq_true rfl⟩ hl.1 rfl (Nat.le_of_ble_eq_true rfl) ⟨Nat.le_of_ble_eq_true rfl, Nat.le_of_ble_eq_true rfl⟩ dX1_sheetWith_1 (fun x3 S1 H locs hw h => ?_)
  refine lv_istore_n (lv' := [(2, .int x3), (0, .ref a0), (1, .int p1)]) hx hb dX1_sheetWith_4 rfl hl (by decide) rfl (fun ls hl => ?_)
  refine lv_iconst (v := (nI 0)) hx hb dX1_sheetWith_5 (by decide) ?_
  refine lv_istore_n (lv' := [(3, .int (nI 0)), (2, .int x3), (0, .ref a0), (1, .int p1)]) hx hb dX1_sheetWith_6 rfl hl (by decide) rfl (fun ls hl => ?_)
  obtain ⟨n10, hw⟩ := hw
  exact llX1_sheetWith_7  X hr _ _ _ _ n10 _ _ hw _ _ _ h (lv_sub hl [2, 3, 1, 0] rfl)
abbrev rmX6_sheetOf : Room := { frames := 8, cells := 3, slots := 18, locals := 134 }
def wpX6_sheetOf (S : Mem) (a0 : Nat) (p1 : Int32) (p2 : Int32) (post : Int32 → Mem → Prop) (px : Nat → Mem → Prop) : Prop := isK S a0 6 ∧ (wpX6_completeJob S a0 p1 (fun r3 S1 => ∃ o4, r3 = some o4 ∧ ((p2 < (nI 1) → (px 3 S1)) ∧ (¬ p2 < (nI 1) → (isK S1 o4 1 ∧ ((p2 ≤ (mI S1 o4 3) → (wpX1_sheetWith S1 o4 p2 (fun x9 S8 => post x9 S8))) ∧ (¬ p2 ≤ (mI S1 o4 3) → (px 3 S1))))))) px)
set_option maxHeartbeats 4000000 in
set_option maxRecDepth 100000 in
theorem meX6_sheetOf (l : Launch) (hl9 : l.stackTraces = false) (G : GT) (S : Mem) (a0 : Nat) (p1 : Int32) (p2 : Int32) (post : Int32 → Mem → Prop) (px : Nat → Mem → Prop) (hw : wpX6_sheetOf S a0 p1 p2 post px) : CX emI l yX6_sheetOf (wsU yX6_sheetOf cX6_sheetOf 4 (some .int)) rmX6_sheetOf 3 18 G [.ref a0, .int p1, .int p2] S post px := by
  refine cx_open RX6 rfl (by decide +kernel) (Nat.le_of_ble_eq_true rfl) ?_
  intro p e s m args below meth c A X h hr hno ls hl
  have hl : lv_has ls 4 [(0, .ref a0), (1, .int p1), (2, .int p2)] := hl
  have hx := X.1
  have hb := X.2.1
  have hown := X.2.2.2.1
  unfold wpX6_sheetOf at hw
  refine lv_aload_n hx hb dX6_sheetOf_0 rfl (lv_at hl 0 rfl) ?_
  refine lv_iload_n hx hb dX6_sheetOf_1 rfl (lv_at hl 1 rfl) ?_
  obtain ⟨k2, hw⟩ := hw
  refine rx_V (As := [.int p1]) (rest := []) X h hno k2 (by decide) rfl (meX6_completeJob l hl9 G _ _ _ _ _ hw) gV_X6_121 rfl rfl hdV_X6_completeJob rfl ⟨Nat.le_of_ble_eq_true rfl, Nat.le_of_ble_eq_true rfl⟩ hl.1 rfl (Nat.le_of_ble_eq_true rfl) ⟨Nat.le_of_ble_eq_true rfl, Nat.le_of_ble_eq_true rfl⟩ ⟨Nat.le_of_ble_eq_true rfl, Nat.le_of_ble_eq_true rfl⟩ dX6_sheetOf_2 (fun r3 S1 H locs hw h => ?_)
  obtain ⟨o4, rfl, hw⟩ := hw
  refine lv_astore_n (lv' := [(3, .ref o4), (0, .ref a0), (1, .int p1), (2, .int p2)]) hx hb dX6_sheetOf_5 rfl hl (by decide) rfl (fun ls hl => ?_)
  refine lv_iload_n hx hb dX6_sheetOf_6 rfl (lv_at hl 3 rfl) ?_
  refine lv_iconst (v := (nI 1)) hx hb dX6_sheetOf_7 (by decide) ?_
  refine lv_icmp_lt (tgt := 19) hx hb dX6_sheetOf_8 (by decide) (fun c5 => ?_) (fun c5 => ?_)
  · have hw := hw.1 c5
    exact en_y ta_X6_138d0 ta_X6_138d1 ta_X6_138d2 ta_X6_138d5 3 X h hl9 th_X6_143 hl.1 hno dX6_sheetOf_19 dX6_sheetOf_22 dX6_sheetOf_23 dX6_sheetOf_25 dX6_sheetOf_28 ⟨Nat.le_of_ble_eq_true rfl, Nat.le_of_ble_eq_true rfl⟩ ⟨Nat.le_of_ble_eq_true rfl, Nat.le_of_ble_eq_true rfl⟩ ⟨Nat.le_of_ble_eq_true rfl, Nat.le_of_ble_eq_true rfl⟩ hw
  · have hw := hw.2 c5
    refine lv_iload_n hx hb dX6_sheetOf_11 rfl (lv_at hl 3 rfl) ?_
    refine lv_aload_n hx hb dX6_sheetOf_12 rfl (lv_at hl 0 rfl) ?_
    obtain ⟨k6, hw⟩ := hw
    refine r_getIN X h k6 3  (by decide) rfl inX1 (by decide) rfl q419 rfl dX6_sheetOf_13 ?_
    refine lv_icmp_le (tgt := 29) hx hb dX6_sheetOf_16 (by decide) (fun c7 => ?_) (fun c7 => ?_)
    · have hw := hw.1 c7
      refine lv_aload_n hx hb dX6_sheetOf_29 rfl (lv_at hl 0 rfl) ?_
      refine lv_iload_n hx hb dX6_sheetOf_30 rfl (lv_at hl 3 rfl) ?_
      refine rc_V (As := [.int p2]) (rest := []) X h k6 (by decide) rfl (meX1_sheetWith l G _ _ _ _ hw) gV_X6_145 rfl rfl hdV_X1_sheetWith rfl ⟨Nat.le_of_ble_eq_true rfl, Nat.le_of_ble_eq_true rfl⟩ hl.1 rfl (Nat.le_of_ble_eq_true rfl) ⟨Nat.le_of_ble_eq_true rfl, Nat.le_of_ble_eq_true rfl⟩ dX6_sheetOf_31 (fun x9 S8 H locs hw h => ?_)
      exact vx_ret (en_i X h hr hw (Nat.le_of_ble_eq_true rfl) (Nat.le_of_ble_eq_true rfl) dX6_sheetOf_34)
    · have hw := hw.2 c7
      exact en_y ta_X6_138d0 ta_X6_138d1 ta_X6_138d2 ta_X6_138d5 3 X h hl9 th_X6_143 hl.1 hno dX6_sheetOf_19 dX6_sheetOf_22 dX6_sheetOf_23 dX6_sheetOf_25 dX6_sheetOf_28 ⟨Nat.le_of_ble_eq_true rfl, Nat.le_of_ble_eq_true rfl⟩ ⟨Nat.le_of_ble_eq_true rfl, Nat.le_of_ble_eq_true rfl⟩ ⟨Nat.le_of_ble_eq_true rfl, Nat.le_of_ble_eq_true rfl⟩ hw
abbrev rmL_sheetOf : Room := { frames := 9, cells := 3, slots := 18, locals := 157 }
def wpL_sheetOf (S : Mem) (a0 : Nat) (p1 : Int32) (p2 : Int32) (post : Int32 → Mem → Prop) : Prop := isK S a0 6 ∧ (wpX6_sheetOf S a0 p1 p2 (fun x3 S1 => post x3 S1) (fun k4 S5 => (k4 = 1 → (post (-77 : Int32) S5)) ∧ (k4 = 2 → (post (-79 : Int32) S5)) ∧ (k4 = 3 → (post (-75 : Int32) S5)) ∧ (k4 = 1 ∨ k4 = 2 ∨ k4 = 3)))
set_option maxHeartbeats 4000000 in
set_option maxRecDepth 100000 in
theorem meL_sheetOf (l : Launch) (hl9 : l.stackTraces = false) (G : GT) (S : Mem) (a0 : Nat) (p1 : Int32) (p2 : Int32) (post : Int32 → Mem → Prop) (hw : wpL_sheetOf S a0 p1 p2 post) : CN emI l yL_sheetOf (wsH yL_sheetOf cL_sheetOf 4 (some .int) [(0, 6, 7, 26), (0, 6, 11, 20), (0, 6, 15, 55)]) rmL_sheetOf 3 18 G [.ref a0, .int p1, .int p2] S post := by
  refine ch_open RL rfl (by decide +kernel) (Nat.le_of_ble_eq_true rfl) ?_
  intro p e s m args below meth c A X h hr hTab ls hl
  have hl : lv_has ls 4 [(0, .ref a0), (1, .int p1), (2, .int p2)] := hl
  have hx := X.1
  have hb := X.2.1
  have hown := X.2.2.2.1
  unfold wpL_sheetOf at hw
  refine lv_aload_n hx hb dL_sheetOf_0 rfl (lv_at hl 0 rfl) ?_
  refine lv_iload_n hx hb dL_sheetOf_1 rfl (lv_at hl 1 rfl) ?_
  refine lv_iload_n hx hb dL_sheetOf_2 rfl (lv_at hl 2 rfl) ?_
  obtain ⟨k2, hw⟩ := hw
  refine rx_VH (As := [.int p1, .int p2]) (rest := []) X h k2 (by decide) rfl (meX6_sheetOf l hl9 G _ _ _ _ _ _ hw) gV_L_57 rfl rfl hdV_X6_sheetOf rfl ⟨Nat.le_of_ble_eq_true rfl, Nat.le_of_ble_eq_true rfl⟩ hl.1 rfl (Nat.le_of_ble_eq_true rfl) ⟨Nat.le_of_ble_eq_true rfl, Nat.le_of_ble_eq_true rfl⟩ dL_sheetOf_3 (fun k4 S5 H locs q9 ce hw h hce hcv hcl => ?_) (fun x3 S1 H locs hw h => ?_)
  · rcases hw.2.2.2 with hk9 | hk9 | hk9
    · subst hk9
      have hw := hw.1 rfl
      refine vx_catch (own := RL) (name := "java/lang/IndexOutOfBoundsException") (E := xn 1) hown [] ⟨0, 6, 7, 26⟩ [⟨0, 6, 11, 20⟩, ⟨0, 6, 15, 55⟩] (by rw [hTab]; rfl) (fun z hz => nomatch hz) (by decide) (by decide) (X.hts q262) (va_Nw.use (by rfl) (X.nw q296)) hce hcv hcl ?_
      refine lv_astore_n (lv' := [(3, .ref q9), (0, .ref a0), (1, .int p1), (2, .int p2)]) hx hb dL_sheetOf_7 rfl hl (by decide) rfl (fun ls hl => ?_)
      refine lv_bipush (v := (-77 : Int32)) hx hb dL_sheetOf_8 (by decide) ?_
      exact (en_i X h hr hw (Nat.le_of_ble_eq_true rfl) (Nat.le_of_ble_eq_true rfl) dL_sheetOf_10)
    · subst hk9
      have hw := hw.2.1 rfl
      have hpass2 : ∀ z ∈ ([⟨0, 6, 7, 26⟩] : List ExceptionTableEntry), covers z 3 = false ∨ (z.catchType ≠ 0 ∧ ∃ nm : String, (Cond.classLink RL z.catchType nm).before args s = true ∧ va_Nc (xn 2) nm s) := by
        intro z hz
        rcases List.mem_cons.mp hz with rfl | hz
        · exact Or.inr ⟨by decide, "java/lang/IndexOutOfBoundsException", X.hts q262, X.2.2.2.2.2.2.1.2.2.2.2.1 ("java/lang/IllegalStateException", "java/lang/IndexOutOfBoundsException") (by decide +kernel)⟩
        cases hz
      refine vx_catch (own := RL) (name := "java/lang/IllegalStateException") (E := xn 2) hown [⟨0, 6, 7, 26⟩] ⟨0, 6, 11, 20⟩ [⟨0, 6, 15, 55⟩] (by rw [hTab]; rfl) (hpass2) (by decide) (by decide) (X.hts q179) (va_Nw.use (by rfl) (X.nw q186)) hce hcv hcl ?_
      refine lv_astore_n (lv' := [(3, .ref q9), (0, .ref a0), (1, .int p1), (2, .int p2)]) hx hb dL_sheetOf_11 rfl hl (by decide) rfl (fun ls hl => ?_)
      refine lv_bipush (v := (-79 : Int32)) hx hb dL_sheetOf_12 (by decide) ?_
      exact (en_i X h hr hw (Nat.le_of_ble_eq_true rfl) (Nat.le_of_ble_eq_true rfl) dL_sheetOf_14)
    · subst hk9
      have hw := hw.2.2.1 rfl
      have hpass3 : ∀ z ∈ ([⟨0, 6, 7, 26⟩, ⟨0, 6, 11, 20⟩] : List ExceptionTableEntry), covers z 3 = false ∨ (z.catchType ≠ 0 ∧ ∃ nm : String, (Cond.classLink RL z.catchType nm).before args s = true ∧ va_Nc (xn 3) nm s) := by
        intro z hz
        rcases List.mem_cons.mp hz with rfl | hz
        · exact Or.inr ⟨by decide, "java/lang/IndexOutOfBoundsException", X.hts q262, X.2.2.2.2.2.2.1.2.2.2.2.1 ("java/util/NoSuchElementException", "java/lang/IndexOutOfBoundsException") (by decide +kernel)⟩
        rcases List.mem_cons.mp hz with rfl | hz
        · exact Or.inr ⟨by decide, "java/lang/IllegalStateException", X.hts q179, X.2.2.2.2.2.2.1.2.2.2.2.1 ("java/util/NoSuchElementException", "java/lang/IllegalStateException") (by decide +kernel)⟩
        cases hz
      refine vx_catch (own := RL) (name := "java/util/NoSuchElementException") (E := xn 3) hown [⟨0, 6, 7, 26⟩, ⟨0, 6, 11, 20⟩] ⟨0, 6, 15, 55⟩ [] (by rw [hTab]; rfl) (hpass3) (by decide) (by decide) (X.hts q480) (va_Nw.use (by rfl) (X.nw q491)) hce hcv hcl ?_
      refine lv_astore_n (lv' := [(3, .ref q9), (0, .ref a0), (1, .int p1), (2, .int p2)]) hx hb dL_sheetOf_15 rfl hl (by decide) rfl (fun ls hl => ?_)
      refine lv_bipush (v := (-75 : Int32)) hx hb dL_sheetOf_16 (by decide) ?_
      exact (en_i X h hr hw (Nat.le_of_ble_eq_true rfl) (Nat.le_of_ble_eq_true rfl) dL_sheetOf_18)
  · exact (en_i X h hr hw (Nat.le_of_ble_eq_true rfl) (Nat.le_of_ble_eq_true rfl) dL_sheetOf_6)
abbrev rmX4_has : Room := { frames := 1, cells := 0, slots := 0, locals := 21 }
def wpX4_has (S : Mem) (a0 : Nat) (p1 : Int32) (post : Int32 → Mem → Prop) : Prop := isK S a0 4 ∧ (∃ o2, mR S a0 0 = some o2 ∧ (wpX6_at S o2 (p1 / (nI 10000)) (fun x4 S3 => (¬ x4 = p1 → (vz_nar (nI 0) ∧ (post (nI 0) S3))) ∧ (x4 = p1 → (vz_nar (nI 1) ∧ (post (nI 1) S3))))))
set_option maxHeartbeats 4000000 in
set_option maxRecDepth 100000 in
theorem meX4_has (l : Launch) (G : GT) (S : Mem) (a0 : Nat) (p1 : Int32) (post : Int32 → Mem → Prop) (hw : wpX4_has S a0 p1 post) : CN emI l yX4_has (wsU yX4_has cX4_has 2 (some .boolean)) rmX4_has 0 0 G [.ref a0, .int p1] S post := by
  refine cn_open RX4 rfl (by decide +kernel) (Nat.le_of_ble_eq_true rfl) ?_
  intro p e s m args below meth c A X h hr hin ls hl
  have hl : lv_has ls 2 [(0, .ref a0), (1, .int p1)] := hl
  have hx := X.1
  have hb := X.2.1
  have hown := X.2.2.2.1
  unfold wpX4_has at hw
  refine lv_aload_n hx hb dX4_has_0 rfl (lv_at hl 0 rfl) ?_
  obtain ⟨k1, hw⟩ := hw
  obtain ⟨o2, eo2, hw⟩ := hw
  refine r_getR X h k1 0 eo2  (by decide) rfl inX4 (by decide) rfl q91 rfl dX4_has_1 ?_
  refine lv_iload_n hx hb dX4_has_4 rfl (lv_at hl 1 rfl) ?_
  refine lv_sipush (v := (nI 10000)) hx hb dX4_has_5 (by decide) ?_
  refine lv_idiv hx hb dX4_has_8 (by decide) ?_
  refine rc_SN (As := [.ref o2, .int (p1 / (nI 10000))]) (rest := []) X h (meX6_at l G _ _ _ _ hw) gU_X4_15 q564 q14 q312 rfl rfl hdS_X6_at rfl ⟨Nat.le_of_ble_eq_true rfl, Nat.le_of_ble_eq_true rfl⟩ hl.1 rfl (Nat.le_of_ble_eq_true rfl) ⟨Nat.le_of_ble_eq_true rfl, Nat.le_of_ble_eq_true rfl⟩ dX4_has_9 (fun x4 S3 H locs hw h => ?_)
  refine lv_iload_n hx hb dX4_has_12 rfl (lv_at hl 1 rfl) ?_
  refine lv_icmp_ne (tgt := 20) hx hb dX4_has_13 (by decide) (fun c5 => ?_) (fun c5 => ?_)
  · have hw := hw.1 c5
    refine lv_iconst (v := (nI 0)) hx hb dX4_has_20 (by decide) ?_
    obtain ⟨b6, hw⟩ := hw
    exact (en_z X h hr b6 hw (Nat.le_of_ble_eq_true rfl) (Nat.le_of_ble_eq_true rfl) dX4_has_21)
  · have hw := hw.2 c5
    refine lv_iconst (v := (nI 1)) hx hb dX4_has_16 (by decide) ?_
    refine lv_goto (tgt := 21) hx hb dX4_has_17 (by decide) ?_
    obtain ⟨b7, hw⟩ := hw
    exact (en_z X h hr b7 hw (Nat.le_of_ble_eq_true rfl) (Nat.le_of_ble_eq_true rfl) dX4_has_21)
