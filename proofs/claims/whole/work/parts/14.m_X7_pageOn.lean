abbrev rmX7_pageOn : Room := { frames := 0, cells := 0, slots := 0, locals := 0 }
def wpX7_pageOn (S : Mem) (a0 : Nat) (p1 : Int32) (p2 : Int32) (p3 : Int32) (post : Int32 → Mem → Prop) : Prop := isK S a0 7 ∧ (∃ o2, mR S a0 13 = some o2 ∧ (isK S o2 8 ∧ (vp_in p1 (mN S o2) ∧ ((¬ (mI S o2 p1.toNatClampNeg) = (nI 119) → (vp_in p1 (mN S o2) ∧ ((¬ (mI S o2 p1.toNatClampNeg) = (nI 112) → (∃ o8, mR S a0 14 = some o8 ∧ (isK S o8 8 ∧ (vp_in p1 (mN S o8) ∧ (∀ x11 : Int32, x11 = (mI S o8 p1.toNatClampNeg) → ((¬ p3 = 0 → ((¬ p3 = (nI 1) → ((¬ p3 = (nI 2) → (post ((x11 - ((nI 2) * p2)) - (nI 1)) S)) ∧ (p3 = (nI 2) → (post (((nI 2) * p2) + (nI 2)) S)))) ∧ (p3 = (nI 1) → (post (((nI 2) * p2) + (nI 1)) S)))) ∧ (p3 = 0 → (post (x11 - ((nI 2) * p2)) S)))))))) ∧ ((mI S o2 p1.toNatClampNeg) = (nI 112) → ((¬ p3 = 0 → (post (((nI 4) * p2) + p3) S)) ∧ (p3 = 0 → (post (((nI 4) * p2) + (nI 4)) S))))))) ∧ ((mI S o2 p1.toNatClampNeg) = (nI 119) → (post ((((nI 2) * p2) + (nI 1)) + p3) S))))))
set_option maxHeartbeats 4000000 in
set_option maxRecDepth 100000 in
theorem meX7_pageOn (l : Launch) (G : GT) (S : Mem) (a0 : Nat) (p1 : Int32) (p2 : Int32) (p3 : Int32) (post : Int32 → Mem → Prop) (hw : wpX7_pageOn S a0 p1 p2 p3 post) : CN emI l yX7_pageOn (wsU yX7_pageOn cX7_pageOn 5 (some .int)) rmX7_pageOn 0 0 G [.ref a0, .int p1, .int p2, .int p3] S post := by
  refine cn_open RX7 rfl (by decide +kernel) (Nat.le_of_ble_eq_true rfl) ?_
  intro p e s m args below meth c A X h hr hin ls hl
  have hl : lv_has ls 5 [(0, .ref a0), (1, .int p1), (2, .int p2), (3, .int p3)] := hl
  have hx := X.1
  have hb := X.2.1
  have hown := X.2.2.2.1
  unfold wpX7_pageOn at hw
  refine lv_aload_n hx hb dX7_pageOn_0 rfl (lv_at hl 0 rfl) ?_
  obtain ⟨k1, hw⟩ := hw
  obtain ⟨o2, eo2, hw⟩ := hw
  refine r_getR X h k1 13 eo2  (by decide) rfl inX7 (by decide) rfl q861 rfl dX7_pageOn_1 ?_
  refine lv_iload_n hx hb dX7_pageOn_4 rfl (lv_at hl 1 rfl) ?_
  obtain ⟨k3, hw⟩ := hw
  obtain ⟨v4, hw⟩ := hw
  refine r_iald X h k3 v4 dX7_pageOn_5 ?_
  refine lv_bipush (v := (nI 119)) hx hb dX7_pageOn_6 (by decide) ?_
  refine lv_icmp_ne (tgt := 19) hx hb dX7_pageOn_8 (by decide) (fun c5 => ?_) (fun c5 => ?_)
  · have hw := hw.1 c5
    refine lv_aload_n hx hb dX7_pageOn_19 rfl (lv_at hl 0 rfl) ?_
    refine r_getR X h k1 13 eo2  (by decide) rfl inX7 (by decide) rfl q861 rfl dX7_pageOn_20 ?_
    refine lv_iload_n hx hb dX7_pageOn_23 rfl (lv_at hl 1 rfl) ?_
    obtain ⟨v6, hw⟩ := hw
    refine r_iald X h k3 v6 dX7_pageOn_24 ?_
    refine lv_bipush (v := (nI 112)) hx hb dX7_pageOn_25 (by decide) ?_
    refine lv_icmp_ne (tgt := 48) hx hb dX7_pageOn_27 (by decide) (fun c7 => ?_) (fun c7 => ?_)
    · have hw := hw.1 c7
      refine lv_aload_n hx hb dX7_pageOn_48 rfl (lv_at hl 0 rfl) ?_
      obtain ⟨o8, eo8, hw⟩ := hw
      refine r_getR X h k1 14 eo8  (by decide) rfl inX7 (by decide) rfl q862 rfl dX7_pageOn_49 ?_
      refine lv_iload_n hx hb dX7_pageOn_52 rfl (lv_at hl 1 rfl) ?_
      obtain ⟨k9, hw⟩ := hw
      obtain ⟨v10, hw⟩ := hw
      refine r_iald X h k9 v10 dX7_pageOn_53 ?_
      refine lv_topi (fun x11 ex11 => ?_)
      have hw := hw x11 ex11
      refine lv_istore (lv' := [(4, .int x11), (0, .ref a0), (1, .int p1), (2, .int p2), (3, .int p3)]) hx hb dX7_pageOn_54 hl (by decide) rfl (fun ls hl => ?_)
      refine lv_iload_n hx hb dX7_pageOn_56 rfl (lv_at hl 4 rfl) ?_
      refine lv_if_ne (tgt := 69) hx hb dX7_pageOn_57 (by decide) (fun c12 => ?_) (fun c12 => ?_)
      · have hw := hw.1 c12
        refine lv_iload_n hx hb dX7_pageOn_69 rfl (lv_at hl 4 rfl) ?_
        refine lv_iconst (v := (nI 1)) hx hb dX7_pageOn_70 (by decide) ?_
        refine lv_icmp_ne (tgt := 82) hx hb dX7_pageOn_71 (by decide) (fun c13 => ?_) (fun c13 => ?_)
        · have hw := hw.1 c13
          refine lv_iload_n hx hb dX7_pageOn_82 rfl (lv_at hl 4 rfl) ?_
          refine lv_iconst (v := (nI 2)) hx hb dX7_pageOn_83 (by decide) ?_
          refine lv_icmp_ne (tgt := 95) hx hb dX7_pageOn_84 (by decide) (fun c14 => ?_) (fun c14 => ?_)
          · have hw := hw.1 c14
            refine lv_iload hx hb dX7_pageOn_95 (lv_at hl 0 rfl) ?_
            refine lv_iconst (v := (nI 2)) hx hb dX7_pageOn_97 (by decide) ?_
            refine lv_iload_n hx hb dX7_pageOn_98 rfl (lv_at hl 3 rfl) ?_
            refine lv_imul hx hb dX7_pageOn_99 ?_
            refine lv_isub hx hb dX7_pageOn_100 ?_
            refine lv_iconst (v := (nI 1)) hx hb dX7_pageOn_101 (by decide) ?_
            refine lv_isub hx hb dX7_pageOn_102 ?_
            exact (en_i X h hr hw (Nat.le_of_ble_eq_true rfl) (Nat.le_of_ble_eq_true rfl) dX7_pageOn_103)
          · have hw := hw.2 c14
            refine lv_iconst (v := (nI 2)) hx hb dX7_pageOn_87 (by decide) ?_
            refine lv_iload_n hx hb dX7_pageOn_88 rfl (lv_at hl 3 rfl) ?_
            refine lv_imul hx hb dX7_pageOn_89 ?_
            refine lv_iconst (v := (nI 2)) hx hb dX7_pageOn_90 (by decide) ?_
            refine lv_iadd hx hb dX7_pageOn_91 ?_
            refine lv_goto (tgt := 103) hx hb dX7_pageOn_92 (by decide) ?_
            exact (en_i X h hr hw (Nat.le_of_ble_eq_true rfl) (Nat.le_of_ble_eq_true rfl) dX7_pageOn_103)
        · have hw := hw.2 c13
          refine lv_iconst (v := (nI 2)) hx hb dX7_pageOn_74 (by decide) ?_
          refine lv_iload_n hx hb dX7_pageOn_75 rfl (lv_at hl 3 rfl) ?_
          refine lv_imul hx hb dX7_pageOn_76 ?_
          refine lv_iconst (v := (nI 1)) hx hb dX7_pageOn_77 (by decide) ?_
          refine lv_iadd hx hb dX7_pageOn_78 ?_
          refine lv_goto (tgt := 103) hx hb dX7_pageOn_79 (by decide) ?_
          exact (en_i X h hr hw (Nat.le_of_ble_eq_true rfl) (Nat.le_of_ble_eq_true rfl) dX7_pageOn_103)
      · have hw := hw.2 c12
        refine lv_iload hx hb dX7_pageOn_60 (lv_at hl 0 rfl) ?_
        refine lv_iconst (v := (nI 2)) hx hb dX7_pageOn_62 (by decide) ?_
        refine lv_iload_n hx hb dX7_pageOn_63 rfl (lv_at hl 3 rfl) ?_
        refine lv_imul hx hb dX7_pageOn_64 ?_
        refine lv_isub hx hb dX7_pageOn_65 ?_
        refine lv_goto (tgt := 103) hx hb dX7_pageOn_66 (by decide) ?_
        exact (en_i X h hr hw (Nat.le_of_ble_eq_true rfl) (Nat.le_of_ble_eq_true rfl) dX7_pageOn_103)
    · have hw := hw.2 c7
      refine lv_iload_n hx hb dX7_pageOn_30 rfl (lv_at hl 3 rfl) ?_
      refine lv_if_ne (tgt := 42) hx hb dX7_pageOn_31 (by decide) (fun c15 => ?_) (fun c15 => ?_)
      · have hw := hw.1 c15
        refine lv_iconst (v := (nI 4)) hx hb dX7_pageOn_42 (by decide) ?_
        refine lv_iload_n hx hb dX7_pageOn_43 rfl (lv_at hl 2 rfl) ?_
        refine lv_imul hx hb dX7_pageOn_44 ?_
        refine lv_iload_n hx hb dX7_pageOn_45 rfl (lv_at hl 3 rfl) ?_
        refine lv_iadd hx hb dX7_pageOn_46 ?_
        exact (en_i X h hr hw (Nat.le_of_ble_eq_true rfl) (Nat.le_of_ble_eq_true rfl) dX7_pageOn_47)
      · have hw := hw.2 c15
        refine lv_iconst (v := (nI 4)) hx hb dX7_pageOn_34 (by decide) ?_
        refine lv_iload_n hx hb dX7_pageOn_35 rfl (lv_at hl 2 rfl) ?_
        refine lv_imul hx hb dX7_pageOn_36 ?_
        refine lv_iconst (v := (nI 4)) hx hb dX7_pageOn_37 (by decide) ?_
        refine lv_iadd hx hb dX7_pageOn_38 ?_
        refine lv_goto (tgt := 47) hx hb dX7_pageOn_39 (by decide) ?_
        exact (en_i X h hr hw (Nat.le_of_ble_eq_true rfl) (Nat.le_of_ble_eq_true rfl) dX7_pageOn_47)
  · have hw := hw.2 c5
    refine lv_iconst (v := (nI 2)) hx hb dX7_pageOn_11 (by decide) ?_
    refine lv_iload_n hx hb dX7_pageOn_12 rfl (lv_at hl 2 rfl) ?_
    refine lv_imul hx hb dX7_pageOn_13 ?_
    refine lv_iconst (v := (nI 1)) hx hb dX7_pageOn_14 (by decide) ?_
    refine lv_iadd hx hb dX7_pageOn_15 ?_
    refine lv_iload_n hx hb dX7_pageOn_16 rfl (lv_at hl 3 rfl) ?_
    refine lv_iadd hx hb dX7_pageOn_17 ?_
    exact (en_i X h hr hw (Nat.le_of_ble_eq_true rfl) (Nat.le_of_ble_eq_true rfl) dX7_pageOn_18)
abbrev rmX7_contentOn : Room := { frames := 1, cells := 0, slots := 0, locals := 24 }
def wpX7_contentOn (S : Mem) (a0 : Nat) (p1 : Int32) (p2 : Int32) (p3 : Int32) (post : Int32 → Mem → Prop) : Prop := isK S a0 7 ∧ (∃ o2, mR S a0 15 = some o2 ∧ (wpX7_pageOn S a0 p1 p2 p3 (fun x4 S3 => isK S3 o2 8 ∧ (vp_in ((((nI 16) * p1) + x4) - (nI 1)) (mN S3 o2) ∧ (post (mI S3 o2 ((((nI 16) * p1) + x4) - (nI 1)).toNatClampNeg) S3)))))
set_option maxHeartbeats 4000000 in
set_option maxRecDepth 100000 in
theorem meX7_contentOn (l : Launch) (G : GT) (S : Mem) (a0 : Nat) (p1 : Int32) (p2 : Int32) (p3 : Int32) (post : Int32 → Mem → Prop) (hw : wpX7_contentOn S a0 p1 p2 p3 post) : CN emI l yX7_contentOn (wsU yX7_contentOn cX7_contentOn 4 (some .int)) rmX7_contentOn 0 0 G [.ref a0, .int p1, .int p2, .int p3] S post := by
  refine cn_open RX7 rfl (by decide +kernel) (Nat.le_of_ble_eq_true rfl) ?_
  intro p e s m args below meth c A X h hr hin ls hl
  have hl : lv_has ls 4 [(0, .ref a0), (1, .int p1), (2, .int p2), (3, .int p3)] := hl
  have hx := X.1
  have hb := X.2.1
  have hown := X.2.2.2.1
  unfold wpX7_contentOn at hw
  refine lv_aload_n hx hb dX7_contentOn_0 rfl (lv_at hl 0 rfl) ?_
  obtain ⟨k1, hw⟩ := hw
  obtain ⟨o2, eo2, hw⟩ := hw
  refine r_getR X h k1 15 eo2  (by decide) rfl inX7 (by decide) rfl q863 rfl dX7_contentOn_1 ?_
  refine lv_bipush (v := (nI 16)) hx hb dX7_contentOn_4 (by decide) ?_
  refine lv_iload_n hx hb dX7_contentOn_6 rfl (lv_at hl 1 rfl) ?_
  refine lv_imul hx hb dX7_contentOn_7 ?_
  refine lv_aload_n hx hb dX7_contentOn_8 rfl (lv_at hl 0 rfl) ?_
  refine lv_iload_n hx hb dX7_contentOn_9 rfl (lv_at hl 1 rfl) ?_
  refine lv_iload_n hx hb dX7_contentOn_10 rfl (lv_at hl 2 rfl) ?_
  refine lv_iload_n hx hb dX7_contentOn_11 rfl (lv_at hl 3 rfl) ?_
  refine rc_V (As := [.int p1, .int p2, .int p3]) (rest := [.int ((nI 16) * p1), .ref o2]) X h k1 (by decide) rfl (meX7_pageOn l G _ _ _ _ _ _ hw) gV_X7_81 rfl rfl hdV_X7_pageOn rfl ⟨Nat.le_of_ble_eq_true rfl, Nat.le_of_ble_eq_true rfl⟩ hl.1 rfl (Nat.le_of_ble_eq_true rfl) ⟨Nat.le_of_ble_eq_true rfl, Nat.le_of_ble_eq_true rfl⟩ dX7_contentOn_12 (fun x4 S3 H locs hw h => ?_)
  refine lv_iadd hx hb dX7_contentOn_15 ?_
  refine lv_iconst (v := (nI 1)) hx hb dX7_contentOn_16 (by decide) ?_
  refine lv_isub hx hb dX7_contentOn_17 ?_
  obtain ⟨k5, hw⟩ := hw
  obtain ⟨v6, hw⟩ := hw
  refine r_iald X h k5 v6 dX7_contentOn_18 ?_
  exact (en_i X h hr hw (Nat.le_of_ble_eq_true rfl) (Nat.le_of_ble_eq_true rfl) dX7_contentOn_19)
abbrev rmX7_isShown : Room := { frames := 2, cells := 0, slots := 0, locals := 47 }
def wlX7_isShown_3 (a0 : Nat) (p1 : Int32) (p2 : Int32) (p3 : Int32)  (post : Int32 → Mem → Prop)  : Nat → Int32 → Mem → Prop
  | 0 => fun _ _ => False
  | n + 1 => fun w4 S => isK S a0 7 ∧ (wpX7_places S a0 p1 (fun x3 S1 => (x3 ≤ w4 → (vz_nar (nI 0) ∧ (post (nI 0) S1))) ∧ (¬ x3 ≤ w4 → (isK S1 a0 7 ∧ (wpX7_contentOn S1 a0 p1 p2 w4 (fun x8 S6 => (¬ x8 = p3 → (∀ x10 : Int32, x10 = (w4 + (nI 1)) → (wlX7_isShown_3 a0 p1 p2 p3 post n x10 S6))) ∧ (x8 = p3 → (vz_nar (nI 1) ∧ (post (nI 1) S6)))))))))
set_option maxHeartbeats 4000000 in
set_option maxRecDepth 100000 in
theorem llX7_isShown_3 {p : Program} {l : Launch} {e : Env} {s : State} {m : MethodId} {args : Array Value} {below : List Frame} {meth : Method} {c : Code} {G : GT} {A : Nat → Prop} (X : Cx p s m args meth c cX7_isShown 5 RX7 G A) (hr : meth.sig.returnType = (some .boolean)) (a0 : Nat) (p1 : Int32) (p2 : Int32) (p3 : Int32)  (post : Int32 → Mem → Prop)   : ∀ (n : Nat) (w4 : Int32) (S : Mem), wlX7_isShown_3 a0 p1 p2 p3 post n w4 S → ∀ (H : Heap) (locs : List Loc) (ls : Array Slot), Hx G A s.heap H locs S → lv_has ls 5 [(0, .ref a0), (1, .int p1), (2, .int p2), (3, .int p3), (4, .int w4)] → W p l e rmX7_isShown s m args below meth c H locs 0 0 (MQ below (QN emI post G A) args s 0 0 A) (F0 m 3 ls []) := by
  have hx := X.1
  have hb := X.2.1
  have hown := X.2.2.2.1
  intro n
  induction n with
  | zero =>
    intro _ _ hw
    exact hw.elim
  | succ n ih =>
    intro w4 S hw H locs ls h hl
    refine lv_iload hx hb dX7_isShown_3 (lv_at hl 4 rfl) ?_
    refine lv_aload_n hx hb dX7_isShown_5 rfl (lv_at hl 0 rfl) ?_
    refine lv_iload_n hx hb dX7_isShown_6 rfl (lv_at hl 1 rfl) ?_
    obtain ⟨k2, hw⟩ := hw
    refine rc_V (As := [.int p1]) (rest := [.int w4]) X h k2 (by decide) rfl (meX7_places l G _ _ _ _ hw) gV_X7_64 rfl rfl hdV_X7_places rfl ⟨Nat.le_of_ble_eq_true rfl, Nat.le_of_ble_eq_true rfl⟩ hl.1 rfl (Nat.le_of_ble_eq_true rfl) ⟨Nat.le_of_ble_eq_true rfl, Nat.le_of_ble_eq_true rfl⟩ dX7_isShown_7 (fun x3 S1 H locs hw h => ?_)
    refine lv_icmp_ge (tgt := 33) hx hb dX7_isShown_10 (by decide) (fun c4 => ?_) (fun c4 => ?_)
    · have hw := hw.1 c4
      refine lv_iconst (v := (nI 0)) hx hb dX7_isShown_33 (by decide) ?_
      obtain ⟨b5, hw⟩ := hw
      exact (en_z X h hr b5 hw (Nat.le_of_ble_eq_true rfl) (Nat.le_of_ble_eq_true rfl) dX7_isShown_34)
    · have hw := hw.2 c4
      refine lv_aload_n hx hb dX7_isShown_13 rfl (lv_at hl 0 rfl) ?_
      refine lv_iload_n hx hb dX7_isShown_14 rfl (lv_at hl 1 rfl) ?_
      refine lv_iload_n hx hb dX7_isShown_15 rfl (lv_at hl 2 rfl) ?_
      refine lv_iload hx hb dX7_isShown_16 (lv_at hl 4 rfl) ?_
      obtain ⟨k7, hw⟩ := hw
      refine rc_V (As := [.int p1, .int p2, .int w4]) (rest := []) X h k7 (by decide) rfl (meX7_contentOn l G _ _ _ _ _ _ hw) gV_X7_85 rfl rfl hdV_X7_contentOn rfl ⟨Nat.le_of_ble_eq_true rfl, Nat.le_of_ble_eq_true rfl⟩ hl.1 rfl (Nat.le_of_ble_eq_true rfl) ⟨Nat.le_of_ble_eq_true rfl, Nat.le_of_ble_eq_true rfl⟩ dX7_isShown_18 (fun x8 S6 H locs hw h => ?_)
      refine lv_iload_n hx hb dX7_isShown_21 rfl (lv_at hl 3 rfl) ?_
      refine lv_icmp_ne (tgt := 27) hx hb dX7_isShown_22 (by decide) (fun c9 => ?_) (fun c9 => ?_)
      · have hw := hw.1 c9
        obtain ⟨x10, ex10⟩ : ∃ y : Int32, y = (w4 + (nI 1)) := ⟨_, rfl⟩
        have hw := hw x10 ex10
        refine lv_iinc (v := x10) (lv' := [(4, .int x10), (0, .ref a0), (1, .int p1), (2, .int p2), (3, .int p3)]) hx hb dX7_isShown_27 hl (k := 4) rfl (by rw [ex10]; rfl) (by decide) rfl (fun ls hl => ?_)
        refine lv_goto (tgt := 3) hx hb dX7_isShown_30 (by decide) ?_
        exact ih _ _ hw _ _ _ h (lv_sub hl [1, 2, 3, 4, 0] rfl)
      · have hw := hw.2 c9
        refine lv_iconst (v := (nI 1)) hx hb dX7_isShown_25 (by decide) ?_
        obtain ⟨b11, hw⟩ := hw
        exact (en_z X h hr b11 hw (Nat.le_of_ble_eq_true rfl) (Nat.le_of_ble_eq_true rfl) dX7_isShown_26)
def wpX7_isShown (S : Mem) (a0 : Nat) (p1 : Int32) (p2 : Int32) (p3 : Int32) (post : Int32 → Mem → Prop) : Prop := ∃ m, wlX7_isShown_3 a0 p1 p2 p3 post m (nI 0) S
set_option maxHeartbeats 4000000 in
set_option maxRecDepth 100000 in
theorem meX7_isShown (l : Launch) (G : GT) (S : Mem) (a0 : Nat) (p1 : Int32) (p2 : Int32) (p3 : Int32) (post : Int32 → Mem → Prop) (hw : wpX7_isShown S a0 p1 p2 p3 post) : CN emI l yX7_isShown (wsU yX7_isShown cX7_isShown 5 (some .boolean)) rmX7_isShown 0 0 G [.ref a0, .int p1, .int p2, .int p3] S post := by
  refine cn_open RX7 rfl (by decide +kernel) (Nat.le_of_ble_eq_true rfl) ?_
  intro p e s m args below meth c A X h hr hin ls hl
  have hl : lv_has ls 5 [(0, .ref a0), (1, .int p1), (2, .int p2), (3, .int p3)] := hl
  have hx := X.1
  have hb := X.2.1
  have hown := X.2.2.2.1
  unfold wpX7_isShown at hw
  refine lv_iconst (v := (nI 0)) hx hb dX7_isShown_0 (by decide) ?_
  refine lv_istore (lv' := [(4, .int (nI 0)), (0, .ref a0), (1, .int p1), (2, .int p2), (3, .int p3)]) hx hb dX7_isShown_1 hl (by decide) rfl (fun ls hl => ?_)
  obtain ⟨n12, hw⟩ := hw
  exact llX7_isShown_3  X hr _ _ _ _ _ n12 _ _ hw _ _ _ h (lv_sub hl [1, 2, 3, 4, 0] rfl)
abbrev rmX7_voids : Room := { frames := 0, cells := 0, slots := 0, locals := 0 }
def wpX7_voids (S : Mem) (a0 : Nat) (p1 : Int32) (p2 : Int32) (post : Int32 → Mem → Prop) : Prop := isK S a0 7 ∧ (∃ o2, mR S a0 16 = some o2 ∧ (isK S o2 8 ∧ (vp_in (((nI 8) * p1) + p2) (mN S o2) ∧ (∀ x5 : Int32, x5 = (mI S o2 (((nI 8) * p1) + p2).toNatClampNeg) → (vp_in (((nI 8) * p1) + p2) (mN S o2) ∧ (∀ S7 : Mem, S7 = (sI S o2 (((nI 8) * p1) + p2).toNatClampNeg (nI 0)) → (∀ S8 : Mem, S8 = (sJ S7 a0 10 ((mJ S7 a0 10) + x5.toInt64)) → (post x5 S8))))))))
set_option maxHeartbeats 4000000 in
set_option maxRecDepth 100000 in
theorem meX7_voids (l : Launch) (G : GT) (S : Mem) (a0 : Nat) (p1 : Int32) (p2 : Int32) (post : Int32 → Mem → Prop) (hw : wpX7_voids S a0 p1 p2 post) : CN emI l yX7_voids (wsU yX7_voids cX7_voids 4 (some .int)) rmX7_voids 0 0 G [.ref a0, .int p1, .int p2] S post := by
  refine cn_open RX7 rfl (by decide +kernel) (Nat.le_of_ble_eq_true rfl) ?_
  intro p e s m args below meth c A X h hr hin ls hl
  have hl : lv_has ls 4 [(0, .ref a0), (1, .int p1), (2, .int p2)] := hl
  have hx := X.1
  have hb := X.2.1
  have hown := X.2.2.2.1
  unfold wpX7_voids at hw
  refine lv_aload_n hx hb dX7_voids_0 rfl (lv_at hl 0 rfl) ?_
  obtain ⟨k1, hw⟩ := hw
  obtain ⟨o2, eo2, hw⟩ := hw
  refine r_getR X h k1 16 eo2  (by decide) rfl inX7 (by decide) rfl q864 rfl dX7_voids_1 ?_
  refine lv_bipush (v := (nI 8)) hx hb dX7_voids_4 (by decide) ?_
  refine lv_iload_n hx hb dX7_voids_6 rfl (lv_at hl 1 rfl) ?_
  refine lv_imul hx hb dX7_voids_7 ?_
  refine lv_iload_n hx hb dX7_voids_8 rfl (lv_at hl 2 rfl) ?_
  refine lv_iadd hx hb dX7_voids_9 ?_
  obtain ⟨k3, hw⟩ := hw
  obtain ⟨v4, hw⟩ := hw
  refine r_iald X h k3 v4 dX7_voids_10 ?_
  refine lv_topi (fun x5 ex5 => ?_)
  have hw := hw x5 ex5
  refine lv_istore_n (lv' := [(3, .int x5), (0, .ref a0), (1, .int p1), (2, .int p2)]) hx hb dX7_voids_11 rfl hl (by decide) rfl (fun ls hl => ?_)
  refine lv_aload_n hx hb dX7_voids_12 rfl (lv_at hl 1 rfl) ?_
  refine r_getR X h k1 16 eo2  (by decide) rfl inX7 (by decide) rfl q864 rfl dX7_voids_13 ?_
  refine lv_bipush (v := (nI 8)) hx hb dX7_voids_16 (by decide) ?_
  refine lv_iload_n hx hb dX7_voids_18 rfl (lv_at hl 2 rfl) ?_
  refine lv_imul hx hb dX7_voids_19 ?_
  refine lv_iload_n hx hb dX7_voids_20 rfl (lv_at hl 3 rfl) ?_
  refine lv_iadd hx hb dX7_voids_21 ?_
  refine lv_iconst (v := (nI 0)) hx hb dX7_voids_22 (by decide) ?_
  obtain ⟨v6, hw⟩ := hw
  refine r_iast X h k3 v6 dX7_voids_23 (fun H locs h => ?_)
  obtain ⟨S7, eS7⟩ : ∃ z : Mem, z = (sI S o2 (((nI 8) * p1) + p2).toNatClampNeg (nI 0)) := ⟨_, rfl⟩
  rw [← eS7] at h
  have hw := hw S7 eS7
  refine lv_aload_n hx hb dX7_voids_24 rfl (lv_at hl 1 rfl) ?_
  refine lv_dup hx hb dX7_voids_25 rfl ?_
  refine r_getJ X h (kI eS7 k1) 10  (by decide) rfl inX7 (by decide) rfl q858 rfl dX7_voids_26 ?_
  refine lv_iload_n hx hb dX7_voids_29 rfl (lv_at hl 0 rfl) ?_
  refine lv_i2l (v := x5.toInt64) hx hb dX7_voids_30 rfl ?_
  refine lv_ladd hx hb dX7_voids_31 ?_
  refine r_putJ X h (kI eS7 k1) 10 (by decide) rfl inX7 tyX7 tyX7_ok nmX7 (by decide) rfl (Nat.le_of_ble_eq_true rfl) q858 rfl rfl (tyX7_ok 10 (by decide)) rfl rfl dX7_voids_32 (fun H locs h => ?_)
  obtain ⟨S8, eS8⟩ : ∃ z : Mem, z = (sJ S7 a0 10 ((mJ S7 a0 10) + x5.toInt64)) := ⟨_, rfl⟩
  rw [← eS8] at h
  have hw := hw S8 eS8
  refine lv_iload_n hx hb dX7_voids_35 rfl (lv_at hl 0 rfl) ?_
  exact (en_i X h hr hw (Nat.le_of_ble_eq_true rfl) (Nat.le_of_ble_eq_true rfl) dX7_voids_36)
abbrev rmX7_correct : Room := { frames := 3, cells := 0, slots := 0, locals := 71 }
def wlX7_correct_59 (a0 : Nat) (p1 : Int32) (w3 : Int32) (post : Int32 → Mem → Prop) (J48 : Int32 → Int32 → Mem → Prop) : Nat → Int32 → Int32 → Mem → Prop
  | 0 => fun _ _ _ => False
  | n + 1 => fun w2 w4 S => isK S a0 7 ∧ (wpX7_isWhole S a0 w3 (fun x22 S20 => (x22 = 0 → (∀ x24 : Int32, x24 = (w3 + (nI 1)) → (J48 w2 x24 S20))) ∧ (¬ x22 = 0 → (isK S20 a0 7 ∧ (wpX7_count S20 a0 w3 (fun x27 S25 => (x27 ≤ w4 → (∀ x29 : Int32, x29 = (w3 + (nI 1)) → (J48 w2 x29 S25))) ∧ (¬ x27 ≤ w4 → (isK S25 a0 7 ∧ (wpX7_isShown S25 a0 w3 w4 p1 (fun x32 S30 => (x32 = 0 → (∀ x34 : Int32, x34 = (w2 + (nI 0)) → (∀ x35 : Int32, x35 = (w4 + (nI 1)) → (wlX7_correct_59 a0 p1 w3 post J48 n x34 x35 S30)))) ∧ (¬ x32 = 0 → (isK S30 a0 7 ∧ (wpX7_voids S30 a0 w3 w4 (fun x38 S36 => ∀ x39 : Int32, x39 = (w2 + x38) → (∀ x40 : Int32, x40 = (w4 + (nI 1)) → (wlX7_correct_59 a0 p1 w3 post J48 n x39 x40 S36))))))))))))))))
set_option maxHeartbeats 4000000 in
set_option maxRecDepth 100000 in
theorem llX7_correct_59 {p : Program} {l : Launch} {e : Env} {s : State} {m : MethodId} {args : Array Value} {below : List Frame} {meth : Method} {c : Code} {G : GT} {A : Nat → Prop} (X : Cx p s m args meth c cX7_correct 5 RX7 G A) (hr : meth.sig.returnType = (some .int)) (a0 : Nat) (p1 : Int32) (w3 : Int32) (post : Int32 → Mem → Prop) (J48 : Int32 → Int32 → Mem → Prop) (hJ48 : ∀ (w2 : Int32) (w3 : Int32) (S : Mem), J48 w2 w3 S → ∀ (H : Heap) (locs : List Loc) (ls : Array Slot), Hx G A s.heap H locs S → lv_has ls 5 [(0, .ref a0), (1, .int p1), (2, .int w2), (3, .int w3)] → W p l e rmX7_correct s m args below meth c H locs 0 0 (MQ below (QN emI post G A) args s 0 0 A) (F0 m 48 ls [])) : ∀ (n : Nat) (w2 : Int32) (w4 : Int32) (S : Mem), wlX7_correct_59 a0 p1 w3 post J48 n w2 w4 S → ∀ (H : Heap) (locs : List Loc) (ls : Array Slot), Hx G A s.heap H locs S → lv_has ls 5 [(0, .ref a0), (1, .int p1), (2, .int w2), (3, .int w3), (4, .int w4)] → W p l e rmX7_correct s m args below meth c H locs 0 0 (MQ below (QN emI post G A) args s 0 0 A) (F0 m 59 ls []) := by
  have hx := X.1
  have hb := X.2.1
  have hown := X.2.2.2.1
  intro n
  induction n with
  | zero =>
    intro _ _ _ hw
    exact hw.elim
  | succ n ih =>
    intro w2 w4 S hw H locs ls h hl
    refine lv_aload_n hx hb dX7_correct_59 rfl (lv_at hl 0 rfl) ?_
    refine lv_iload_n hx hb dX7_correct_60 rfl (lv_at hl 3 rfl) ?_
    obtain ⟨k21, hw⟩ := hw
    refine rc_V (As := [.int w3]) (rest := []) X h k21 (by decide) rfl (meX7_isWhole l G _ _ _ _ hw) gV_X7_71 rfl rfl hdV_X7_isWhole rfl ⟨Nat.le_of_ble_eq_true rfl, Nat.le_of_ble_eq_true rfl⟩ hl.1 rfl (Nat.le_of_ble_eq_true rfl) ⟨Nat.le_of_ble_eq_true rfl, Nat.le_of_ble_eq_true rfl⟩ dX7_correct_61 (fun x22 S20 H locs hw h => ?_)
    refine lv_if_eq (tgt := 108) hx hb dX7_correct_64 (by decide) (fun c23 => ?_) (fun c23 => ?_)
    · have hw := hw.1 c23
      obtain ⟨x24, ex24⟩ : ∃ y : Int32, y = (w3 + (nI 1)) := ⟨_, rfl⟩
      have hw := hw x24 ex24
      refine lv_iinc (v := x24) (lv' := [(3, .int x24), (0, .ref a0), (1, .int p1), (2, .int w2), (4, .int w4)]) hx hb dX7_correct_108 hl (k := 3) rfl (by rw [ex24]; rfl) (by decide) rfl (fun ls hl => ?_)
      refine lv_goto (tgt := 48) hx hb dX7_correct_111 (by decide) ?_
      exact hJ48 _ _ _ hw _ _ _ h (lv_sub hl [1, 2, 3, 0] rfl)
    · have hw := hw.2 c23
      refine lv_iload hx hb dX7_correct_67 (lv_at hl 4 rfl) ?_
      refine lv_aload_n hx hb dX7_correct_69 rfl (lv_at hl 0 rfl) ?_
      refine lv_iload_n hx hb dX7_correct_70 rfl (lv_at hl 3 rfl) ?_
      obtain ⟨k26, hw⟩ := hw
      refine rc_V (As := [.int w3]) (rest := [.int w4]) X h k26 (by decide) rfl (meX7_count l G _ _ _ _ hw) gV_X7_78 rfl rfl hdV_X7_count rfl ⟨Nat.le_of_ble_eq_true rfl, Nat.le_of_ble_eq_true rfl⟩ hl.1 rfl (Nat.le_of_ble_eq_true rfl) ⟨Nat.le_of_ble_eq_true rfl, Nat.le_of_ble_eq_true rfl⟩ dX7_correct_71 (fun x27 S25 H locs hw h => ?_)
      refine lv_icmp_ge (tgt := 108) hx hb dX7_correct_74 (by decide) (fun c28 => ?_) (fun c28 => ?_)
      · have hw := hw.1 c28
        obtain ⟨x29, ex29⟩ : ∃ y : Int32, y = (w3 + (nI 1)) := ⟨_, rfl⟩
        have hw := hw x29 ex29
        refine lv_iinc (v := x29) (lv' := [(3, .int x29), (0, .ref a0), (1, .int p1), (2, .int w2), (4, .int w4)]) hx hb dX7_correct_108 hl (k := 3) rfl (by rw [ex29]; rfl) (by decide) rfl (fun ls hl => ?_)
        refine lv_goto (tgt := 48) hx hb dX7_correct_111 (by decide) ?_
        exact hJ48 _ _ _ hw _ _ _ h (lv_sub hl [1, 2, 3, 0] rfl)
      · have hw := hw.2 c28
        refine lv_iload_n hx hb dX7_correct_77 rfl (lv_at hl 2 rfl) ?_
        refine lv_aload_n hx hb dX7_correct_78 rfl (lv_at hl 0 rfl) ?_
        refine lv_iload_n hx hb dX7_correct_79 rfl (lv_at hl 3 rfl) ?_
        refine lv_iload hx hb dX7_correct_80 (lv_at hl 4 rfl) ?_
        refine lv_iload_n hx hb dX7_correct_82 rfl (lv_at hl 1 rfl) ?_
        obtain ⟨k31, hw⟩ := hw
        refine rc_V (As := [.int w3, .int w4, .int p1]) (rest := [.int w2]) X h k31 (by decide) rfl (meX7_isShown l G _ _ _ _ _ _ hw) gV_X7_107 rfl rfl hdV_X7_isShown rfl ⟨Nat.le_of_ble_eq_true rfl, Nat.le_of_ble_eq_true rfl⟩ hl.1 rfl (Nat.le_of_ble_eq_true rfl) ⟨Nat.le_of_ble_eq_true rfl, Nat.le_of_ble_eq_true rfl⟩ dX7_correct_83 (fun x32 S30 H locs hw h => ?_)
        refine lv_if_eq (tgt := 99) hx hb dX7_correct_86 (by decide) (fun c33 => ?_) (fun c33 => ?_)
        · have hw := hw.1 c33
          refine lv_iconst (v := (nI 0)) hx hb dX7_correct_99 (by decide) ?_
          refine lv_iadd hx hb dX7_correct_100 ?_
          refine lv_topi (fun x34 ex34 => ?_)
          have hw := hw x34 ex34
          refine lv_istore_n (lv' := [(2, .int x34), (0, .ref a0), (1, .int p1), (3, .int w3), (4, .int w4)]) hx hb dX7_correct_101 rfl hl (by decide) rfl (fun ls hl => ?_)
          obtain ⟨x35, ex35⟩ : ∃ y : Int32, y = (w4 + (nI 1)) := ⟨_, rfl⟩
          have hw := hw x35 ex35
          refine lv_iinc (v := x35) (lv' := [(4, .int x35), (2, .int x34), (0, .ref a0), (1, .int p1), (3, .int w3)]) hx hb dX7_correct_102 hl (k := 4) rfl (by rw [ex35]; rfl) (by decide) rfl (fun ls hl => ?_)
          refine lv_goto (tgt := 59) hx hb dX7_correct_105 (by decide) ?_
          exact ih _ _ _ hw _ _ _ h (lv_sub hl [2, 3, 1, 4, 0] rfl)
        · have hw := hw.2 c33
          refine lv_aload_n hx hb dX7_correct_89 rfl (lv_at hl 0 rfl) ?_
          refine lv_iload_n hx hb dX7_correct_90 rfl (lv_at hl 3 rfl) ?_
          refine lv_iload hx hb dX7_correct_91 (lv_at hl 4 rfl) ?_
          obtain ⟨k37, hw⟩ := hw
          refine rc_V (As := [.int w3, .int w4]) (rest := [.int w2]) X h k37 (by decide) rfl (meX7_voids l G _ _ _ _ _ hw) gV_X7_110 rfl rfl hdV_X7_voids rfl ⟨Nat.le_of_ble_eq_true rfl, Nat.le_of_ble_eq_true rfl⟩ hl.1 rfl (Nat.le_of_ble_eq_true rfl) ⟨Nat.le_of_ble_eq_true rfl, Nat.le_of_ble_eq_true rfl⟩ dX7_correct_93 (fun x38 S36 H locs hw h => ?_)
          refine lv_goto (tgt := 100) hx hb dX7_correct_96 (by decide) ?_
          refine lv_iadd hx hb dX7_correct_100 ?_
          refine lv_topi (fun x39 ex39 => ?_)
          have hw := hw x39 ex39
          refine lv_istore_n (lv' := [(2, .int x39), (0, .ref a0), (1, .int p1), (3, .int w3), (4, .int w4)]) hx hb dX7_correct_101 rfl hl (by decide) rfl (fun ls hl => ?_)
          obtain ⟨x40, ex40⟩ : ∃ y : Int32, y = (w4 + (nI 1)) := ⟨_, rfl⟩
          have hw := hw x40 ex40
          refine lv_iinc (v := x40) (lv' := [(4, .int x40), (2, .int x39), (0, .ref a0), (1, .int p1), (3, .int w3)]) hx hb dX7_correct_102 hl (k := 4) rfl (by rw [ex40]; rfl) (by decide) rfl (fun ls hl => ?_)
          refine lv_goto (tgt := 59) hx hb dX7_correct_105 (by decide) ?_
          exact ih _ _ _ hw _ _ _ h (lv_sub hl [2, 3, 1, 4, 0] rfl)
def wlX7_correct_48 (a0 : Nat) (p1 : Int32)  (post : Int32 → Mem → Prop)  : Nat → Int32 → Int32 → Mem → Prop
  | 0 => fun _ _ _ => False
  | n + 1 => fun w2 w3 S => isK S a0 7 ∧ (((mI S a0 2) ≤ w3 → (post w2 S)) ∧ (¬ (mI S a0 2) ≤ w3 → (∃ m, wlX7_correct_59 a0 p1 w3 post (fun w2 w3 S => wlX7_correct_48 a0 p1 post n w2 w3 S) m w2 (nI 0) S)))
set_option maxHeartbeats 4000000 in
set_option maxRecDepth 100000 in
theorem llX7_correct_48 {p : Program} {l : Launch} {e : Env} {s : State} {m : MethodId} {args : Array Value} {below : List Frame} {meth : Method} {c : Code} {G : GT} {A : Nat → Prop} (X : Cx p s m args meth c cX7_correct 5 RX7 G A) (hr : meth.sig.returnType = (some .int)) (a0 : Nat) (p1 : Int32)  (post : Int32 → Mem → Prop)   : ∀ (n : Nat) (w2 : Int32) (w3 : Int32) (S : Mem), wlX7_correct_48 a0 p1 post n w2 w3 S → ∀ (H : Heap) (locs : List Loc) (ls : Array Slot), Hx G A s.heap H locs S → lv_has ls 5 [(0, .ref a0), (1, .int p1), (2, .int w2), (3, .int w3)] → W p l e rmX7_correct s m args below meth c H locs 0 0 (MQ below (QN emI post G A) args s 0 0 A) (F0 m 48 ls []) := by
  have hx := X.1
  have hb := X.2.1
  have hown := X.2.2.2.1
  intro n
  induction n with
  | zero =>
    intro _ _ _ hw
    exact hw.elim
  | succ n ih =>
    intro w2 w3 S hw H locs ls h hl
    refine lv_iload_n hx hb dX7_correct_48 rfl (lv_at hl 3 rfl) ?_
    refine lv_aload_n hx hb dX7_correct_49 rfl (lv_at hl 0 rfl) ?_
    obtain ⟨k18, hw⟩ := hw
    refine r_getI X h k18 2  (by decide) rfl inX7 (by decide) rfl q850 rfl dX7_correct_50 ?_
    refine lv_icmp_ge (tgt := 114) hx hb dX7_correct_53 (by decide) (fun c19 => ?_) (fun c19 => ?_)
    · have hw := hw.1 c19
      refine lv_iload_n hx hb dX7_correct_114 rfl (lv_at hl 2 rfl) ?_
      exact (en_i X h hr hw (Nat.le_of_ble_eq_true rfl) (Nat.le_of_ble_eq_true rfl) dX7_correct_115)
    · have hw := hw.2 c19
      refine lv_iconst (v := (nI 0)) hx hb dX7_correct_56 (by decide) ?_
      refine lv_istore (lv' := [(4, .int (nI 0)), (0, .ref a0), (1, .int p1), (2, .int w2), (3, .int w3)]) hx hb dX7_correct_57 hl (by decide) rfl (fun ls hl => ?_)
      obtain ⟨n41, hw⟩ := hw
      exact llX7_correct_59  X hr _ _ _ _ _ (fun w2 w3 S hw H locs ls h hl => ih w2 w3 S hw H locs ls h hl) n41 _ _ _ hw _ _ _ h (lv_sub hl [1, 2, 3, 4, 0] rfl)
def wpX7_correct (S : Mem) (a0 : Nat) (p1 : Int32) (post : Int32 → Mem → Prop) : Prop := isK S a0 7 ∧ (wpX7_isContent S a0 p1 (fun x3 S1 => (¬ x3 = 0 → (isK S1 a0 7 ∧ (∃ o6, mR S1 a0 12 = some o6 ∧ (isK S1 o6 8 ∧ (vp_in p1 (mN S1 o6) ∧ ((¬ (mI S1 o6 p1.toNatClampNeg) = (nI 99) → (vp_in p1 (mN S1 o6) ∧ (∀ x11 : Int32, x11 = ((mI S1 o6 p1.toNatClampNeg) + (nI 1)) → (vp_in p1 (mN S1 o6) ∧ (∀ S13 : Mem, S13 = (sI S1 o6 p1.toNatClampNeg x11) → (∃ o14, mR S13 a0 17 = some o14 ∧ (isK S13 o14 9 ∧ (vp_in p1 (mN S13 o14) ∧ (∀ S17 : Mem, S17 = (sI S13 o14 p1.toNatClampNeg (vp_nar .boolean (nI 0))) → (∃ m, wlX7_correct_48 a0 p1 post m (nI 0) (nI 0) S17)))))))))) ∧ ((mI S1 o6 p1.toNatClampNeg) = (nI 99) → (wpX7_fails S1 a0 (nI 2) (fun x44 S43 => post x44 S43))))))))) ∧ (x3 = 0 → (post (nI 0) S1))))
set_option maxHeartbeats 4000000 in
set_option maxRecDepth 100000 in
theorem meX7_correct (l : Launch) (G : GT) (S : Mem) (a0 : Nat) (p1 : Int32) (post : Int32 → Mem → Prop) (hw : wpX7_correct S a0 p1 post) : CN emI l yX7_correct (wsU yX7_correct cX7_correct 5 (some .int)) rmX7_correct 0 0 G [.ref a0, .int p1] S post := by
  refine cn_open RX7 rfl (by decide +kernel) (Nat.le_of_ble_eq_true rfl) ?_
  intro p e s m args below meth c A X h hr hin ls hl
  have hl : lv_has ls 5 [(0, .ref a0), (1, .int p1)] := hl
  have hx := X.1
  have hb := X.2.1
  have hown := X.2.2.2.1
  unfold wpX7_correct at hw
  refine lv_aload_n hx hb dX7_correct_0 rfl (lv_at hl 0 rfl) ?_
  refine lv_iload_n hx hb dX7_correct_1 rfl (lv_at hl 1 rfl) ?_
  obtain ⟨k2, hw⟩ := hw
  refine rc_V (As := [.int p1]) (rest := []) X h k2 (by decide) rfl (meX7_isContent l G _ _ _ _ hw) gV_X7_104 rfl rfl hdV_X7_isContent rfl ⟨Nat.le_of_ble_eq_true rfl, Nat.le_of_ble_eq_true rfl⟩ hl.1 rfl (Nat.le_of_ble_eq_true rfl) ⟨Nat.le_of_ble_eq_true rfl, Nat.le_of_ble_eq_true rfl⟩ dX7_correct_2 (fun x3 S1 H locs hw h => ?_)
  refine lv_if_ne (tgt := 10) hx hb dX7_correct_5 (by decide) (fun c4 => ?_) (fun c4 => ?_)
  · have hw := hw.1 c4
    refine lv_aload_n hx hb dX7_correct_10 rfl (lv_at hl 0 rfl) ?_
    obtain ⟨k5, hw⟩ := hw
    obtain ⟨o6, eo6, hw⟩ := hw
    refine r_getR X h k5 12 eo6  (by decide) rfl inX7 (by decide) rfl q860 rfl dX7_correct_11 ?_
    refine lv_iload_n hx hb dX7_correct_14 rfl (lv_at hl 1 rfl) ?_
    obtain ⟨k7, hw⟩ := hw
    obtain ⟨v8, hw⟩ := hw
    refine r_iald X h k7 v8 dX7_correct_15 ?_
    refine lv_bipush (v := (nI 99)) hx hb dX7_correct_16 (by decide) ?_
    refine lv_icmp_ne (tgt := 27) hx hb dX7_correct_18 (by decide) (fun c9 => ?_) (fun c9 => ?_)
    · have hw := hw.1 c9
      refine lv_aload_n hx hb dX7_correct_27 rfl (lv_at hl 0 rfl) ?_
      refine r_getR X h k5 12 eo6  (by decide) rfl inX7 (by decide) rfl q860 rfl dX7_correct_28 ?_
      refine lv_iload_n hx hb dX7_correct_31 rfl (lv_at hl 1 rfl) ?_
      refine lv_dup2_11 hx hb dX7_correct_32 rfl rfl ?_
      obtain ⟨v10, hw⟩ := hw
      refine r_iald X h k7 v10 dX7_correct_33 ?_
      refine lv_iconst (v := (nI 1)) hx hb dX7_correct_34 (by decide) ?_
      refine lv_iadd hx hb dX7_correct_35 ?_
      refine lv_topi (fun x11 ex11 => ?_)
      have hw := hw x11 ex11
      obtain ⟨v12, hw⟩ := hw
      refine r_iast X h k7 v12 dX7_correct_36 (fun H locs h => ?_)
      obtain ⟨S13, eS13⟩ : ∃ z : Mem, z = (sI S1 o6 p1.toNatClampNeg x11) := ⟨_, rfl⟩
      rw [← eS13] at h
      have hw := hw S13 eS13
      refine lv_aload_n hx hb dX7_correct_37 rfl (lv_at hl 0 rfl) ?_
      obtain ⟨o14, eo14, hw⟩ := hw
      refine r_getR X h (kI eS13 k5) 17 eo14  (by decide) rfl inX7 (by decide) rfl q865 rfl dX7_correct_38 ?_
      refine lv_iload_n hx hb dX7_correct_41 rfl (lv_at hl 1 rfl) ?_
      refine lv_iconst (v := (nI 0)) hx hb dX7_correct_42 (by decide) ?_
      obtain ⟨k15, hw⟩ := hw
      obtain ⟨v16, hw⟩ := hw
      refine r_zast X h k15 v16 dX7_correct_43 (fun H locs h => ?_)
      obtain ⟨S17, eS17⟩ : ∃ z : Mem, z = (sI S13 o14 p1.toNatClampNeg (vp_nar .boolean (nI 0))) := ⟨_, rfl⟩
      rw [← eS17] at h
      have hw := hw S17 eS17
      refine lv_iconst (v := (nI 0)) hx hb dX7_correct_44 (by decide) ?_
      refine lv_istore_n (lv' := [(2, .int (nI 0)), (0, .ref a0), (1, .int p1)]) hx hb dX7_correct_45 rfl hl (by decide) rfl (fun ls hl => ?_)
      refine lv_iconst (v := (nI 0)) hx hb dX7_correct_46 (by decide) ?_
      refine lv_istore_n (lv' := [(3, .int (nI 0)), (2, .int (nI 0)), (0, .ref a0), (1, .int p1)]) hx hb dX7_correct_47 rfl hl (by decide) rfl (fun ls hl => ?_)
      obtain ⟨n42, hw⟩ := hw
      exact llX7_correct_48  X hr _ _ _ n42 _ _ _ hw _ _ _ h (lv_sub hl [2, 3, 1, 0] rfl)
    · have hw := hw.2 c9
      refine lv_aload_n hx hb dX7_correct_21 rfl (lv_at hl 0 rfl) ?_
      refine lv_iconst (v := (nI 2)) hx hb dX7_correct_22 (by decide) ?_
      refine rc_V (As := [.int (nI 2)]) (rest := []) X h k5 (by decide) rfl (meX7_fails l G _ _ _ _ hw) gV_X7_101 rfl rfl hdV_X7_fails rfl ⟨Nat.le_of_ble_eq_true rfl, Nat.le_of_ble_eq_true rfl⟩ hl.1 rfl (Nat.le_of_ble_eq_true rfl) ⟨Nat.le_of_ble_eq_true rfl, Nat.le_of_ble_eq_true rfl⟩ dX7_correct_23 (fun x44 S43 H locs hw h => ?_)
      exact (en_i X h hr hw (Nat.le_of_ble_eq_true rfl) (Nat.le_of_ble_eq_true rfl) dX7_correct_26)
  · have hw := hw.2 c4
    refine lv_iconst (v := (nI 0)) hx hb dX7_correct_8 (by decide) ?_
    exact (en_i X h hr hw (Nat.le_of_ble_eq_true rfl) (Nat.le_of_ble_eq_true rfl) dX7_correct_9)
abbrev rmX6_state : Room := { frames := 7, cells := 1, slots := 6, locals := 111 }
def wpX6_state (S : Mem) (a0 : Nat) (p1 : Int32) (post : Int32 → Mem → Prop) (px : Nat → Mem → Prop) : Prop := isK S a0 6 ∧ (wpX6_requireContent S a0 p1 (fun u3 S1 => isK S1 a0 6 ∧ (∃ o5, mR S1 a0 0 = some o5 ∧ (isK S1 o5 0 ∧ (wpX0_stateOf S1 o5 p1 (fun x8 S6 => post x8 S6))))) px)
set_option maxHeartbeats 4000000 in
set_option maxRecDepth 100000 in
theorem meX6_state (l : Launch) (hl9 : l.stackTraces = false) (G : GT) (S : Mem) (a0 : Nat) (p1 : Int32) (post : Int32 → Mem → Prop) (px : Nat → Mem → Prop) (hw : wpX6_state S a0 p1 post px) : CX emI l yX6_state (wsU yX6_state cX6_state 2 (some .int)) rmX6_state 1 6 G [.ref a0, .int p1] S post px := by
  refine cx_open RX6 rfl (by decide +kernel) (Nat.le_of_ble_eq_true rfl) ?_
  intro p e s m args below meth c A X h hr hno ls hl
  have hl : lv_has ls 2 [(0, .ref a0), (1, .int p1)] := hl
  have hx := X.1
  have hb := X.2.1
  have hown := X.2.2.2.1
  unfold wpX6_state at hw
  refine lv_aload_n hx hb dX6_state_0 rfl (lv_at hl 0 rfl) ?_
  refine lv_iload_n hx hb dX6_state_1 rfl (lv_at hl 1 rfl) ?_
  obtain ⟨k2, hw⟩ := hw
  refine rx_V (As := [.int p1]) (rest := []) X h hno k2 (by decide) rfl (meX6_requireContent l hl9 G _ _ _ _ _ hw) gV_X6_64 rfl rfl hdV_X6_requireContent rfl ⟨Nat.le_of_ble_eq_true rfl, Nat.le_of_ble_eq_true rfl⟩ hl.1 rfl (Nat.le_of_ble_eq_true rfl) ⟨Nat.le_of_ble_eq_true rfl, Nat.le_of_ble_eq_true rfl⟩ ⟨Nat.le_of_ble_eq_true rfl, Nat.le_of_ble_eq_true rfl⟩ dX6_state_2 (fun u3 S1 H locs hw h => ?_)
  refine lv_aload_n hx hb dX6_state_5 rfl (lv_at hl 0 rfl) ?_
  obtain ⟨k4, hw⟩ := hw
  obtain ⟨o5, eo5, hw⟩ := hw
  refine r_getR X h k4 0 eo5  (by decide) rfl inX6 (by decide) rfl q141 rfl dX6_state_6 ?_
  refine lv_iload_n hx hb dX6_state_9 rfl (lv_at hl 1 rfl) ?_
  obtain ⟨k7, hw⟩ := hw
  refine rc_V (As := [.int p1]) (rest := []) X h k7 (by decide) rfl (meX0_stateOf l G _ _ _ _ hw) gV_X6_76 rfl rfl hdV_X0_stateOf rfl ⟨Nat.le_of_ble_eq_true rfl, Nat.le_of_ble_eq_true rfl⟩ hl.1 rfl (Nat.le_of_ble_eq_true rfl) ⟨Nat.le_of_ble_eq_true rfl, Nat.le_of_ble_eq_true rfl⟩ dX6_state_10 (fun x8 S6 H locs hw h => ?_)
  exact vx_ret (en_i X h hr hw (Nat.le_of_ble_eq_true rfl) (Nat.le_of_ble_eq_true rfl) dX6_state_13)
abbrev rmL_state : Room := { frames := 8, cells := 1, slots := 6, locals := 132 }
def wpL_state (S : Mem) (a0 : Nat) (p1 : Int32) (a2 : Nat) (post : Int32 → Mem → Prop) : Prop := isK S a0 6 ∧ (wpX6_state S a0 p1 (fun x3 S1 => isK S1 a2 12 ∧ (vp_in (nI 0) (mN S1 a2) ∧ (∀ S8 : Mem, S8 = (sJ S1 a2 (nI 0).toNatClampNeg x3.toInt64) → (post (nI 0) S8)))) (fun k4 S5 => (k4 = 1 → (post (nI 1) S5)) ∧ (k4 = 1)))
set_option maxHeartbeats 4000000 in
set_option maxRecDepth 100000 in
theorem meL_state (l : Launch) (hl9 : l.stackTraces = false) (G : GT) (S : Mem) (a0 : Nat) (p1 : Int32) (a2 : Nat) (post : Int32 → Mem → Prop) (hw : wpL_state S a0 p1 a2 post) : CN emI l yL_state (wsH yL_state cL_state 4 (some .int) [(0, 9, 12, 19)]) rmL_state 1 6 G [.ref a0, .int p1, .ref a2] S post := by
  refine ch_open RL rfl (by decide +kernel) (Nat.le_of_ble_eq_true rfl) ?_
  intro p e s m args below meth c A X h hr hTab ls hl
  have hl : lv_has ls 4 [(0, .ref a0), (1, .int p1), (2, .ref a2)] := hl
  have hx := X.1
  have hb := X.2.1
  have hown := X.2.2.2.1
  unfold wpL_state at hw
  refine lv_aload_n hx hb dL_state_0 rfl (lv_at hl 2 rfl) ?_
  refine lv_iconst (v := (nI 0)) hx hb dL_state_1 (by decide) ?_
  refine lv_aload_n hx hb dL_state_2 rfl (lv_at hl 0 rfl) ?_
  refine lv_iload_n hx hb dL_state_3 rfl (lv_at hl 1 rfl) ?_
  obtain ⟨k2, hw⟩ := hw
  refine rx_VH (As := [.int p1]) (rest := [.int (nI 0), .ref a2]) X h k2 (by decide) rfl (meX6_state l hl9 G _ _ _ _ _ hw) gV_L_25 rfl rfl hdV_X6_state rfl ⟨Nat.le_of_ble_eq_true rfl, Nat.le_of_ble_eq_true rfl⟩ hl.1 rfl (Nat.le_of_ble_eq_true rfl) ⟨Nat.le_of_ble_eq_true rfl, Nat.le_of_ble_eq_true rfl⟩ dL_state_4 (fun k4 S5 H locs q9 ce hw h hce hcv hcl => ?_) (fun x3 S1 H locs hw h => ?_)
  · rcases hw.2 with hk9
    · subst hk9
      have hw := hw.1 rfl
      refine vx_catch (own := RL) (name := "java/lang/IndexOutOfBoundsException") (E := xn 1) hown [] ⟨0, 9, 12, 19⟩ [] (by rw [hTab]; rfl) (fun z hz => nomatch hz) (by decide) (by decide) (X.hts q277) (va_Nw.use (by rfl) (X.nw q311)) hce hcv hcl ?_
      refine lv_astore_n (lv' := [(3, .ref q9), (0, .ref a0), (1, .int p1), (2, .ref a2)]) hx hb dL_state_12 rfl hl (by decide) rfl (fun ls hl => ?_)
      refine lv_iconst (v := (nI 1)) hx hb dL_state_13 (by decide) ?_
      exact (en_i X h hr hw (Nat.le_of_ble_eq_true rfl) (Nat.le_of_ble_eq_true rfl) dL_state_14)
  · refine lv_i2l (v := x3.toInt64) hx hb dL_state_7 rfl ?_
    obtain ⟨k6, hw⟩ := hw
    obtain ⟨v7, hw⟩ := hw
    refine r_last X h k6 v7 dL_state_8 (fun H locs h => ?_)
    obtain ⟨S8, eS8⟩ : ∃ z : Mem, z = (sJ S1 a2 (nI 0).toNatClampNeg x3.toInt64) := ⟨_, rfl⟩
    rw [← eS8] at h
    have hw := hw S8 eS8
    refine lv_goto (tgt := 15) hx hb dL_state_9 (by decide) ?_
    refine lv_iconst (v := (nI 0)) hx hb dL_state_15 (by decide) ?_
    exact (en_i X h hr hw (Nat.le_of_ble_eq_true rfl) (Nat.le_of_ble_eq_true rfl) dL_state_16)
abbrev rmX7_state : Room := { frames := 2, cells := 0, slots := 0, locals := 43 }
def wpX7_state (S : Mem) (a0 : Nat) (p1 : Int32) (post : Int32 → Mem → Prop) : Prop := isK S a0 7 ∧ (wpX7_isContent S a0 p1 (fun x3 S1 => (x3 = 0 → (post (nI 0) S1)) ∧ (¬ x3 = 0 → (isK S1 a0 7 ∧ (∃ o6, mR S1 a0 12 = some o6 ∧ (isK S1 o6 8 ∧ (vp_in p1 (mN S1 o6) ∧ (post (mI S1 o6 p1.toNatClampNeg) S1))))))))
set_option maxHeartbeats 4000000 in
set_option maxRecDepth 100000 in
theorem meX7_state (l : Launch) (G : GT) (S : Mem) (a0 : Nat) (p1 : Int32) (post : Int32 → Mem → Prop) (hw : wpX7_state S a0 p1 post) : CN emI l yX7_state (wsU yX7_state cX7_state 2 (some .int)) rmX7_state 0 0 G [.ref a0, .int p1] S post := by
  refine cn_open RX7 rfl (by decide +kernel) (Nat.le_of_ble_eq_true rfl) ?_
  intro p e s m args below meth c A X h hr hin ls hl
  have hl : lv_has ls 2 [(0, .ref a0), (1, .int p1)] := hl
  have hx := X.1
  have hb := X.2.1
  have hown := X.2.2.2.1
  unfold wpX7_state at hw
  refine lv_aload_n hx hb dX7_state_0 rfl (lv_at hl 0 rfl) ?_
  refine lv_iload_n hx hb dX7_state_1 rfl (lv_at hl 1 rfl) ?_
  obtain ⟨k2, hw⟩ := hw
  refine rc_V (As := [.int p1]) (rest := []) X h k2 (by decide) rfl (meX7_isContent l G _ _ _ _ hw) gV_X7_104 rfl rfl hdV_X7_isContent rfl ⟨Nat.le_of_ble_eq_true rfl, Nat.le_of_ble_eq_true rfl⟩ hl.1 rfl (Nat.le_of_ble_eq_true rfl) ⟨Nat.le_of_ble_eq_true rfl, Nat.le_of_ble_eq_true rfl⟩ dX7_state_2 (fun x3 S1 H locs hw h => ?_)
  refine lv_if_eq (tgt := 17) hx hb dX7_state_5 (by decide) (fun c4 => ?_) (fun c4 => ?_)
  · have hw := hw.1 c4
    refine lv_iconst (v := (nI 0)) hx hb dX7_state_17 (by decide) ?_
    exact (en_i X h hr hw (Nat.le_of_ble_eq_true rfl) (Nat.le_of_ble_eq_true rfl) dX7_state_18)
  · have hw := hw.2 c4
    refine lv_aload_n hx hb dX7_state_8 rfl (lv_at hl 0 rfl) ?_
    obtain ⟨k5, hw⟩ := hw
    obtain ⟨o6, eo6, hw⟩ := hw
    refine r_getR X h k5 12 eo6  (by decide) rfl inX7 (by decide) rfl q860 rfl dX7_state_9 ?_
    refine lv_iload_n hx hb dX7_state_12 rfl (lv_at hl 1 rfl) ?_
    obtain ⟨k7, hw⟩ := hw
    obtain ⟨v8, hw⟩ := hw
    refine r_iald X h k7 v8 dX7_state_13 ?_
    refine lv_goto (tgt := 18) hx hb dX7_state_14 (by decide) ?_
    exact (en_i X h hr hw (Nat.le_of_ble_eq_true rfl) (Nat.le_of_ble_eq_true rfl) dX7_state_18)
abbrev rmX7_addJob : Room := { frames := 1, cells := 0, slots := 0, locals := 21 }
def wpX7_addJob (S : Mem) (a0 : Nat) (p1 : Int32) (post : Int32 → Mem → Prop) : Prop := (p1 = (nI 115) → (isK S a0 7 ∧ ((¬ (mI S a0 2) = (nI 4) → (∀ S4 : Mem, S4 = (sI S a0 0 (nI 0)) → (∃ o5, mR S4 a0 13 = some o5 ∧ (isK S4 o5 8 ∧ (vp_in (mI S4 a0 2) (mN S4 o5) ∧ (∀ S8 : Mem, S8 = (sI S4 o5 (mI S4 a0 2).toNatClampNeg p1) → (∀ x9 : Int32, x9 = ((mI S8 a0 2) + (nI 1)) → (∀ S10 : Mem, S10 = (sI S8 a0 2 x9) → (post ((mI S10 a0 2) - (nI 1)) S10))))))))) ∧ ((mI S a0 2) = (nI 4) → (wpX7_fails S a0 (nI 2) (fun x12 S11 => post x12 S11)))))) ∧ (¬ p1 = (nI 115) → ((p1 = (nI 112) → (isK S a0 7 ∧ ((¬ (mI S a0 2) = (nI 4) → (∀ S16 : Mem, S16 = (sI S a0 0 (nI 0)) → (∃ o17, mR S16 a0 13 = some o17 ∧ (isK S16 o17 8 ∧ (vp_in (mI S16 a0 2) (mN S16 o17) ∧ (∀ S20 : Mem, S20 = (sI S16 o17 (mI S16 a0 2).toNatClampNeg p1) → (∀ x21 : Int32, x21 = ((mI S20 a0 2) + (nI 1)) → (∀ S22 : Mem, S22 = (sI S20 a0 2 x21) → (post ((mI S22 a0 2) - (nI 1)) S22))))))))) ∧ ((mI S a0 2) = (nI 4) → (wpX7_fails S a0 (nI 2) (fun x24 S23 => post x24 S23)))))) ∧ (¬ p1 = (nI 112) → ((p1 = (nI 119) → (isK S a0 7 ∧ ((¬ (mI S a0 2) = (nI 4) → (∀ S28 : Mem, S28 = (sI S a0 0 (nI 0)) → (∃ o29, mR S28 a0 13 = some o29 ∧ (isK S28 o29 8 ∧ (vp_in (mI S28 a0 2) (mN S28 o29) ∧ (∀ S32 : Mem, S32 = (sI S28 o29 (mI S28 a0 2).toNatClampNeg p1) → (∀ x33 : Int32, x33 = ((mI S32 a0 2) + (nI 1)) → (∀ S34 : Mem, S34 = (sI S32 a0 2 x33) → (post ((mI S34 a0 2) - (nI 1)) S34))))))))) ∧ ((mI S a0 2) = (nI 4) → (wpX7_fails S a0 (nI 2) (fun x36 S35 => post x36 S35)))))) ∧ (¬ p1 = (nI 119) → (isK S a0 7 ∧ (wpX7_fails S a0 (nI 1) (fun x39 S37 => post x39 S37))))))))
set_option maxHeartbeats 4000000 in
set_option maxRecDepth 100000 in
theorem meX7_addJob (l : Launch) (G : GT) (S : Mem) (a0 : Nat) (p1 : Int32) (post : Int32 → Mem → Prop) (hw : wpX7_addJob S a0 p1 post) : CN emI l yX7_addJob (wsU yX7_addJob cX7_addJob 2 (some .int)) rmX7_addJob 0 0 G [.ref a0, .int p1] S post := by
  refine cn_open RX7 rfl (by decide +kernel) (Nat.le_of_ble_eq_true rfl) ?_
  intro p e s m args below meth c A X h hr hin ls hl
  have hl : lv_has ls 2 [(0, .ref a0), (1, .int p1)] := hl
  have hx := X.1
  have hb := X.2.1
  have hown := X.2.2.2.1
  unfold wpX7_addJob at hw
  refine lv_iload_n hx hb dX7_addJob_0 rfl (lv_at hl 1 rfl) ?_
  refine lv_bipush (v := (nI 115)) hx hb dX7_addJob_1 (by decide) ?_
  refine lv_icmp_eq (tgt := 24) hx hb dX7_addJob_3 (by decide) (fun c1 => ?_) (fun c1 => ?_)
  · have hw := hw.1 c1
    refine lv_aload_n hx hb dX7_addJob_24 rfl (lv_at hl 0 rfl) ?_
    obtain ⟨k2, hw⟩ := hw
    refine r_getI X h k2 2  (by decide) rfl inX7 (by decide) rfl q850 rfl dX7_addJob_25 ?_
    refine lv_iconst (v := (nI 4)) hx hb dX7_addJob_28 (by decide) ?_
    refine lv_icmp_ne (tgt := 38) hx hb dX7_addJob_29 (by decide) (fun c3 => ?_) (fun c3 => ?_)
    · have hw := hw.1 c3
      refine lv_aload_n hx hb dX7_addJob_38 rfl (lv_at hl 0 rfl) ?_
      refine lv_iconst (v := (nI 0)) hx hb dX7_addJob_39 (by decide) ?_
      refine r_putI X h k2 0 (by decide) rfl inX7 tyX7 tyX7_ok nmX7 (by decide) rfl (Nat.le_of_ble_eq_true rfl) q848 rfl rfl (tyX7_ok 0 (by decide)) rfl rfl dX7_addJob_40 (fun H locs h => ?_)
      obtain ⟨S4, eS4⟩ : ∃ z : Mem, z = (sI S a0 0 (nI 0)) := ⟨_, rfl⟩
      rw [← eS4] at h
      have hw := hw S4 eS4
      refine lv_aload_n hx hb dX7_addJob_43 rfl (lv_at hl 0 rfl) ?_
      obtain ⟨o5, eo5, hw⟩ := hw
      refine r_getR X h (kI eS4 k2) 13 eo5  (by decide) rfl inX7 (by decide) rfl q861 rfl dX7_addJob_44 ?_
      refine lv_aload_n hx hb dX7_addJob_47 rfl (lv_at hl 0 rfl) ?_
      refine r_getI X h (kI eS4 k2) 2  (by decide) rfl inX7 (by decide) rfl q850 rfl dX7_addJob_48 ?_
      refine lv_iload_n hx hb dX7_addJob_51 rfl (lv_at hl 1 rfl) ?_
      obtain ⟨k6, hw⟩ := hw
      obtain ⟨v7, hw⟩ := hw
      refine r_iast X h k6 v7 dX7_addJob_52 (fun H locs h => ?_)
      obtain ⟨S8, eS8⟩ : ∃ z : Mem, z = (sI S4 o5 (mI S4 a0 2).toNatClampNeg p1) := ⟨_, rfl⟩
      rw [← eS8] at h
      have hw := hw S8 eS8
      refine lv_aload_n hx hb dX7_addJob_53 rfl (lv_at hl 0 rfl) ?_
      refine lv_dup hx hb dX7_addJob_54 rfl ?_
      refine r_getI X h (kI eS8 (kI eS4 k2)) 2  (by decide) rfl inX7 (by decide) rfl q850 rfl dX7_addJob_55 ?_
      refine lv_iconst (v := (nI 1)) hx hb dX7_addJob_58 (by decide) ?_
      refine lv_iadd hx hb dX7_addJob_59 ?_
      refine lv_topi (fun x9 ex9 => ?_)
      have hw := hw x9 ex9
      refine r_putI X h (kI eS8 (kI eS4 k2)) 2 (by decide) rfl inX7 tyX7 tyX7_ok nmX7 (by decide) rfl (Nat.le_of_ble_eq_true rfl) q850 rfl rfl (tyX7_ok 2 (by decide)) rfl rfl dX7_addJob_60 (fun H locs h => ?_)
      obtain ⟨S10, eS10⟩ : ∃ z : Mem, z = (sI S8 a0 2 x9) := ⟨_, rfl⟩
      rw [← eS10] at h
      have hw := hw S10 eS10
      refine lv_aload_n hx hb dX7_addJob_63 rfl (lv_at hl 0 rfl) ?_
      refine r_getI X h (kI eS10 (kI eS8 (kI eS4 k2))) 2  (by decide) rfl inX7 (by decide) rfl q850 rfl dX7_addJob_64 ?_
      refine lv_iconst (v := (nI 1)) hx hb dX7_addJob_67 (by decide) ?_
      refine lv_isub hx hb dX7_addJob_68 ?_
      exact (en_i X h hr hw (Nat.le_of_ble_eq_true rfl) (Nat.le_of_ble_eq_true rfl) dX7_addJob_69)
    · have hw := hw.2 c3
      refine lv_aload_n hx hb dX7_addJob_32 rfl (lv_at hl 0 rfl) ?_
      refine lv_iconst (v := (nI 2)) hx hb dX7_addJob_33 (by decide) ?_
      refine rc_V (As := [.int (nI 2)]) (rest := []) X h k2 (by decide) rfl (meX7_fails l G _ _ _ _ hw) gV_X7_101 rfl rfl hdV_X7_fails rfl ⟨Nat.le_of_ble_eq_true rfl, Nat.le_of_ble_eq_true rfl⟩ hl.1 rfl (Nat.le_of_ble_eq_true rfl) ⟨Nat.le_of_ble_eq_true rfl, Nat.le_of_ble_eq_true rfl⟩ dX7_addJob_34 (fun x12 S11 H locs hw h => ?_)
      exact (en_i X h hr hw (Nat.le_of_ble_eq_true rfl) (Nat.le_of_ble_eq_true rfl) dX7_addJob_37)
  · have hw := hw.2 c1
    refine lv_iload_n hx hb dX7_addJob_6 rfl (lv_at hl 1 rfl) ?_
    refine lv_bipush (v := (nI 112)) hx hb dX7_addJob_7 (by decide) ?_
    refine lv_icmp_eq (tgt := 24) hx hb dX7_addJob_9 (by decide) (fun c13 => ?_) (fun c13 => ?_)
    · have hw := hw.1 c13
      refine lv_aload_n hx hb dX7_addJob_24 rfl (lv_at hl 0 rfl) ?_
      obtain ⟨k14, hw⟩ := hw
      refine r_getI X h k14 2  (by decide) rfl inX7 (by decide) rfl q850 rfl dX7_addJob_25 ?_
      refine lv_iconst (v := (nI 4)) hx hb dX7_addJob_28 (by decide) ?_
      refine lv_icmp_ne (tgt := 38) hx hb dX7_addJob_29 (by decide) (fun c15 => ?_) (fun c15 => ?_)
      · have hw := hw.1 c15
        refine lv_aload_n hx hb dX7_addJob_38 rfl (lv_at hl 0 rfl) ?_
        refine lv_iconst (v := (nI 0)) hx hb dX7_addJob_39 (by decide) ?_
        refine r_putI X h k14 0 (by decide) rfl inX7 tyX7 tyX7_ok nmX7 (by decide) rfl (Nat.le_of_ble_eq_true rfl) q848 rfl rfl (tyX7_ok 0 (by decide)) rfl rfl dX7_addJob_40 (fun H locs h => ?_)
        obtain ⟨S16, eS16⟩ : ∃ z : Mem, z = (sI S a0 0 (nI 0)) := ⟨_, rfl⟩
        rw [← eS16] at h
        have hw := hw S16 eS16
        refine lv_aload_n hx hb dX7_addJob_43 rfl (lv_at hl 0 rfl) ?_
        obtain ⟨o17, eo17, hw⟩ := hw
        refine r_getR X h (kI eS16 k14) 13 eo17  (by decide) rfl inX7 (by decide) rfl q861 rfl dX7_addJob_44 ?_
        refine lv_aload_n hx hb dX7_addJob_47 rfl (lv_at hl 0 rfl) ?_
        refine r_getI X h (kI eS16 k14) 2  (by decide) rfl inX7 (by decide) rfl q850 rfl dX7_addJob_48 ?_
        refine lv_iload_n hx hb dX7_addJob_51 rfl (lv_at hl 1 rfl) ?_
        obtain ⟨k18, hw⟩ := hw
        obtain ⟨v19, hw⟩ := hw
        refine r_iast X h k18 v19 dX7_addJob_52 (fun H locs h => ?_)
        obtain ⟨S20, eS20⟩ : ∃ z : Mem, z = (sI S16 o17 (mI S16 a0 2).toNatClampNeg p1) := ⟨_, rfl⟩
        rw [← eS20] at h
        have hw := hw S20 eS20
        refine lv_aload_n hx hb dX7_addJob_53 rfl (lv_at hl 0 rfl) ?_
        refine lv_dup hx hb dX7_addJob_54 rfl ?_
        refine r_getI X h (kI eS20 (kI eS16 k14)) 2  (by decide) rfl inX7 (by decide) rfl q850 rfl dX7_addJob_55 ?_
        refine lv_iconst (v := (nI 1)) hx hb dX7_addJob_58 (by decide) ?_
        refine lv_iadd hx hb dX7_addJob_59 ?_
        refine lv_topi (fun x21 ex21 => ?_)
        have hw := hw x21 ex21
        refine r_putI X h (kI eS20 (kI eS16 k14)) 2 (by decide) rfl inX7 tyX7 tyX7_ok nmX7 (by decide) rfl (Nat.le_of_ble_eq_true rfl) q850 rfl rfl (tyX7_ok 2 (by decide)) rfl rfl dX7_addJob_60 (fun H locs h => ?_)
        obtain ⟨S22, eS22⟩ : ∃ z : Mem, z = (sI S20 a0 2 x21) := ⟨_, rfl⟩
        rw [← eS22] at h
        have hw := hw S22 eS22
        refine lv_aload_n hx hb dX7_addJob_63 rfl (lv_at hl 0 rfl) ?_
        refine r_getI X h (kI eS22 (kI eS20 (kI eS16 k14))) 2  (by decide) rfl inX7 (by decide) rfl q850 rfl dX7_addJob_64 ?_
        refine lv_iconst (v := (nI 1)) hx hb dX7_addJob_67 (by decide) ?_
        refine lv_isub hx hb dX7_addJob_68 ?_
        exact (en_i X h hr hw (Nat.le_of_ble_eq_true rfl) (Nat.le_of_ble_eq_true rfl) dX7_addJob_69)
      · have hw := hw.2 c15
        refine lv_aload_n hx hb dX7_addJob_32 rfl (lv_at hl 0 rfl) ?_
        refine lv_iconst (v := (nI 2)) hx hb dX7_addJob_33 (by decide) ?_
        refine rc_V (As := [.int (nI 2)]) (rest := []) X h k14 (by decide) rfl (meX7_fails l G _ _ _ _ hw) gV_X7_101 rfl rfl hdV_X7_fails rfl ⟨Nat.le_of_ble_eq_true rfl, Nat.le_of_ble_eq_true rfl⟩ hl.1 rfl (Nat.le_of_ble_eq_true rfl) ⟨Nat.le_of_ble_eq_true rfl, Nat.le_of_ble_eq_true rfl⟩ dX7_addJob_34 (fun x24 S23 H locs hw h => ?_)
        exact (en_i X h hr hw (Nat.le_of_ble_eq_true rfl) (Nat.le_of_ble_eq_true rfl) dX7_addJob_37)
    · have hw := hw.2 c13
      refine lv_iload_n hx hb dX7_addJob_12 rfl (lv_at hl 1 rfl) ?_
      refine lv_bipush (v := (nI 119)) hx hb dX7_addJob_13 (by decide) ?_
      refine lv_icmp_eq (tgt := 24) hx hb dX7_addJob_15 (by decide) (fun c25 => ?_) (fun c25 => ?_)
      · have hw := hw.1 c25
        refine lv_aload_n hx hb dX7_addJob_24 rfl (lv_at hl 0 rfl) ?_
        obtain ⟨k26, hw⟩ := hw
        refine r_getI X h k26 2  (by decide) rfl inX7 (by decide) rfl q850 rfl dX7_addJob_25 ?_
        refine lv_iconst (v := (nI 4)) hx hb dX7_addJob_28 (by decide) ?_
        refine lv_icmp_ne (tgt := 38) hx hb dX7_addJob_29 (by decide) (fun c27 => ?_) (fun c27 => ?_)
        · have hw := hw.1 c27
          refine lv_aload_n hx hb dX7_addJob_38 rfl (lv_at hl 0 rfl) ?_
          refine lv_iconst (v := (nI 0)) hx hb dX7_addJob_39 (by decide) ?_
          refine r_putI X h k26 0 (by decide) rfl inX7 tyX7 tyX7_ok nmX7 (by decide) rfl (Nat.le_of_ble_eq_true rfl) q848 rfl rfl (tyX7_ok 0 (by decide)) rfl rfl dX7_addJob_40 (fun H locs h => ?_)
          obtain ⟨S28, eS28⟩ : ∃ z : Mem, z = (sI S a0 0 (nI 0)) := ⟨_, rfl⟩
          rw [← eS28] at h
          have hw := hw S28 eS28
          refine lv_aload_n hx hb dX7_addJob_43 rfl (lv_at hl 0 rfl) ?_
          obtain ⟨o29, eo29, hw⟩ := hw
          refine r_getR X h (kI eS28 k26) 13 eo29  (by decide) rfl inX7 (by decide) rfl q861 rfl dX7_addJob_44 ?_
          refine lv_aload_n hx hb dX7_addJob_47 rfl (lv_at hl 0 rfl) ?_
          refine r_getI X h (kI eS28 k26) 2  (by decide) rfl inX7 (by decide) rfl q850 rfl dX7_addJob_48 ?_
          refine lv_iload_n hx hb dX7_addJob_51 rfl (lv_at hl 1 rfl) ?_
          obtain ⟨k30, hw⟩ := hw
          obtain ⟨v31, hw⟩ := hw
          refine r_iast X h k30 v31 dX7_addJob_52 (fun H locs h => ?_)
          obtain ⟨S32, eS32⟩ : ∃ z : Mem, z = (sI S28 o29 (mI S28 a0 2).toNatClampNeg p1) := ⟨_, rfl⟩
          rw [← eS32] at h
          have hw := hw S32 eS32
          refine lv_aload_n hx hb dX7_addJob_53 rfl (lv_at hl 0 rfl) ?_
          refine lv_dup hx hb dX7_addJob_54 rfl ?_
          refine r_getI X h (kI eS32 (kI eS28 k26)) 2  (by decide) rfl inX7 (by decide) rfl q850 rfl dX7_addJob_55 ?_
          refine lv_iconst (v := (nI 1)) hx hb dX7_addJob_58 (by decide) ?_
          refine lv_iadd hx hb dX7_addJob_59 ?_
          refine lv_topi (fun x33 ex33 => ?_)
          have hw := hw x33 ex33
          refine r_putI X h (kI eS32 (kI eS28 k26)) 2 (by decide) rfl inX7 tyX7 tyX7_ok nmX7 (by decide) rfl (Nat.le_of_ble_eq_true rfl) q850 rfl rfl (tyX7_ok 2 (by decide)) rfl rfl dX7_addJob_60 (fun H locs h => ?_)
          obtain ⟨S34, eS34⟩ : ∃ z : Mem, z = (sI S32 a0 2 x33) := ⟨_, rfl⟩
          rw [← eS34] at h
          have hw := hw S34 eS34
          refine lv_aload_n hx hb dX7_addJob_63 rfl (lv_at hl 0 rfl) ?_
          refine r_getI X h (kI eS34 (kI eS32 (kI eS28 k26))) 2  (by decide) rfl inX7 (by decide) rfl q850 rfl dX7_addJob_64 ?_
          refine lv_iconst (v := (nI 1)) hx hb dX7_addJob_67 (by decide) ?_
          refine lv_isub hx hb dX7_addJob_68 ?_
          exact (en_i X h hr hw (Nat.le_of_ble_eq_true rfl) (Nat.le_of_ble_eq_true rfl) dX7_addJob_69)
        · have hw := hw.2 c27
          refine lv_aload_n hx hb dX7_addJob_32 rfl (lv_at hl 0 rfl) ?_
          refine lv_iconst (v := (nI 2)) hx hb dX7_addJob_33 (by decide) ?_
          refine rc_V (As := [.int (nI 2)]) (rest := []) X h k26 (by decide) rfl (meX7_fails l G _ _ _ _ hw) gV_X7_101 rfl rfl hdV_X7_fails rfl ⟨Nat.le_of_ble_eq_true rfl, Nat.le_of_ble_eq_true rfl⟩ hl.1 rfl (Nat.le_of_ble_eq_true rfl) ⟨Nat.le_of_ble_eq_true rfl, Nat.le_of_ble_eq_true rfl⟩ dX7_addJob_34 (fun x36 S35 H locs hw h => ?_)
          exact (en_i X h hr hw (Nat.le_of_ble_eq_true rfl) (Nat.le_of_ble_eq_true rfl) dX7_addJob_37)
      · have hw := hw.2 c25
        refine lv_aload_n hx hb dX7_addJob_18 rfl (lv_at hl 0 rfl) ?_
        refine lv_iconst (v := (nI 1)) hx hb dX7_addJob_19 (by decide) ?_
        obtain ⟨k38, hw⟩ := hw
        refine rc_V (As := [.int (nI 1)]) (rest := []) X h k38 (by decide) rfl (meX7_fails l G _ _ _ _ hw) gV_X7_101 rfl rfl hdV_X7_fails rfl ⟨Nat.le_of_ble_eq_true rfl, Nat.le_of_ble_eq_true rfl⟩ hl.1 rfl (Nat.le_of_ble_eq_true rfl) ⟨Nat.le_of_ble_eq_true rfl, Nat.le_of_ble_eq_true rfl⟩ dX7_addJob_20 (fun x39 S37 H locs hw h => ?_)
        exact (en_i X h hr hw (Nat.le_of_ble_eq_true rfl) (Nat.le_of_ble_eq_true rfl) dX7_addJob_23)
abbrev rmX7_addPage : Room := { frames := 1, cells := 0, slots := 0, locals := 23 }
def wlX7_addPage_58 (a0 : Nat) (p1 : Int32) (p2 : Int32)  (post : Int32 → Mem → Prop)  : Nat → Int32 → Mem → Prop
  | 0 => fun _ _ => False
  | n + 1 => fun w3 S => ((nI 8) ≤ w3 → (isK S a0 7 ∧ (∃ o20, mR S a0 15 = some o20 ∧ (∃ o21, mR S a0 14 = some o21 ∧ (isK S o21 8 ∧ (vp_in p1 (mN S o21) ∧ (isK S o20 8 ∧ (vp_in (((nI 16) * p1) + (mI S o21 p1.toNatClampNeg)) (mN S o20) ∧ (∀ S26 : Mem, S26 = (sI S o20 (((nI 16) * p1) + (mI S o21 p1.toNatClampNeg)).toNatClampNeg p2) → (∃ o27, mR S26 a0 14 = some o27 ∧ (isK S26 o27 8 ∧ (vp_in p1 (mN S26 o27) ∧ (∀ x30 : Int32, x30 = ((mI S26 o27 p1.toNatClampNeg) + (nI 1)) → (vp_in p1 (mN S26 o27) ∧ (∀ S32 : Mem, S32 = (sI S26 o27 p1.toNatClampNeg x30) → (∃ o33, mR S32 a0 14 = some o33 ∧ (isK S32 o33 8 ∧ (vp_in p1 (mN S32 o33) ∧ (post (mI S32 o33 p1.toNatClampNeg) S32))))))))))))))))))) ∧ (¬ (nI 8) ≤ w3 → (isK S a0 7 ∧ (wpX7_voids S a0 p1 w3 (fun x38 S36 => ∀ x39 : Int32, x39 = (w3 + (nI 1)) → (wlX7_addPage_58 a0 p1 p2 post n x39 S36)))))
set_option maxHeartbeats 4000000 in
set_option maxRecDepth 100000 in
theorem llX7_addPage_58 {p : Program} {l : Launch} {e : Env} {s : State} {m : MethodId} {args : Array Value} {below : List Frame} {meth : Method} {c : Code} {G : GT} {A : Nat → Prop} (X : Cx p s m args meth c cX7_addPage 4 RX7 G A) (hr : meth.sig.returnType = (some .int)) (a0 : Nat) (p1 : Int32) (p2 : Int32)  (post : Int32 → Mem → Prop)   : ∀ (n : Nat) (w3 : Int32) (S : Mem), wlX7_addPage_58 a0 p1 p2 post n w3 S → ∀ (H : Heap) (locs : List Loc) (ls : Array Slot), Hx G A s.heap H locs S → lv_has ls 4 [(0, .ref a0), (1, .int p1), (2, .int p2), (3, .int w3)] → W p l e rmX7_addPage s m args below meth c H locs 0 0 (MQ below (QN emI post G A) args s 0 0 A) (F0 m 58 ls []) := by
  have hx := X.1
  have hb := X.2.1
  have hown := X.2.2.2.1
  intro n
  induction n with
  | zero =>
    intro _ _ hw
    exact hw.elim
  | succ n ih =>
    intro w3 S hw H locs ls h hl
    refine lv_iload_n hx hb dX7_addPage_58 rfl (lv_at hl 3 rfl) ?_
    refine lv_bipush (v := (nI 8)) hx hb dX7_addPage_59 (by decide) ?_
    refine lv_icmp_ge (tgt := 77) hx hb dX7_addPage_61 (by decide) (fun c18 => ?_) (fun c18 => ?_)
    · have hw := hw.1 c18
      refine lv_aload_n hx hb dX7_addPage_77 rfl (lv_at hl 0 rfl) ?_
      obtain ⟨k19, hw⟩ := hw
      obtain ⟨o20, eo20, hw⟩ := hw
      refine r_getR X h k19 15 eo20  (by decide) rfl inX7 (by decide) rfl q863 rfl dX7_addPage_78 ?_
      refine lv_bipush (v := (nI 16)) hx hb dX7_addPage_81 (by decide) ?_
      refine lv_iload_n hx hb dX7_addPage_83 rfl (lv_at hl 1 rfl) ?_
      refine lv_imul hx hb dX7_addPage_84 ?_
      refine lv_aload_n hx hb dX7_addPage_85 rfl (lv_at hl 0 rfl) ?_
      obtain ⟨o21, eo21, hw⟩ := hw
      refine r_getR X h k19 14 eo21  (by decide) rfl inX7 (by decide) rfl q862 rfl dX7_addPage_86 ?_
      refine lv_iload_n hx hb dX7_addPage_89 rfl (lv_at hl 1 rfl) ?_
      obtain ⟨k22, hw⟩ := hw
      obtain ⟨v23, hw⟩ := hw
      refine r_iald X h k22 v23 dX7_addPage_90 ?_
      refine lv_iadd hx hb dX7_addPage_91 ?_
      refine lv_iload_n hx hb dX7_addPage_92 rfl (lv_at hl 2 rfl) ?_
      obtain ⟨k24, hw⟩ := hw
      obtain ⟨v25, hw⟩ := hw
      refine r_iast X h k24 v25 dX7_addPage_93 (fun H locs h => ?_)
      obtain ⟨S26, eS26⟩ : ∃ z : Mem, z = (sI S o20 (((nI 16) * p1) + (mI S o21 p1.toNatClampNeg)).toNatClampNeg p2) := ⟨_, rfl⟩
      rw [← eS26] at h
      have hw := hw S26 eS26
      refine lv_aload_n hx hb dX7_addPage_94 rfl (lv_at hl 0 rfl) ?_
      obtain ⟨o27, eo27, hw⟩ := hw
      refine r_getR X h (kI eS26 k19) 14 eo27  (by decide) rfl inX7 (by decide) rfl q862 rfl dX7_addPage_95 ?_
      refine lv_iload_n hx hb dX7_addPage_98 rfl (lv_at hl 1 rfl) ?_
      refine lv_dup2_11 hx hb dX7_addPage_99 rfl rfl ?_
      obtain ⟨k28, hw⟩ := hw
      obtain ⟨v29, hw⟩ := hw
      refine r_iald X h k28 v29 dX7_addPage_100 ?_
      refine lv_iconst (v := (nI 1)) hx hb dX7_addPage_101 (by decide) ?_
      refine lv_iadd hx hb dX7_addPage_102 ?_
      refine lv_topi (fun x30 ex30 => ?_)
      have hw := hw x30 ex30
      obtain ⟨v31, hw⟩ := hw
      refine r_iast X h k28 v31 dX7_addPage_103 (fun H locs h => ?_)
      obtain ⟨S32, eS32⟩ : ∃ z : Mem, z = (sI S26 o27 p1.toNatClampNeg x30) := ⟨_, rfl⟩
      rw [← eS32] at h
      have hw := hw S32 eS32
      refine lv_aload_n hx hb dX7_addPage_104 rfl (lv_at hl 0 rfl) ?_
      obtain ⟨o33, eo33, hw⟩ := hw
      refine r_getR X h (kI eS32 (kI eS26 k19)) 14 eo33  (by decide) rfl inX7 (by decide) rfl q862 rfl dX7_addPage_105 ?_
      refine lv_iload_n hx hb dX7_addPage_108 rfl (lv_at hl 1 rfl) ?_
      obtain ⟨k34, hw⟩ := hw
      obtain ⟨v35, hw⟩ := hw
      refine r_iald X h k34 v35 dX7_addPage_109 ?_
      exact (en_i X h hr hw (Nat.le_of_ble_eq_true rfl) (Nat.le_of_ble_eq_true rfl) dX7_addPage_110)
    · have hw := hw.2 c18
      refine lv_aload_n hx hb dX7_addPage_64 rfl (lv_at hl 0 rfl) ?_
      refine lv_iload_n hx hb dX7_addPage_65 rfl (lv_at hl 1 rfl) ?_
      refine lv_iload_n hx hb dX7_addPage_66 rfl (lv_at hl 3 rfl) ?_
      obtain ⟨k37, hw⟩ := hw
      refine rc_V (As := [.int p1, .int w3]) (rest := []) X h k37 (by decide) rfl (meX7_voids l G _ _ _ _ _ hw) gV_X7_110 rfl rfl hdV_X7_voids rfl ⟨Nat.le_of_ble_eq_true rfl, Nat.le_of_ble_eq_true rfl⟩ hl.1 rfl (Nat.le_of_ble_eq_true rfl) ⟨Nat.le_of_ble_eq_true rfl, Nat.le_of_ble_eq_true rfl⟩ dX7_addPage_67 (fun x38 S36 H locs hw h => ?_)
      refine lv_pop hx hb dX7_addPage_70 rfl ?_
      obtain ⟨x39, ex39⟩ : ∃ y : Int32, y = (w3 + (nI 1)) := ⟨_, rfl⟩
      have hw := hw x39 ex39
      refine lv_iinc (v := x39) (lv' := [(3, .int x39), (0, .ref a0), (1, .int p1), (2, .int p2)]) hx hb dX7_addPage_71 hl (k := 3) rfl (by rw [ex39]; rfl) (by decide) rfl (fun ls hl => ?_)
      refine lv_goto (tgt := 58) hx hb dX7_addPage_74 (by decide) ?_
      exact ih _ _ hw _ _ _ h (lv_sub hl [1, 2, 3, 0] rfl)
def wpX7_addPage (S : Mem) (a0 : Nat) (p1 : Int32) (p2 : Int32) (post : Int32 → Mem → Prop) : Prop := isK S a0 7 ∧ (wpX7_in S p1 (nI 0) ((mI S a0 2) - (nI 1)) (fun x3 S2 => (x3 = 0 → (isK S2 a0 7 ∧ (wpX7_fails S2 a0 (nI 1) (fun x7 S5 => post x7 S5)))) ∧ (¬ x3 = 0 → (isK S2 a0 7 ∧ (wpX7_in S2 p2 (nI 0) ((mI S2 a0 1) - (nI 1)) (fun x10 S9 => (¬ x10 = 0 → (isK S9 a0 7 ∧ (∃ o13, mR S9 a0 14 = some o13 ∧ (isK S9 o13 8 ∧ (vp_in p1 (mN S9 o13) ∧ ((¬ (mI S9 o13 p1.toNatClampNeg) = (nI 16) → (∀ S17 : Mem, S17 = (sI S9 a0 0 (nI 0)) → (∃ m, wlX7_addPage_58 a0 p1 p2 post m (nI 0) S17))) ∧ ((mI S9 o13 p1.toNatClampNeg) = (nI 16) → (wpX7_fails S9 a0 (nI 2) (fun x42 S41 => post x42 S41))))))))) ∧ (x10 = 0 → (isK S9 a0 7 ∧ (wpX7_fails S9 a0 (nI 1) (fun x45 S43 => post x45 S43))))))))))
set_option maxHeartbeats 4000000 in
set_option maxRecDepth 100000 in
theorem meX7_addPage (l : Launch) (G : GT) (S : Mem) (a0 : Nat) (p1 : Int32) (p2 : Int32) (post : Int32 → Mem → Prop) (hw : wpX7_addPage S a0 p1 p2 post) : CN emI l yX7_addPage (wsU yX7_addPage cX7_addPage 4 (some .int)) rmX7_addPage 0 0 G [.ref a0, .int p1, .int p2] S post := by
  refine cn_open RX7 rfl (by decide +kernel) (Nat.le_of_ble_eq_true rfl) ?_
  intro p e s m args below meth c A X h hr hin ls hl
  have hl : lv_has ls 4 [(0, .ref a0), (1, .int p1), (2, .int p2)] := hl
  have hx := X.1
  have hb := X.2.1
  have hown := X.2.2.2.1
  unfold wpX7_addPage at hw
  refine lv_iload_n hx hb dX7_addPage_0 rfl (lv_at hl 1 rfl) ?_
  refine lv_iconst (v := (nI 0)) hx hb dX7_addPage_1 (by decide) ?_
  refine lv_aload_n hx hb dX7_addPage_2 rfl (lv_at hl 0 rfl) ?_
  obtain ⟨k1, hw⟩ := hw
  refine r_getI X h k1 2  (by decide) rfl inX7 (by decide) rfl q850 rfl dX7_addPage_3 ?_
  refine lv_iconst (v := (nI 1)) hx hb dX7_addPage_6 (by decide) ?_
  refine lv_isub hx hb dX7_addPage_7 ?_
  refine rc_S (As := [.int p1, .int (nI 0), .int ((mI S a0 2) - (nI 1))]) (rest := []) X h (meX7_in l G _ _ _ _ _ hw) gS_X7_60 rfl rfl hdS_X7_in rfl ⟨Nat.le_of_ble_eq_true rfl, Nat.le_of_ble_eq_true rfl⟩ hl.1 rfl (Nat.le_of_ble_eq_true rfl) ⟨Nat.le_of_ble_eq_true rfl, Nat.le_of_ble_eq_true rfl⟩ dX7_addPage_8 (fun x3 S2 H locs hw h => ?_)
  refine lv_if_eq (tgt := 28) hx hb dX7_addPage_11 (by decide) (fun c4 => ?_) (fun c4 => ?_)
  · have hw := hw.1 c4
    refine lv_aload_n hx hb dX7_addPage_28 rfl (lv_at hl 0 rfl) ?_
    refine lv_iconst (v := (nI 1)) hx hb dX7_addPage_29 (by decide) ?_
    obtain ⟨k6, hw⟩ := hw
    refine rc_V (As := [.int (nI 1)]) (rest := []) X h k6 (by decide) rfl (meX7_fails l G _ _ _ _ hw) gV_X7_101 rfl rfl hdV_X7_fails rfl ⟨Nat.le_of_ble_eq_true rfl, Nat.le_of_ble_eq_true rfl⟩ hl.1 rfl (Nat.le_of_ble_eq_true rfl) ⟨Nat.le_of_ble_eq_true rfl, Nat.le_of_ble_eq_true rfl⟩ dX7_addPage_30 (fun x7 S5 H locs hw h => ?_)
    exact (en_i X h hr hw (Nat.le_of_ble_eq_true rfl) (Nat.le_of_ble_eq_true rfl) dX7_addPage_33)
  · have hw := hw.2 c4
    refine lv_iload_n hx hb dX7_addPage_14 rfl (lv_at hl 2 rfl) ?_
    refine lv_iconst (v := (nI 0)) hx hb dX7_addPage_15 (by decide) ?_
    refine lv_aload_n hx hb dX7_addPage_16 rfl (lv_at hl 0 rfl) ?_
    obtain ⟨k8, hw⟩ := hw
    refine r_getI X h k8 1  (by decide) rfl inX7 (by decide) rfl q849 rfl dX7_addPage_17 ?_
    refine lv_iconst (v := (nI 1)) hx hb dX7_addPage_20 (by decide) ?_
    refine lv_isub hx hb dX7_addPage_21 ?_
    refine rc_S (As := [.int p2, .int (nI 0), .int ((mI S2 a0 1) - (nI 1))]) (rest := []) X h (meX7_in l G _ _ _ _ _ hw) gS_X7_60 rfl rfl hdS_X7_in rfl ⟨Nat.le_of_ble_eq_true rfl, Nat.le_of_ble_eq_true rfl⟩ hl.1 rfl (Nat.le_of_ble_eq_true rfl) ⟨Nat.le_of_ble_eq_true rfl, Nat.le_of_ble_eq_true rfl⟩ dX7_addPage_22 (fun x10 S9 H locs hw h => ?_)
    refine lv_if_ne (tgt := 34) hx hb dX7_addPage_25 (by decide) (fun c11 => ?_) (fun c11 => ?_)
    · have hw := hw.1 c11
      refine lv_aload_n hx hb dX7_addPage_34 rfl (lv_at hl 0 rfl) ?_
      obtain ⟨k12, hw⟩ := hw
      obtain ⟨o13, eo13, hw⟩ := hw
      refine r_getR X h k12 14 eo13  (by decide) rfl inX7 (by decide) rfl q862 rfl dX7_addPage_35 ?_
      refine lv_iload_n hx hb dX7_addPage_38 rfl (lv_at hl 1 rfl) ?_
      obtain ⟨k14, hw⟩ := hw
      obtain ⟨v15, hw⟩ := hw
      refine r_iald X h k14 v15 dX7_addPage_39 ?_
      refine lv_bipush (v := (nI 16)) hx hb dX7_addPage_40 (by decide) ?_
      refine lv_icmp_ne (tgt := 51) hx hb dX7_addPage_42 (by decide) (fun c16 => ?_) (fun c16 => ?_)
      · have hw := hw.1 c16
        refine lv_aload_n hx hb dX7_addPage_51 rfl (lv_at hl 0 rfl) ?_
        refine lv_iconst (v := (nI 0)) hx hb dX7_addPage_52 (by decide) ?_
        refine r_putI X h k12 0 (by decide) rfl inX7 tyX7 tyX7_ok nmX7 (by decide) rfl (Nat.le_of_ble_eq_true rfl) q848 rfl rfl (tyX7_ok 0 (by decide)) rfl rfl dX7_addPage_53 (fun H locs h => ?_)
        obtain ⟨S17, eS17⟩ : ∃ z : Mem, z = (sI S9 a0 0 (nI 0)) := ⟨_, rfl⟩
        rw [← eS17] at h
        have hw := hw S17 eS17
        refine lv_iconst (v := (nI 0)) hx hb dX7_addPage_56 (by decide) ?_
        refine lv_istore_n (lv' := [(3, .int (nI 0)), (0, .ref a0), (1, .int p1), (2, .int p2)]) hx hb dX7_addPage_57 rfl hl (by decide) rfl (fun ls hl => ?_)
        obtain ⟨n40, hw⟩ := hw
        exact llX7_addPage_58  X hr _ _ _ _ n40 _ _ hw _ _ _ h (lv_sub hl [1, 2, 3, 0] rfl)
      · have hw := hw.2 c16
        refine lv_aload_n hx hb dX7_addPage_45 rfl (lv_at hl 0 rfl) ?_
        refine lv_iconst (v := (nI 2)) hx hb dX7_addPage_46 (by decide) ?_
        refine rc_V (As := [.int (nI 2)]) (rest := []) X h k12 (by decide) rfl (meX7_fails l G _ _ _ _ hw) gV_X7_101 rfl rfl hdV_X7_fails rfl ⟨Nat.le_of_ble_eq_true rfl, Nat.le_of_ble_eq_true rfl⟩ hl.1 rfl (Nat.le_of_ble_eq_true rfl) ⟨Nat.le_of_ble_eq_true rfl, Nat.le_of_ble_eq_true rfl⟩ dX7_addPage_47 (fun x42 S41 H locs hw h => ?_)
        exact (en_i X h hr hw (Nat.le_of_ble_eq_true rfl) (Nat.le_of_ble_eq_true rfl) dX7_addPage_50)
    · have hw := hw.2 c11
      refine lv_aload_n hx hb dX7_addPage_28 rfl (lv_at hl 0 rfl) ?_
      refine lv_iconst (v := (nI 1)) hx hb dX7_addPage_29 (by decide) ?_
      obtain ⟨k44, hw⟩ := hw
      refine rc_V (As := [.int (nI 1)]) (rest := []) X h k44 (by decide) rfl (meX7_fails l G _ _ _ _ hw) gV_X7_101 rfl rfl hdV_X7_fails rfl ⟨Nat.le_of_ble_eq_true rfl, Nat.le_of_ble_eq_true rfl⟩ hl.1 rfl (Nat.le_of_ble_eq_true rfl) ⟨Nat.le_of_ble_eq_true rfl, Nat.le_of_ble_eq_true rfl⟩ dX7_addPage_30 (fun x45 S43 H locs hw h => ?_)
      exact (en_i X h hr hw (Nat.le_of_ble_eq_true rfl) (Nat.le_of_ble_eq_true rfl) dX7_addPage_33)
abbrev rmX6_pages : Room := { frames := 7, cells := 1, slots := 6, locals := 112 }
def wpX6_pages (S : Mem) (a0 : Nat) (p1 : Int32) (post : Int32 → Mem → Prop) (px : Nat → Mem → Prop) : Prop := isK S a0 6 ∧ (wpX6_existingJob S a0 p1 (fun r3 S1 => ∃ o4, r3 = some o4 ∧ (isK S1 o4 1 ∧ (post (mI S1 o4 3) S1))) px)
set_option maxHeartbeats 4000000 in
set_option maxRecDepth 100000 in
theorem meX6_pages (l : Launch) (hl9 : l.stackTraces = false) (G : GT) (S : Mem) (a0 : Nat) (p1 : Int32) (post : Int32 → Mem → Prop) (px : Nat → Mem → Prop) (hw : wpX6_pages S a0 p1 post px) : CX emI l yX6_pages (wsU yX6_pages cX6_pages 2 (some .int)) rmX6_pages 1 6 G [.ref a0, .int p1] S post px := by
  refine cx_open RX6 rfl (by decide +kernel) (Nat.le_of_ble_eq_true rfl) ?_
  intro p e s m args below meth c A X h hr hno ls hl
  have hl : lv_has ls 2 [(0, .ref a0), (1, .int p1)] := hl
  have hx := X.1
  have hb := X.2.1
  have hown := X.2.2.2.1
  unfold wpX6_pages at hw
  refine lv_aload_n hx hb dX6_pages_0 rfl (lv_at hl 0 rfl) ?_
  refine lv_iload_n hx hb dX6_pages_1 rfl (lv_at hl 1 rfl) ?_
  obtain ⟨k2, hw⟩ := hw
  refine rx_V (As := [.int p1]) (rest := []) X h hno k2 (by decide) rfl (meX6_existingJob l hl9 G _ _ _ _ _ hw) gV_X6_109 rfl rfl hdV_X6_existingJob rfl ⟨Nat.le_of_ble_eq_true rfl, Nat.le_of_ble_eq_true rfl⟩ hl.1 rfl (Nat.le_of_ble_eq_true rfl) ⟨Nat.le_of_ble_eq_true rfl, Nat.le_of_ble_eq_true rfl⟩ ⟨Nat.le_of_ble_eq_true rfl, Nat.le_of_ble_eq_true rfl⟩ dX6_pages_2 (fun r3 S1 H locs hw h => ?_)
  obtain ⟨o4, rfl, hw⟩ := hw
  obtain ⟨k5, hw⟩ := hw
  refine r_getIN X h k5 3  (by decide) rfl inX1 (by decide) rfl q434 rfl dX6_pages_5 ?_
  exact vx_ret (en_i X h hr hw (Nat.le_of_ble_eq_true rfl) (Nat.le_of_ble_eq_true rfl) dX6_pages_8)
abbrev rmL_pages : Room := { frames := 8, cells := 1, slots := 6, locals := 133 }
def wpL_pages (S : Mem) (a0 : Nat) (p1 : Int32) (a2 : Nat) (post : Int32 → Mem → Prop) : Prop := isK S a0 6 ∧ (wpX6_pages S a0 p1 (fun x3 S1 => isK S1 a2 12 ∧ (vp_in (nI 0) (mN S1 a2) ∧ (∀ S8 : Mem, S8 = (sJ S1 a2 (nI 0).toNatClampNeg x3.toInt64) → (post (nI 0) S8)))) (fun k4 S5 => (k4 = 1 → (post (nI 1) S5)) ∧ (k4 = 1)))
set_option maxHeartbeats 4000000 in
set_option maxRecDepth 100000 in
theorem meL_pages (l : Launch) (hl9 : l.stackTraces = false) (G : GT) (S : Mem) (a0 : Nat) (p1 : Int32) (a2 : Nat) (post : Int32 → Mem → Prop) (hw : wpL_pages S a0 p1 a2 post) : CN emI l yL_pages (wsH yL_pages cL_pages 4 (some .int) [(0, 9, 12, 19)]) rmL_pages 1 6 G [.ref a0, .int p1, .ref a2] S post := by
  refine ch_open RL rfl (by decide +kernel) (Nat.le_of_ble_eq_true rfl) ?_
  intro p e s m args below meth c A X h hr hTab ls hl
  have hl : lv_has ls 4 [(0, .ref a0), (1, .int p1), (2, .ref a2)] := hl
  have hx := X.1
  have hb := X.2.1
  have hown := X.2.2.2.1
  unfold wpL_pages at hw
  refine lv_aload_n hx hb dL_pages_0 rfl (lv_at hl 2 rfl) ?_
  refine lv_iconst (v := (nI 0)) hx hb dL_pages_1 (by decide) ?_
  refine lv_aload_n hx hb dL_pages_2 rfl (lv_at hl 0 rfl) ?_
  refine lv_iload_n hx hb dL_pages_3 rfl (lv_at hl 1 rfl) ?_
  obtain ⟨k2, hw⟩ := hw
  refine rx_VH (As := [.int p1]) (rest := [.int (nI 0), .ref a2]) X h k2 (by decide) rfl (meX6_pages l hl9 G _ _ _ _ _ hw) gV_L_38 rfl rfl hdV_X6_pages rfl ⟨Nat.le_of_ble_eq_true rfl, Nat.le_of_ble_eq_true rfl⟩ hl.1 rfl (Nat.le_of_ble_eq_true rfl) ⟨Nat.le_of_ble_eq_true rfl, Nat.le_of_ble_eq_true rfl⟩ dL_pages_4 (fun k4 S5 H locs q9 ce hw h hce hcv hcl => ?_) (fun x3 S1 H locs hw h => ?_)
  · rcases hw.2 with hk9
    · subst hk9
      have hw := hw.1 rfl
      refine vx_catch (own := RL) (name := "java/lang/IndexOutOfBoundsException") (E := xn 1) hown [] ⟨0, 9, 12, 19⟩ [] (by rw [hTab]; rfl) (fun z hz => nomatch hz) (by decide) (by decide) (X.hts q277) (va_Nw.use (by rfl) (X.nw q311)) hce hcv hcl ?_
      refine lv_astore_n (lv' := [(3, .ref q9), (0, .ref a0), (1, .int p1), (2, .ref a2)]) hx hb dL_pages_12 rfl hl (by decide) rfl (fun ls hl => ?_)
      refine lv_iconst (v := (nI 1)) hx hb dL_pages_13 (by decide) ?_
      exact (en_i X h hr hw (Nat.le_of_ble_eq_true rfl) (Nat.le_of_ble_eq_true rfl) dL_pages_14)
  · refine lv_i2l (v := x3.toInt64) hx hb dL_pages_7 rfl ?_
    obtain ⟨k6, hw⟩ := hw
    obtain ⟨v7, hw⟩ := hw
    refine r_last X h k6 v7 dL_pages_8 (fun H locs h => ?_)
    obtain ⟨S8, eS8⟩ : ∃ z : Mem, z = (sJ S1 a2 (nI 0).toNatClampNeg x3.toInt64) := ⟨_, rfl⟩
    rw [← eS8] at h
    have hw := hw S8 eS8
    refine lv_goto (tgt := 15) hx hb dL_pages_9 (by decide) ?_
    refine lv_iconst (v := (nI 0)) hx hb dL_pages_15 (by decide) ?_
    exact (en_i X h hr hw (Nat.le_of_ble_eq_true rfl) (Nat.le_of_ble_eq_true rfl) dL_pages_16)
abbrev rmX7_pages : Room := { frames := 1, cells := 0, slots := 0, locals := 22 }
def wpX7_pages (S : Mem) (a0 : Nat) (p1 : Int32) (post : Int32 → Mem → Prop) : Prop := isK S a0 7 ∧ (wpX7_in S p1 (nI 0) ((mI S a0 2) - (nI 1)) (fun x3 S2 => (¬ x3 = 0 → (isK S2 a0 7 ∧ (∀ S6 : Mem, S6 = (sI S2 a0 0 (nI 0)) → (∃ o7, mR S6 a0 14 = some o7 ∧ (isK S6 o7 8 ∧ (vp_in p1 (mN S6 o7) ∧ (post (mI S6 o7 p1.toNatClampNeg) S6))))))) ∧ (x3 = 0 → (isK S2 a0 7 ∧ (wpX7_fails S2 a0 (nI 1) (fun x12 S10 => post x12 S10))))))
set_option maxHeartbeats 4000000 in
set_option maxRecDepth 100000 in
theorem meX7_pages (l : Launch) (G : GT) (S : Mem) (a0 : Nat) (p1 : Int32) (post : Int32 → Mem → Prop) (hw : wpX7_pages S a0 p1 post) : CN emI l yX7_pages (wsU yX7_pages cX7_pages 2 (some .int)) rmX7_pages 0 0 G [.ref a0, .int p1] S post := by
  refine cn_open RX7 rfl (by decide +kernel) (Nat.le_of_ble_eq_true rfl) ?_
  intro p e s m args below meth c A X h hr hin ls hl
  have hl : lv_has ls 2 [(0, .ref a0), (1, .int p1)] := hl
  have hx := X.1
  have hb := X.2.1
  have hown := X.2.2.2.1
  unfold wpX7_pages at hw
  refine lv_iload_n hx hb dX7_pages_0 rfl (lv_at hl 1 rfl) ?_
  refine lv_iconst (v := (nI 0)) hx hb dX7_pages_1 (by decide) ?_
  refine lv_aload_n hx hb dX7_pages_2 rfl (lv_at hl 0 rfl) ?_
  obtain ⟨k1, hw⟩ := hw
  refine r_getI X h k1 2  (by decide) rfl inX7 (by decide) rfl q850 rfl dX7_pages_3 ?_
  refine lv_iconst (v := (nI 1)) hx hb dX7_pages_6 (by decide) ?_
  refine lv_isub hx hb dX7_pages_7 ?_
  refine rc_S (As := [.int p1, .int (nI 0), .int ((mI S a0 2) - (nI 1))]) (rest := []) X h (meX7_in l G _ _ _ _ _ hw) gS_X7_60 rfl rfl hdS_X7_in rfl ⟨Nat.le_of_ble_eq_true rfl, Nat.le_of_ble_eq_true rfl⟩ hl.1 rfl (Nat.le_of_ble_eq_true rfl) ⟨Nat.le_of_ble_eq_true rfl, Nat.le_of_ble_eq_true rfl⟩ dX7_pages_8 (fun x3 S2 H locs hw h => ?_)
  refine lv_if_ne (tgt := 20) hx hb dX7_pages_11 (by decide) (fun c4 => ?_) (fun c4 => ?_)
  · have hw := hw.1 c4
    refine lv_aload_n hx hb dX7_pages_20 rfl (lv_at hl 0 rfl) ?_
    refine lv_iconst (v := (nI 0)) hx hb dX7_pages_21 (by decide) ?_
    obtain ⟨k5, hw⟩ := hw
    refine r_putI X h k5 0 (by decide) rfl inX7 tyX7 tyX7_ok nmX7 (by decide) rfl (Nat.le_of_ble_eq_true rfl) q848 rfl rfl (tyX7_ok 0 (by decide)) rfl rfl dX7_pages_22 (fun H locs h => ?_)
    obtain ⟨S6, eS6⟩ : ∃ z : Mem, z = (sI S2 a0 0 (nI 0)) := ⟨_, rfl⟩
    rw [← eS6] at h
    have hw := hw S6 eS6
    refine lv_aload_n hx hb dX7_pages_25 rfl (lv_at hl 0 rfl) ?_
    obtain ⟨o7, eo7, hw⟩ := hw
    refine r_getR X h (kI eS6 k5) 14 eo7  (by decide) rfl inX7 (by decide) rfl q862 rfl dX7_pages_26 ?_
    refine lv_iload_n hx hb dX7_pages_29 rfl (lv_at hl 1 rfl) ?_
    obtain ⟨k8, hw⟩ := hw
    obtain ⟨v9, hw⟩ := hw
    refine r_iald X h k8 v9 dX7_pages_30 ?_
    exact (en_i X h hr hw (Nat.le_of_ble_eq_true rfl) (Nat.le_of_ble_eq_true rfl) dX7_pages_31)
  · have hw := hw.2 c4
    refine lv_aload_n hx hb dX7_pages_14 rfl (lv_at hl 0 rfl) ?_
    refine lv_iconst (v := (nI 1)) hx hb dX7_pages_15 (by decide) ?_
    obtain ⟨k11, hw⟩ := hw
    refine rc_V (As := [.int (nI 1)]) (rest := []) X h k11 (by decide) rfl (meX7_fails l G _ _ _ _ hw) gV_X7_101 rfl rfl hdV_X7_fails rfl ⟨Nat.le_of_ble_eq_true rfl, Nat.le_of_ble_eq_true rfl⟩ hl.1 rfl (Nat.le_of_ble_eq_true rfl) ⟨Nat.le_of_ble_eq_true rfl, Nat.le_of_ble_eq_true rfl⟩ dX7_pages_16 (fun x12 S10 H locs hw h => ?_)
    exact (en_i X h hr hw (Nat.le_of_ble_eq_true rfl) (Nat.le_of_ble_eq_true rfl) dX7_pages_19)
abbrev rmX6_completeJob : Room := { frames := 7, cells := 2, slots := 12, locals := 112 }
def wpX6_completeJob (S : Mem) (a0 : Nat) (p1 : Int32) (post : Option Nat → Mem → Prop) (px : Nat → Mem → Prop) : Prop := isK S a0 6 ∧ (wpX6_existingJob S a0 p1 (fun r3 S1 => ∃ o4, r3 = some o4 ∧ (wpX6_requireComplete S1 o4 (fun u6 S5 => post (some o4) S5) px)) px)
set_option maxHeartbeats 4000000 in
set_option maxRecDepth 100000 in
theorem meX6_completeJob (l : Launch) (hl9 : l.stackTraces = false) (G : GT) (S : Mem) (a0 : Nat) (p1 : Int32) (post : Option Nat → Mem → Prop) (px : Nat → Mem → Prop) (hw : wpX6_completeJob S a0 p1 post px) : CX emR l yX6_completeJob (wsU yX6_completeJob cX6_completeJob 3 (some (.object "BinderyDesk$Job"))) rmX6_completeJob 2 12 G [.ref a0, .int p1] S post px := by
  refine cx_open RX6 rfl (by decide +kernel) (Nat.le_of_ble_eq_true rfl) ?_
  intro p e s m args below meth c A X h hr hno ls hl
  have hl : lv_has ls 3 [(0, .ref a0), (1, .int p1)] := hl
  have hx := X.1
  have hb := X.2.1
  have hown := X.2.2.2.1
  unfold wpX6_completeJob at hw
  refine lv_aload_n hx hb dX6_completeJob_0 rfl (lv_at hl 0 rfl) ?_
  refine lv_iload_n hx hb dX6_completeJob_1 rfl (lv_at hl 1 rfl) ?_
  obtain ⟨k2, hw⟩ := hw
  refine rx_V (As := [.int p1]) (rest := []) X h hno k2 (by decide) rfl (meX6_existingJob l hl9 G _ _ _ _ _ hw) gV_X6_109 rfl rfl hdV_X6_existingJob rfl ⟨Nat.le_of_ble_eq_true rfl, Nat.le_of_ble_eq_true rfl⟩ hl.1 rfl (Nat.le_of_ble_eq_true rfl) ⟨Nat.le_of_ble_eq_true rfl, Nat.le_of_ble_eq_true rfl⟩ ⟨Nat.le_of_ble_eq_true rfl, Nat.le_of_ble_eq_true rfl⟩ dX6_completeJob_2 (fun r3 S1 H locs hw h => ?_)
  obtain ⟨o4, rfl, hw⟩ := hw
  refine lv_astore_n (lv' := [(2, .ref o4), (0, .ref a0), (1, .int p1)]) hx hb dX6_completeJob_5 rfl hl (by decide) rfl (fun ls hl => ?_)
  refine lv_aload_n hx hb dX6_completeJob_6 rfl (lv_at hl 0 rfl) ?_
  refine rx_S (As := [.ref o4]) (rest := []) X h hno (meX6_requireComplete l hl9 G _ _ _ _ hw) gS_X6_223 rfl rfl hdS_X6_requireComplete rfl ⟨Nat.le_of_ble_eq_true rfl, Nat.le_of_ble_eq_true rfl⟩ hl.1 rfl (Nat.le_of_ble_eq_true rfl) ⟨Nat.le_of_ble_eq_true rfl, Nat.le_of_ble_eq_true rfl⟩ ⟨Nat.le_of_ble_eq_true rfl, Nat.le_of_ble_eq_true rfl⟩ dX6_completeJob_7 (fun u6 S5 H locs hw h => ?_)
  refine lv_aload_n hx hb dX6_completeJob_10 rfl (lv_at hl 0 rfl) ?_
  exact vx_ret (en_r (r := (some o4)) X h rfl hr hw (Nat.le_of_ble_eq_true rfl) (Nat.le_of_ble_eq_true rfl) dX6_completeJob_11)
abbrev rmX6_sheets : Room := { frames := 8, cells := 2, slots := 12, locals := 134 }
def wpX6_sheets (S : Mem) (a0 : Nat) (p1 : Int32) (post : Int32 → Mem → Prop) (px : Nat → Mem → Prop) : Prop := isK S a0 6 ∧ (wpX6_completeJob S a0 p1 (fun r3 S1 => ∃ o4, r3 = some o4 ∧ (isK S1 o4 1 ∧ (wpX1_sheetCount S1 o4 (fun x7 S5 => post x7 S5)))) px)
set_option maxHeartbeats 4000000 in
set_option maxRecDepth 100000 in
theorem meX6_sheets (l : Launch) (hl9 : l.stackTraces = false) (G : GT) (S : Mem) (a0 : Nat) (p1 : Int32) (post : Int32 → Mem → Prop) (px : Nat → Mem → Prop) (hw : wpX6_sheets S a0 p1 post px) : CX emI l yX6_sheets (wsU yX6_sheets cX6_sheets 2 (some .int)) rmX6_sheets 2 12 G [.ref a0, .int p1] S post px := by
  refine cx_open RX6 rfl (by decide +kernel) (Nat.le_of_ble_eq_true rfl) ?_
  intro p e s m args below meth c A X h hr hno ls hl
  have hl : lv_has ls 2 [(0, .ref a0), (1, .int p1)] := hl
  have hx := X.1
  have hb := X.2.1
  have hown := X.2.2.2.1
  unfold wpX6_sheets at hw
  refine lv_aload_n hx hb dX6_sheets_0 rfl (lv_at hl 0 rfl) ?_
  refine lv_iload_n hx hb dX6_sheets_1 rfl (lv_at hl 1 rfl) ?_
  obtain ⟨k2, hw⟩ := hw
  refine rx_V (As := [.int p1]) (rest := []) X h hno k2 (by decide) rfl (meX6_completeJob l hl9 G _ _ _ _ _ hw) gV_X6_121 rfl rfl hdV_X6_completeJob rfl ⟨Nat.le_of_ble_eq_true rfl, Nat.le_of_ble_eq_true rfl⟩ hl.1 rfl (Nat.le_of_ble_eq_true rfl) ⟨Nat.le_of_ble_eq_true rfl, Nat.le_of_ble_eq_true rfl⟩ ⟨Nat.le_of_ble_eq_true rfl, Nat.le_of_ble_eq_true rfl⟩ dX6_sheets_2 (fun r3 S1 H locs hw h => ?_)
  obtain ⟨o4, rfl, hw⟩ := hw
  obtain ⟨k6, hw⟩ := hw
  refine rc_V (As := []) (rest := []) X h k6 (by decide) rfl (meX1_sheetCount l G _ _ _ hw) gV_X6_124 rfl rfl hdV_X1_sheetCount rfl ⟨Nat.le_of_ble_eq_true rfl, Nat.le_of_ble_eq_true rfl⟩ hl.1 rfl (Nat.le_of_ble_eq_true rfl) ⟨Nat.le_of_ble_eq_true rfl, Nat.le_of_ble_eq_true rfl⟩ dX6_sheets_5 (fun x7 S5 H locs hw h => ?_)
  exact vx_ret (en_i X h hr hw (Nat.le_of_ble_eq_true rfl) (Nat.le_of_ble_eq_true rfl) dX6_sheets_8)
abbrev rmL_sheets : Room := { frames := 9, cells := 2, slots := 12, locals := 155 }
def wpL_sheets (S : Mem) (a0 : Nat) (p1 : Int32) (a2 : Nat) (post : Int32 → Mem → Prop) : Prop := isK S a0 6 ∧ (wpX6_sheets S a0 p1 (fun x3 S1 => isK S1 a2 12 ∧ (vp_in (nI 0) (mN S1 a2) ∧ (∀ S8 : Mem, S8 = (sJ S1 a2 (nI 0).toNatClampNeg x3.toInt64) → (post (nI 0) S8)))) (fun k4 S5 => (k4 = 1 → (post (nI 1) S5)) ∧ (k4 = 2 → (post (nI 2) S5)) ∧ (k4 = 1 ∨ k4 = 2)))
set_option maxHeartbeats 4000000 in
set_option maxRecDepth 100000 in
theorem meL_sheets (l : Launch) (hl9 : l.stackTraces = false) (G : GT) (S : Mem) (a0 : Nat) (p1 : Int32) (a2 : Nat) (post : Int32 → Mem → Prop) (hw : wpL_sheets S a0 p1 a2 post) : CN emI l yL_sheets (wsH yL_sheets cL_sheets 4 (some .int) [(0, 9, 12, 19), (0, 9, 15, 13)]) rmL_sheets 2 12 G [.ref a0, .int p1, .ref a2] S post := by
  refine ch_open RL rfl (by decide +kernel) (Nat.le_of_ble_eq_true rfl) ?_
  intro p e s m args below meth c A X h hr hTab ls hl
  have hl : lv_has ls 4 [(0, .ref a0), (1, .int p1), (2, .ref a2)] := hl
  have hx := X.1
  have hb := X.2.1
  have hown := X.2.2.2.1
  unfold wpL_sheets at hw
  refine lv_aload_n hx hb dL_sheets_0 rfl (lv_at hl 2 rfl) ?_
  refine lv_iconst (v := (nI 0)) hx hb dL_sheets_1 (by decide) ?_
  refine lv_aload_n hx hb dL_sheets_2 rfl (lv_at hl 0 rfl) ?_
  refine lv_iload_n hx hb dL_sheets_3 rfl (lv_at hl 1 rfl) ?_
  obtain ⟨k2, hw⟩ := hw
  refine rx_VH (As := [.int p1]) (rest := [.int (nI 0), .ref a2]) X h k2 (by decide) rfl (meX6_sheets l hl9 G _ _ _ _ _ hw) gV_L_41 rfl rfl hdV_X6_sheets rfl ⟨Nat.le_of_ble_eq_true rfl, Nat.le_of_ble_eq_true rfl⟩ hl.1 rfl (Nat.le_of_ble_eq_true rfl) ⟨Nat.le_of_ble_eq_true rfl, Nat.le_of_ble_eq_true rfl⟩ dL_sheets_4 (fun k4 S5 H locs q9 ce hw h hce hcv hcl => ?_) (fun x3 S1 H locs hw h => ?_)
  · rcases hw.2.2 with hk9 | hk9
    · subst hk9
      have hw := hw.1 rfl
      refine vx_catch (own := RL) (name := "java/lang/IndexOutOfBoundsException") (E := xn 1) hown [] ⟨0, 9, 12, 19⟩ [⟨0, 9, 15, 13⟩] (by rw [hTab]; rfl) (fun z hz => nomatch hz) (by decide) (by decide) (X.hts q277) (va_Nw.use (by rfl) (X.nw q311)) hce hcv hcl ?_
      refine lv_astore_n (lv' := [(3, .ref q9), (0, .ref a0), (1, .int p1), (2, .ref a2)]) hx hb dL_sheets_12 rfl hl (by decide) rfl (fun ls hl => ?_)
      refine lv_iconst (v := (nI 1)) hx hb dL_sheets_13 (by decide) ?_
      exact (en_i X h hr hw (Nat.le_of_ble_eq_true rfl) (Nat.le_of_ble_eq_true rfl) dL_sheets_14)
    · subst hk9
      have hw := hw.2.1 rfl
      have hpass2 : ∀ z ∈ ([⟨0, 9, 12, 19⟩] : List ExceptionTableEntry), covers z 4 = false ∨ (z.catchType ≠ 0 ∧ ∃ nm : String, (Cond.classLink RL z.catchType nm).before args s = true ∧ va_Nc (xn 2) nm s) := by
        intro z hz
        rcases List.mem_cons.mp hz with rfl | hz
        · exact Or.inr ⟨by decide, "java/lang/IndexOutOfBoundsException", X.hts q277, X.2.2.2.2.2.2.1.2.2.2.2.1 ("java/lang/IllegalStateException", "java/lang/IndexOutOfBoundsException") (by decide +kernel)⟩
        cases hz
      refine vx_catch (own := RL) (name := "java/lang/IllegalStateException") (E := xn 2) hown [⟨0, 9, 12, 19⟩] ⟨0, 9, 15, 13⟩ [] (by rw [hTab]; rfl) (hpass2) (by decide) (by decide) (X.hts q193) (va_Nw.use (by rfl) (X.nw q200)) hce hcv hcl ?_
      refine lv_astore_n (lv' := [(3, .ref q9), (0, .ref a0), (1, .int p1), (2, .ref a2)]) hx hb dL_sheets_15 rfl hl (by decide) rfl (fun ls hl => ?_)
      refine lv_iconst (v := (nI 2)) hx hb dL_sheets_16 (by decide) ?_
      exact (en_i X h hr hw (Nat.le_of_ble_eq_true rfl) (Nat.le_of_ble_eq_true rfl) dL_sheets_17)
  · refine lv_i2l (v := x3.toInt64) hx hb dL_sheets_7 rfl ?_
    obtain ⟨k6, hw⟩ := hw
    obtain ⟨v7, hw⟩ := hw
    refine r_last X h k6 v7 dL_sheets_8 (fun H locs h => ?_)
    obtain ⟨S8, eS8⟩ : ∃ z : Mem, z = (sJ S1 a2 (nI 0).toNatClampNeg x3.toInt64) := ⟨_, rfl⟩
    rw [← eS8] at h
    have hw := hw S8 eS8
    refine lv_goto (tgt := 18) hx hb dL_sheets_9 (by decide) ?_
    refine lv_iconst (v := (nI 0)) hx hb dL_sheets_18 (by decide) ?_
    exact (en_i X h hr hw (Nat.le_of_ble_eq_true rfl) (Nat.le_of_ble_eq_true rfl) dL_sheets_19)
