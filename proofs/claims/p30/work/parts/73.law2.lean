/-! ===== the law's steps ===== -/
section
variable {S S1 S' : Mem} {ad ad' : Nat → Nat} {A A' A1 : AM} {n n' : Nat × Nat} {s s' : Sta} {m P B L : Nat} {xs : Nat → Int32} {post : Int32 → Mem → Prop} {x16 x17 : Int32} {j i k l c : Nat} {x13 : Int64} {J : JT9}
/-- what the loop goes on with -/
def JH (J : JT9) (ad : Nat → Nat) (n2 m k i : Nat) : Prop := ∀ S' ad' n' A' s' m' P' B', LV S' ad' n' A' s' m' → m' ≤ m + 2 → n'.2 ≤ n2 + 1 → P' = B' + s' 0 5 + tots s' 3 → (∀ t, t < 21 → ad' t = ad t) → J (ad 0) (ad 14) (ad 18) (ad 19) (ad 20) (lN P') (lN B') (nI 1) (nI (k + 4)) (nI (i + 1)) S'
abbrev K8 (L : Nat) (xs : Nat → Int32) (post : Int32 → Mem → Prop) (J : JT9) (ad : Nat → Nat) (P B k i : Nat) (x13 : Int64) (x19 : Int32) (S : Mem) : Prop := wcL_law_824 L xs post J (ad 0) (ad 14) (ad 18) (ad 19) (ad 20) (lN P) (lN B) (nI 1) (nI k) (nI i) x13 x19 S
def SumIs (S : Mem) (ad : Nat → Nat) (x13 : Int64) : Prop := ∀ post : Int64 → Mem → Prop, post x13 S → wpL_sum S (ad 0) post
theorem cfail (V : LV S ad n A s m) (bal : P = B + s 0 5 + tots s 3) (hv : SumIs S ad x13) (hJ : JH J ad n.2 m k i) {x19 : Int32} : K8 L xs post J ad P B k i x13 x19 S :=
  c824 V bal (fun _ => hv) fun S' V' => hJ S' ad n A s m P B V' (by omega) (by omega) bal fun _ _ => rfl
theorem cgood {v m' : Nat} (V : LV S' ad n A' s' m') (bal : P = B + s' 0 5 + tots s' 3) (hm' : m' ≤ m + 2) (hb : v < 2147483648) (hJ : JH J ad n.2 m k i) : K8 L xs post J ad P B k i x13 (nI v) S' :=
  c824 V bal (fun z => ge0 hb z) fun S2 V2 => hJ S2 ad n A' s' m' P B V2 hm' (by omega) bal fun _ _ => rfl
theorem LV.set (V : LV S ad n A s m) {v : Nat} (t k : Nat) (I1 : Inv S' ad n A' (up2 s t k v) (m + 1)) (k1 : LK A A') (h : t = 1 ∨ t = 2) : LV S' ad n A' (up2 s t k v) (m + 1) := by
  obtain ⟨I, hL, hn, h0, h4⟩ := V
  refine ⟨I1, hL.keep k1 (s_fn (by omega)) (s_fn (by omega)) (s_fn (by omega)) (s_fn (by omega)) (by omega), hn, ?_, ?_⟩
  · rw [s_fn (by omega)]; exact h0
  · rw [s_fn (by omega)]; exact h4
theorem bal_set {v : Nat} (bal : P = B + s 0 5 + tots s 3) (t k : Nat) (h : t = 1 ∨ t = 2) : P = B + up2 s t k v 0 5 + tots (up2 s t k v) 3 := by
  rw [tots_same (s_fn (by omega)), s_fn (by omega)]; exact bal
theorem k_approve (V : LV S ad n A s m) (hm : m + 2 < 512) (bal : P = B + s 0 5 + tots s 3) (hv : SumIs S ad x13) (hJ : JH J ad n.2 m k i) : wpL_approve S (ad 0) x16 (fun x S2 => K8 L xs post J ad P B k i x13 x S2) := by
  refine wr_approve V.I (by omega) (fun c S1 A1 hc e I1 k1 => ?_) fun _ => cfail V bal hv hJ
  have h2 := (V.I.vb.2.1 c (by have := V.I.nc; omega)).2.1
  exact cgood (V.set 2 c I1 k1 (Or.inr rfl)) (bal_set bal 2 c (Or.inr rfl)) (by omega) (by omega) hJ
theorem k_correct (V : LV S ad n A s m) (hm : m + 2 < 512) (bal : P = B + s 0 5 + tots s 3) (hv : SumIs S ad x13) (hJ : JH J ad n.2 m k i) : isK S (ad 0) 6 ∧ (wpX6_waste S (ad 0) (fun x226 S224 => wpL_state S224 (ad 0) x16 (fun x228 S227 => wpL_correct S227 (ad 0) x16 (fun x230 S229 => (x230 < 0 → (K8 L xs post J ad P B k i x13 x230 S229)) ∧ (¬ x230 < 0 → (wpL_state S229 (ad 0) x16 (fun x233 S232 => (¬ x233 = (x228 + (nI 1)) → (False)) ∧ (x233 = (x228 + (nI 1)) → (isK S232 (ad 0) 6 ∧ (wpX6_waste S232 (ad 0) (fun x237 S235 => (¬ (lg_cmp x237 (x226 + x230.toInt64)) = 0 → (False)) ∧ ((lg_cmp x237 (x226 + x230.toInt64)) = 0 → (wpL_approve S235 (ad 0) x16 (fun x240 S239 => (¬ x240 = 0 → (False)) ∧ (x240 = 0 → (K8 L xs post J ad P B k i x13 x230 S239)))))))))))))))) := by
  have V0 := V
  obtain ⟨I, hL, hn, h0, h4⟩ := V
  have hnc := I.nc
  have hb := I.vb.1
  refine ⟨I.h.k l0, rd_waste I (rd_state I (wr_correct I (by omega) (fun c F S1 A1 hc e h99 hF I1 k1 => ?_) fun v hv0 => ⟨fun _ => cfail V0 bal hv hJ, fun z => absurd ((lt0_iff v).2 hv0) z⟩))⟩
  subst e
  have hg : sm (vr s n F) 4 ≤ 4 * 79992 := sm_le fun j _ => vr_le I hF j
  have V1 : LV S1 ad n A1 (sC s n c F) (m + 1) := ⟨I1, hL.keep k1 rfl rfl rfl rfl (by omega), hn, h0, h4⟩
  have bal1 : P = B + sC s n c F 0 5 + tots (sC s n c F) 3 := by
    have := tots_corr I hn hF
    show P = B + (s 0 5 + sm (vr s n F) 4) + tots (sC s n c F) 3
    omega
  have e1 : sC s n c F 1 c = s 1 c + 1 := by
    show (if c = c then s 1 c + 1 else s 1 c) = _
    exact if_pos rfl
  have e2 : sC s n c F 2 c = 0 := by
    show (if c = c then 0 else s 2 c) = _
    exact if_pos rfl
  have hc4 : c < sC s n c F 0 0 := hc
  refine ⟨fun z => ?_, fun _ => rd_state I1 ⟨fun y => absurd ?_ y, fun _ => ⟨I1.h.k l0, rd_waste I1 ⟨fun y => absurd ?_ y, fun _ => wr_approve I1 (by omega) (fun c' S2 A2 hc' e' I2 k2 => ?_) fun z => absurd ((inr_nI (by omega)).2 hc4) z⟩⟩⟩⟩
  · rw [lt0_iff, nI_toInt (by omega)] at z; omega
  · rw [vSt, pif_t ((inr_nI (by omega)).2 hc4), ix_nI (by omega), e1, vSt, pif_t ((inr_nI (by omega)).2 hc), ix_nI (by omega), nI_add]
  · rw [i2l (by omega), lN_add]
    exact lg_same _
  · have hc9 : c' < 4 := by
      have : sC s n c F 0 0 = s 0 0 := rfl
      omega
    have ec : c = c' := (nI_eq (by omega) (by omega)).1 e'
    subst ec
    rw [e2]
    exact ⟨fun y => absurd t0 y, fun _ => cgood (V1.set 2 c I2 k2 (Or.inr rfl)) (bal_set bal1 2 c (Or.inr rfl)) (Nat.le_refl _) (by omega) hJ⟩
theorem rrow (h : Rel S ad n A) (hj : j < 3) : mR S (ad 14) j = some (ad (j + 15)) ∧ isK S (ad (j + 15)) 8 ∧ mN S (ad (j + 15)) = 16 := by
  have h3 : j = 0 ∨ j = 1 ∨ j = 2 := by omega
  have hrk : rk (j + 15) = 8 ∧ rn (j + 15) = 16 := by rcases h3 with e | e | e <;> rw [e] <;> exact ⟨rfl, rfl⟩
  refine ⟨h.r (t := 14) LM (by show (if j < 3 then some (j + 15) else none) = _; rw [if_pos hj]), ?_, ?_⟩
  · have := h.k (t := j + 15) (live_lt (by omega))
    rw [hrk.1] at this
    exact this
  · rw [h.len (t := j + 15) (live_lt (by omega))]
    exact hrk.2
theorem pg_put (V : LV S ad n A s m) (hj : j < 3) (hc : c < 4) (h16 : s 4 j < 16) (I1 : Inv S' ad n A1 (sP s j c) (m + 1)) (k1 : LK A A1) : LV (sI (sI S' (ad (j + 15)) (s 4 j) (nI c)) (ad 18) j (nI (s 4 j + 1))) ad n (aI (aI A1 (j + 15) (s 4 j) (nI c)) 18 j (nI (s 4 j + 1))) (sP s j c) (m + 1) := by
  obtain ⟨I, hL, hn, h0, h4⟩ := V
  have k2 := (I1.h.sI (live_lt (by omega) : live n (j + 15)) (s 4 j) (nI c)).sI (LM (t := 18)) j (nI (s 4 j + 1))
  obtain ⟨L1, L2, L3, L4⟩ := hL
  have g18 : ∀ q, gI (aI (aI A1 (j + 15) (s 4 j) (nI c)) 18 j (nI (s 4 j + 1))) 18 q = if q = j then nI (s 4 j + 1) else gI A 18 q := by
    intro q
    rw [gI_if, gI_aIu _ _ _ _ _ (by omega), k1 18 (by decide) (by decide)]
    by_cases e : q = j
    · rw [if_pos ⟨rfl, e⟩, if_pos e]
    · rw [if_neg (fun z => e z.2), if_neg e]
  have go : ∀ t, t ≠ 18 → t ≠ j + 15 → gI (aI (aI A1 (j + 15) (s 4 j) (nI c)) 18 j (nI (s 4 j + 1))) t = gI A1 t := fun t a b => by
    rw [gI_aIu _ _ _ _ _ a, gI_aIu _ _ _ _ _ b]
  have e4 : ∀ q, sP s j c 4 q = if q = j then s 4 j + 1 else s 4 q := fun _ => rfl
  refine ⟨I1.rl k2 (fun t ht => go t (by omega) (by omega)) rfl, ⟨fun q hq => ?_, fun q hq => ?_, fun q k' hq hk => ?_, fun l hl => ?_⟩, hn, h0, fun q hq => ?_⟩
  · rw [g18, e4]
    by_cases e : q = j
    · rw [if_pos e, if_pos e]
    · rw [if_neg e, if_neg e]; exact L1 q hq
  · rw [go 19 (by decide) (by omega), k1 19 (by decide) (by decide)]
    exact L2 q hq
  · show gI (aI (aI A1 (j + 15) (s 4 j) (nI c)) 18 j (nI (s 4 j + 1))) (15 + q) k' = nI (if 16 * q + k' = 16 * j + s 4 j then c else s 5 (16 * q + k'))
    rw [e4] at hk
    by_cases e : q = j
    · subst e
      rw [if_pos rfl] at hk
      rw [gI_aIu _ _ _ _ _ (by omega), Nat.add_comm 15 q, gI_if]
      by_cases y : k' = s 4 q
      · rw [if_pos ⟨rfl, y⟩, if_pos (by omega)]
      · rw [if_neg (fun z => y z.2), if_neg (by omega), k1 (q + 15) (by omega) (by omega), Nat.add_comm q 15]
        exact L3 q k' hq (by omega)
    · rw [if_neg e] at hk
      have h16q := (I.vj q hq).2.2.2.1
      rw [go (15 + q) (by omega) (by omega), k1 (15 + q) (by omega) (by omega), if_neg (by omega)]
      exact L3 q k' hq hk
  · rw [go 20 (by decide) (by omega), k1 20 (by decide) (by decide)]
    exact L4 l hl
  · rw [e4]
    have := h4 q hq
    split <;> omega
theorem k_page (V : LV S ad n A s m) (hm : m + 2 < 512) (bal : P = B + s 0 5 + tots s 3) (hv : SumIs S ad x13) (hJ : JH J ad n.2 m k i) : wpL_addPage S (ad 0) x17 x16 (fun x187 S186 => (x187 ≤ 0 → (K8 L xs post J ad P B k i x13 x187 S186)) ∧ (¬ x187 ≤ 0 → (isK S186 (ad 14) 12 ∧ (vp_in x17 (mN S186 (ad 14)) ∧ (∃ o191, mR S186 (ad 14) x17.toNatClampNeg = some o191 ∧ (isK S186 o191 8 ∧ (vp_in (x187 - (nI 1)) (mN S186 o191) ∧ (∀ S194 : Mem, S194 = (sI S186 o191 (x187 - (nI 1)).toNatClampNeg x16) → (isK S194 (ad 18) 8 ∧ (vp_in x17 (mN S194 (ad 18)) ∧ ((¬ x187 = ((mI S194 (ad 18) x17.toNatClampNeg) + (nI 1)) → (False)) ∧ (x187 = ((mI S194 (ad 18) x17.toNatClampNeg) + (nI 1)) → (wpL_pages S194 (ad 0) x17 (fun x199 S198 => (¬ x199 = x187 → (False)) ∧ (x199 = x187 → (isK S198 (ad 18) 8 ∧ (vp_in x17 (mN S198 (ad 18)) ∧ (∀ x203 : Int32, x203 = ((mI S198 (ad 18) x17.toNatClampNeg) + (nI 1)) → (vp_in x17 (mN S198 (ad 18)) ∧ (∀ S205 : Mem, S205 = (sI S198 (ad 18) x17.toNatClampNeg x203) → (K8 L xs post J ad P B k i x13 x187 S205))))))))))))))))))))) := by
  have V0 := V
  obtain ⟨I, hL, hn, h0, h4⟩ := V
  refine wr_addPage I (by omega) (fun j c S1 A1 hj e hc e2 h16 I1 k1 => ?_) fun v hv0 _ => ⟨fun _ => cfail V0 bal hv hJ, fun z => absurd ?_ z⟩
  · subst e
    subst e2
    have hj3 : j < 3 := by omega
    obtain ⟨r1, r2, r3⟩ := rrow I1.h hj3
    refine ⟨fun z => absurd z (nI_nle (by omega) (by omega)), fun _ => ⟨I1.h.k (t := 14) LM, ?_, ad (j + 15), ?_, r2, ?_, ?_⟩⟩
    · rw [I1.h.len (t := 14) LM]
      exact vp_in_nI (show j < 3 from hj3) (by decide)
    · rw [nI_clamp (by omega)]; exact r1
    · rw [pk_sub (by omega), Nat.add_sub_cancel, r3]
      exact vp_in_nI h16 (by decide)
    · rw [pk_sub (by omega), Nat.add_sub_cancel, nI_clamp (by omega)]
      intro S194 e194
      have k2 := I1.h.sI (live_lt (by omega) : live n (j + 15)) (s 4 j) (nI c)
      rw [← e194] at k2
      have I2 : Inv S194 ad n (aI A1 (j + 15) (s 4 j) (nI c)) (sP s j c) (m + 1) := I1.rl k2 (fun t ht => gI_aIu _ _ _ _ _ (by omega)) rfl
      obtain ⟨f1, f2⟩ := rd k2 (t := 18) (k := j) (by decide) (show j < 3 from hj3)
      rw [gI_aIu _ _ _ _ _ (by omega), k1 18 (by decide) (by decide), hL.1 j hj3] at f2
      refine ⟨k2.k (t := 18) LM, f1, ?_⟩
      rw [f2, nI_add]
      refine ⟨fun y => absurd rfl y, fun _ => rd_pages I2 ⟨fun y => absurd ?_ y, fun _ => ⟨k2.k (t := 18) LM, f1, ?_⟩⟩⟩
      · rw [vPg, pif_t ((inr_nI (by omega)).2 hj), ix_nI (by omega)]
        show nI (if j = j then s 4 j + 1 else s 4 j) = _
        rw [if_pos rfl]
      · rw [f2, nI_add]
        rintro x203 rfl
        refine ⟨f1, fun S205 e205 => ?_⟩
        rw [nI_clamp (by omega)] at e205
        subst e205
        subst e194
        have hst := stk_le I hj (Nat.le_refl 8)
        refine cgood (pg_put V0 hj3 (by omega) h16 I1 k1) ?_ (by omega) (by omega) hJ
        have := tots_page (s := s) (c := c) hj3
        show P = B + (s 0 5 + stk s j 8) + tots (sP s j c) 3
        omega
  · rw [le0_iff]; omega
theorem rds_print {cc mn : Nat} {T : TT} : rds (sPr s j i cc mn T) j i = 0 := by
  show (if jm s j i 0 = jm s j i 0 then 0 else 20) + (if jm s j i 1 = jm s j i 1 then 0 else 20) + (if s 3 j = s 3 j then 0 else 15) = 0
  rw [if_pos rfl, if_pos rfl, if_pos rfl]
theorem k_print (V : LV S ad n A s m) (hm : m + 2 < 512) (bal : P = B + s 0 5 + tots s 3) (hv : SumIs S ad x13) (hJ : JH J ad n.2 m k i) {x20 x21 : Int32} : wcL_law_552 L xs post J (ad 0) (ad 14) (ad 18) (ad 19) (ad 20) (lN P) (lN B) (nI k) (nI i) x13 x17 x20 x21 S := by
  have V0 := V
  obtain ⟨I, hL, hn, h0, h4⟩ := V
  have hb := I.vb.1
  have hn4 := I.h.2.2.1
  have e00 : lN P + (0 : Int64) = lN P := lN_add P 0
  refine rd_makeready I (rd_stock I ⟨I.h.k l0, rd_plates I (rd_platesNeeded I (wr_print I (by omega) (fun j sh c S1 A1 hj ej w hi ei hc1 hc2 ec hst I1 k1 e8 => ?_) fun v hv0 => ⟨I.h.k l0, rd_plates I fun x169 e169 => ⟨fun _ => ⟨fun z => ?_, fun _ => ?_⟩, fun z => absurd ((lt0_iff v).2 hv0) z⟩⟩))⟩)
  · subst ej
    subst ei
    subst ec
    have h8 := i_lt I hj
    have h55 : rds s j sh ≤ 55 := rdy_le (s 0 7) (s 0 8) (s 0 9) (jm s j sh 0) (jm s j sh 1) (s 3 j)
    obtain ⟨-, t1, t2⟩ := T2_ok I hj hi
    have hnd := ndd_print I hj hi I1 e8
    have hr := tk_rng A s j (2 * cntf (s 3 j) (s 4 j))
    have hnd2 : ndd A s j ≤ 2 * cntf (s 3 j) (s 4 j) := by unfold ndd; omega
    have ev : ∀ v, vJS n s (nI j) (nI sh) v = v := fun v => by
      rw [vJS, vJ1_v hj hn4 w, ix_nI (by omega), pif_t ((inr_nI (by omega)).2 hi)]
    have ev' : ∀ v, vJS n (sPr s j sh c (rds s j sh) (T2 A s j sh)) (nI j) (nI sh) v = v := fun v => by
      have w' : whl (sPr s j sh c (rds s j sh) (T2 A s j sh) 3 j) (sPr s j sh c (rds s j sh) (T2 A s j sh) 4 j) := w
      rw [vJS, vJ1_v hj hn4 w', ix_nI (by omega)]
      exact pif_t ((inr_nI (by omega)).2 hi)
    have V1 : LV S1 ad n A1 (sPr s j sh c (rds s j sh) (T2 A s j sh)) (m + 1) := ⟨I1, hL.keep k1 rfl rfl rfl rfl (by omega), hn, h0, h4⟩
    have bal1 : P + c = B + sPr s j sh c (rds s j sh) (T2 A s j sh) 0 5 + tots (sPr s j sh c (rds s j sh) (T2 A s j sh)) 3 := by
      rw [tots_print (show j < 3 by omega) (show sh < 8 by omega)]
      show P + c = B + s 0 5 + (tots s 3 + c)
      omega
    refine ⟨I1.h.k l0, rd_plates I1 fun x169 e169 => ?_⟩
    have e169' : x169 = nI ((T2 A s j sh).2.2 - s 0 2) := by
      rw [e169]
      exact pk_sub t1
    subst e169'
    have fin : K8 L xs post J ad (P + c) B k i x13 (nI (rds s j sh)) S1 := cgood V1 bal1 (by omega) (by omega) hJ
    refine ⟨fun z => ?_, fun _ => ⟨fun y => absurd ?_ y, fun _ => rd_stock I1 ⟨fun y => absurd ?_ y, fun _ => rd_makeready I1 ⟨fun y => absurd ?_ y, fun _ => ⟨fun z => ?_, fun _ => ⟨fun z => ?_, fun _ => rd_platesNeeded I1 ⟨fun y => absurd ?_ y, fun _ => ⟨fun _ => ?_, fun z => ge0 (show rds s j sh < 2147483648 by omega) z⟩⟩⟩⟩⟩⟩⟩⟩
    · rw [lt0_iff, nI_toInt (by omega)] at z; omega
    · rw [vRd, ev, ix_nI (by omega), ix_nI (by omega)]
    · rw [vSk, ev', ix_nI (by omega), ix_nI (by omega), vSk, ev, ix_nI (by omega), ix_nI (by omega), nI_add]
      show nI (if 8 * j + sh = 8 * j + sh then s 6 (8 * j + sh) + c else s 6 (8 * j + sh)) = _
      rw [if_pos rfl]
    · rw [vRd, ev', ix_nI (by omega), ix_nI (by omega), rds_print]
      rfl
    · rw [lt0_iff, nI_toInt (by omega)] at z; omega
    · rw [nI_ltI (by omega) (by omega)] at z; omega
    · have w' : whl (sPr s j sh c (rds s j sh) (T2 A s j sh) 3 j) (sPr s j sh c (rds s j sh) (T2 A s j sh) 4 j) := w
      rw [vNd, vJ1_v hj hn4 w', ix_nI (by omega), vNd, vJ1_v hj hn4 w, ix_nI (by omega), pk_sub (by omega)]
      exact congrArg nI (by omega)
    · rw [i2l (by omega), lN_add]
      exact fin
  · rw [ile_iff] at z
    have : (0 : Int32).toInt = 0 := rfl
    omega
  · rw [e00]
    exact cfail V0 bal hv hJ
theorem k_bind (V : LV S ad n A s m) (hm : m + 2 < 512) (hn2 : n.2 < 100) (bal : P = B + s 0 5 + tots s 3) (hv : SumIs S ad x13) (hJ : JH J ad n.2 m k i) {x20 : Int32} : wcL_law_719 L xs post J (ad 0) (ad 14) (ad 18) (ad 19) (ad 20) (lN P) (lN B) (nI k) (nI i) x13 x17 x20 S := by
  have V0 := V
  obtain ⟨I, hL, hn, h0, h4⟩ := V
  have hn4 := I.h.2.2.1
  have z10 : ¬ (nI 1 : Int32) = nI 0 := by decide
  have z01 : ¬ (nI 0 : Int32) = nI 1 := by decide
  refine rd_lacks I (wr_bind I (by omega) hn2 (fun j c S1 ad1 A1 hj ej w hc1 hc2 ec hcl I1 k1 ea elk => ?_) fun v hv0 hlk => ?_)
  · subst ej
    subst ec
    have h8 := i_lt I hj
    have hj3 : j < 3 := by omega
    have zl : ¬ nI n.2 < 0 := nI_pos (by omega)
    rw [elk]
    refine ⟨fun z => absurd z zl, fun _ => ⟨fun y => absurd t0 y, fun _ => ⟨fun y => absurd rfl y, fun _ => ⟨fun z => absurd z zl, fun _ => ?_⟩⟩⟩⟩
    have hl' : n.2 < ((n.1, n.2 + 1) : Nat × Nat).2 := Nat.lt_succ_self n.2
    have t9 : sB s n j c 9 n.2 = c := by
      show (if n.2 = n.2 then c else s 9 n.2) = c
      exact if_pos rfl
    have t8 : sB s n j c 8 n.2 = j := by
      show (if n.2 = n.2 then j else s 8 n.2) = j
      exact if_pos rfl
    have s8 : ∀ l, l < n.2 → sB s n j c 8 l = s 8 l := fun l hl => by
      show (if l = n.2 then j else s 8 l) = s 8 l
      exact if_neg (by omega)
    rw [← ea 0 (by decide), ← ea 20 (by decide)]
    refine ⟨I1.h.k l0, rd_lots I1 ⟨fun y => absurd ?_ y, fun _ => rd_copies I1 hl' ?_⟩⟩
    · show nI n.2 = nI (n.2 + 1) - nI 1
      rw [pk_sub (by omega), Nat.add_sub_cancel]
    rw [t9]
    refine ⟨fun y => absurd rfl y, fun _ => ⟨fun z => absurd z zl, fun _ => ⟨I1.h.k (t := 20) LM, ?_, fun S149 e149 => ?_⟩⟩⟩
    · rw [I1.h.len (t := 20) LM]
      exact vp_in_nI (show n.2 < 100 from hn2) (by decide)
    rw [nI_clamp (by omega)] at e149
    have k2 := I1.h.sI (LM (t := 20)) n.2 (nI j)
    rw [← e149] at k2
    have I2 : Inv S149 ad1 (n.1, n.2 + 1) (aI A1 20 n.2 (nI j)) (sB s n j c) (m + 1) := I1.rl k2 (fun t ht => gI_aIu _ _ _ _ _ (by omega)) rfl
    refine rd_sheets I2 ?_
    have esh : vSh (n.1, n.2 + 1) (sB s n j c) (nI j) = nI (cntf (s 3 j) (s 4 j)) := by
      have w' : whl (sB s n j c 3 j) (sB s n j c 4 j) := w
      have hj' : j < ((n.1, n.2 + 1) : Nat × Nat).1 := hj
      rw [vSh, vJ1_v hj' hn4 w', ix_nI (by omega)]
      rfl
    rw [esh, i2l (by omega), i2l (by omega), lN_mul, lN_add]
    obtain ⟨L1, L2, L3, L4⟩ := hL
    have V2 : LV S149 ad1 (n.1, n.2 + 1) (aI A1 20 n.2 (nI j)) (sB s n j c) (m + 1) := by
      refine ⟨I2, ⟨fun q hq => ?_, fun q hq => ?_, fun q k' hq hk => ?_, fun l hl => ?_⟩, hn, h0, h4⟩
      · rw [gI_aIu _ _ _ _ _ (by decide), k1 18 (by decide) (by decide)]
        exact L1 q hq
      · rw [gI_aIu _ _ _ _ _ (by decide), k1 19 (by decide) (by decide)]
        exact L2 q hq
      · have hq' : q < n.1 := hq
        rw [gI_aIu _ _ _ _ _ (by omega), k1 (15 + q) (by omega) (by omega)]
        exact L3 q k' hq hk
      · have hl2 : l < n.2 + 1 := hl
        rw [gI_if]
        by_cases e : l = n.2
        · subst e
          rw [if_pos ⟨rfl, rfl⟩, t8]
        · rw [if_neg (fun z => e z.2), k1 20 (by decide) (by decide), s8 l (by omega)]
          exact L4 l (by omega)
    have bal2 : P = (B + c * cntf (s 3 j) (s 4 j)) + sB s n j c 0 5 + tots (sB s n j c) 3 := by
      have := tots_bind (n := n) hj3 h8 hcl
      show P = (B + c * cntf (s 3 j) (s 4 j)) + s 0 5 + tots (sB s n j c) 3
      omega
    rw [ea 0 (by decide), ea 20 (by decide), ← ea 14 (by decide), ← ea 18 (by decide), ← ea 19 (by decide), ← ea 0 (by decide), ← ea 20 (by decide)]
    refine c824 V2 bal2 (fun z => ge0 (show n.2 < 2147483648 by omega) z) fun S3 V3 => ?_
    have := hJ S3 ad1 (n.1, n.2 + 1) _ _ (m + 1) P (B + c * cntf (s 3 j) (s 4 j)) V3 (by omega) (Nat.le_refl _) bal2 ea
    rw [ea 0 (by decide), ea 14 (by decide), ea 18 (by decide), ea 19 (by decide), ea 20 (by decide)]
    exact this
  · have hz : v < 0 := (lt0_iff v).2 hv0
    have hf : K8 L xs post J ad P B k i x13 v S := cfail V0 bal hv hJ
    exact ⟨fun _ => ⟨fun _ => ⟨fun y => absurd rfl y, fun _ => ⟨fun _ => ⟨fun _ => hf, fun y => absurd hz y⟩, fun y => absurd hz y⟩⟩, fun y => absurd y hlk⟩, fun y => absurd hz y⟩
end
