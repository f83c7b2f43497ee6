/-! ===== leastMakeready, leastByTrying ===== -/
section
variable {S : Mem} {ad : Nat → Nat} {A A' A1 : AM} {n : Nat × Nat} {s : Sta} {m : Nat} {K P : Mem → Prop} {post : Int32 → Mem → Prop} {p q r : Int32} {j : Nat}
theorem RO.o (e : ExO A A') (md : Nat) : RO A A' md :=
  ⟨fun t ht => e.1 t (by omega) (by omega) (by omega) (by omega), fun k _ => congrFun (e.1 14 (by decide) (by decide) (by decide) (by decide)) k, fun k _ => congrFun (e.1 21 (by decide) (by decide) (by decide) (by decide)) k, fun t _ => congrFun e.2.1 t⟩
theorem RO.e12 (e : Ex A A' 12) (md : Nat) : RO A A' md :=
  ⟨fun t ht => e.1 t (by omega), fun k _ => congrFun (e.1 14 (by decide)) k, fun k _ => congrFun (e.1 21 (by decide)) k, fun t _ => congrFun e.2.1 t⟩
theorem RO.xm (e : ExM A A') (md : Nat) : RO A A' md :=
  ⟨fun t ht => e.1 t (by omega) (by omega) (by omega), fun k _ => congrFun (e.1 14 (by decide) (by decide) (by decide)) k, fun k _ => congrFun (e.1 21 (by decide) (by decide) (by decide)) k, fun t _ => congrFun e.2.1 t⟩
abbrev jc (s : Sta) (j : Nat) : Nat → Nat → Nat := cm (s 0 7) (s 0 8) (fun i => jm s j i 0) (fun i => jm s j i 1)
theorem side_eq (I : Inv S ad n A s m) (hj : j < n.1) {i l t : Nat} (hi : i < cntf (s 3 j) (s 4 j)) (hl : l < cntf (s 3 j) (s 4 j)) (ht : t < 2) : nI (jk s j i t) = nI (jk s j l t) ↔ jm s j i t = jm s j l t := by
  obtain ⟨o0, k0, m0⟩ := I.side hj hi ht
  obtain ⟨o1, k1, m1⟩ := I.side hj hl ht
  have b0 := (pq_lt o0).1
  have b1 := (pq_lt o1).1
  rw [k0, k1, m0, m1, nI_eq (by omega) (by omega), pq_inj o0 o1, mq_inj o0 o1]
theorem cg_jc (I : Inv S ad n A s m) (hj : j < n.1) (vo : VO A' (cntf (s 3 j) (s 4 j)) (fun i => jk s j i 0) (fun i => jk s j i 1) (gI A 6 0) (gI A 6 1)) : ∀ i l, l < cntf (s 3 j) (s 4 j) → (i < cntf (s 3 j) (s 4 j) ∨ i = 8) → cg A' i l = jc s j i l := by
  intro i l hl hi
  obtain ⟨-, v2, v3, v4⟩ := vo
  obtain ⟨⟨h1, h2, -⟩, -⟩ := I.vp
  have h8 := i_lt I hj
  obtain ⟨o0, k0, m0⟩ := I.side hj hl (t := 0) (by decide)
  obtain ⟨o1, k1, m1⟩ := I.side hj hl (t := 1) (by decide)
  unfold cg jc cm
  rw [(v2 l hl).1, (v2 l hl).2]
  by_cases c : i = 8
  · subst c
    rw [if_pos rfl, v3, v4]
    have q0 : (if gI A 6 0 = nI (jk s j l 0) then 0 else 20) = if jm s j l 0 = s 0 7 then 0 else 20 := ite_sw (by rw [k0, m0]; exact ⟨fun z => (mtd_eq h1 o0).1.1 z.symm, fun z => ((mtd_eq h1 o0).1.2 z).symm⟩)
    have q1 : (if gI A 6 1 = nI (jk s j l 1) then 0 else 20) = if jm s j l 1 = s 0 8 then 0 else 20 := ite_sw (by rw [k1, m1]; exact ⟨fun z => (mtd_eq h2 o1).1.1 z.symm, fun z => ((mtd_eq h2 o1).1.2 z).symm⟩)
    rw [q0, q1]
  · have hi : i < cntf (s 3 j) (s 4 j) := by omega
    rw [if_neg c, (v2 i hi).1, (v2 i hi).2]
    have q0 : (if nI (jk s j i 0) = nI (jk s j l 0) then 0 else 20) = if jm s j i 0 = jm s j l 0 then 0 else 20 := ite_sw (side_eq I hj hi hl (by decide))
    have q1 : (if nI (jk s j i 1) = nI (jk s j l 1) then 0 else 20) = if jm s j i 1 = jm s j l 1 then 0 else 20 := ite_sw (side_eq I hj hi hl (by decide))
    rw [q0, q1]
theorem cnt_pos {b np : Nat} (w : whl b np) : 0 < cntf b np := by
  obtain ⟨h1, h2⟩ := w
  have := plc_pos b
  unfold cntf
  exact Nat.div_pos (Nat.le_of_dvd h1 (Nat.dvd_of_mod_eq_zero h2)) this.1
theorem Inv.ms (I : Inv S ad n A s m) {md : Nat} (x : RO A A1 md) (hj : j < n.1) (w : whl (s 3 j) (s 4 j)) : MS A1 j (s 3 j) (s 4 j) (jpg s j) (s 1) (s 0 7) (s 0 8) (s 0 9) (cntf (s 3 j) (s 4 j)) := by
  obtain ⟨⟨h1, h2, -, h4⟩, -⟩ := I.vp
  have ho : s 0 9 < 200 := by rcases h4 with w | w; omega; exact isB_lt w
  have hf : ∀ {x f}, mtd x f → f < 1500000 := by
    rintro x f (⟨rfl, -⟩ | ⟨p, a, r, o, rfl, -⟩)
    · decide
    · exact (mq_lt o).2
  obtain ⟨v1, v2⟩ := I.vm
  have h8 := i_lt I hj
  exact ⟨I.mjs x j hj, fun c hc => by rw [x.1 15 (by decide)]; exact v2.2.1 c hc, fun c hc => by have := I.s99 hc; omega, by rw [x.2.1 7 (by decide)]; exact v1.2.2.2.2.2.2.1, hf h1, by rw [x.2.1 8 (by decide)]; exact v1.2.2.2.2.2.2.2.1, hf h2, by rw [x.2.1 9 (by decide)]; exact v1.2.2.2.2.2.2.2.2, ho, rfl, cnt_pos w, by omega⟩
/-- the class's least and the reference's are one -/
theorem least_end (I : Inv S ad n A s m) (hm : m < 512) (hK : nxt ad m K) (hj : j < n.1) (w : whl (s 3 j) (s 4 j)) {v : Nat} (hv : LA (jc s j) 0 (cntf (s 3 j) (s 4 j)) v) {S2 : Mem} {A2 : AM} (k2 : Rel S2 ad n A2) (x2 : RO A A2 (s 0 2)) (h0 : gI A2 14 0 = nI 0) (h29 : gJ A2 29 0 = (nI (bm A (nI (s 3 j)) + v)).toInt64) : wpX7_least S2 (ad 14) (nI j) (fun x7 S5 => isK S5 (ad 14) 7 ∧ wpX7_thrown S5 (ad 14) (cmpJ (ad 29) (nI 0) x7 K P)) := by
  refine mm_least k2 (I.ms x2 hj w) (fr := fun i => jm s j i 0) (bk := fun i => jm s j i 1) (fun _ _ => ⟨rfl, rfl⟩) fun S3 A3 v' k3 x3 hv' => ?_
  have e : v' = v + (if s 3 j = s 0 9 then 0 else 15) := hv'.u hv.sh
  refine cmp_end k3 (x := 0) (by decide) ?_ (fun _ => ?_) (I.go hm hK k3 (x2.tr (RO.xm x3 _)))
  · rw [x3.1 14 (by decide) (by decide) (by decide)]; exact h0
  · rw [x3.2.1, h29, bm_eq I hj, e, Nat.add_comm]
theorem op_leastMakeready (I : Inv S ad n A s m) (hm : m < 512) (hK : nxt ad m K) (hp : ∀ x S1, mcJ (fun S g => wpX7_leastMakeready S (ad 14) p g) ad K P x S1 → post x S1) : wpL_leastMakeready S (ad 0) p (ad 29) post := by
  have hn := I.h.2.2.1
  refine ⟨I.h.k l0, I.h.k l0, sp_completeJob I.h I.cj I.vj (fun j hj e w => ⟨_, rfl, I.h.k l0, sp_loadOrders I.h (jt hj) (I.vj j hj) (st := s 1) (fun c hc => I.vc.co hc) fun S1 A1 k1 e1 vo => ⟨k1.k l0, ad 6, k1.r l0 rfl, k1.jk (jt hj), k1.k (t := 6) LM, ?_⟩⟩) (fun j hj e w => ⟨fun q => absurd q (by decide), fun _ => hp _ _ ?_, Or.inr rfl⟩) (fun z => ⟨fun _ => hp _ _ ?_, fun q => absurd q (by decide), Or.inl rfl⟩)⟩
  · subst e
    have x1 := RO.o e1 (s 0 2)
    rw [k1.ji (jt hj), x1.1 _ (by omega), (I.vj j hj).1]
    refine sp_bindingMinutes k1 ⟨k1.k l0, ad 9, k1.r l0 rfl, k1.k (t := 9) LM, sp_leastForAllSets k1 vo.1 (by have := i_lt I hj; omega) (cnt_pos w) rfl fun S2 A2 v k2 x2 hv => ?_⟩
    have hb : bm A1 (nI (s 3 j)) = bm A (nI (s 3 j)) := by unfold bm; rw [x1.1 6 (by decide)]
    rw [nI_add, hb]
    refine put_out k2 fun S3 k3 => hp _ _ ⟨k3.k l14, k3.k l14, ?_⟩
    have x3 := (x1.tr (RO.e12 x2 _)).tr (RO.out _ _ (nI (bm A (nI (s 3 j)) + v)).toInt64)
    refine mj_yes I k3 x3 hj w fun S4 k4 => ⟨fun q => absurd q n10, fun _ => ⟨k4.k l14, ?_⟩⟩
    refine least_end I hm hK hj w (hv.cg (cg_jc I hj vo) (by have := i_lt I hj; omega)) k4 (x3.tr (RO.thr _ _ _)) (gI_aI _ _ _ _) ?_
    rw [gJ_aI, gJ_aJ]
  · subst e
    exact ⟨I.h.k l14, I.h.k l14, mj_inc I I.h (RO.rf _ (s 0 2)) hj w fun S2 k2 => ⟨fun _ => fail_end I hm hK (x := 2) (by decide) (by decide) k2 (RO.thr _ _ _) (gI_aI _ _ _ _), fun q => absurd t0 q⟩⟩
  · exact ⟨I.h.k l14, I.h.k l14, mj_no I I.h (RO.rf _ (s 0 2)) z fun S2 k2 => ⟨fun _ => fail_end I hm hK (x := 1) (by decide) (by decide) k2 (RO.thr _ _ _) (gI_aI _ _ _ _), fun q => absurd t0 q⟩⟩
theorem op_leastByTrying (I : Inv S ad n A s m) (hm : m < 512) (hK : nxt ad m K) (hp : ∀ x S1, mcJ (fun S g => wpX7_leastByTrying S (ad 14) p g) ad K P x S1 → post x S1) : wpL_leastByTrying S (ad 0) p (ad 29) post := by
  have hn := I.h.2.2.1
  refine ⟨I.h.k l0, I.h.k l0, sp_completeJob I.h I.cj I.vj (fun j hj e w => ⟨_, rfl, I.h.jk (jt hj), sp_sheetCount I.h (jt hj) (I.vj j hj) ⟨fun z => ⟨I.h.k l0, sp_loadOrders I.h (jt hj) (I.vj j hj) (st := s 1) (fun c hc => I.vc.co hc) fun S1 A1 k1 e1 vo => ⟨k1.k l0, ad 6, k1.r l0 rfl, k1.jk (jt hj), k1.k (t := 6) LM, ?_⟩⟩, fun z => ⟨fun q => absurd q (by decide), fun q => absurd q (by decide), fun _ => hp _ _ ?_, Or.inr (Or.inr rfl)⟩⟩⟩) (fun j hj e w => ⟨fun q => absurd q (by decide), fun _ => hp _ _ ?_, fun q => absurd q (by decide), Or.inr (Or.inl rfl)⟩) (fun z => ⟨fun _ => hp _ _ ?_, fun q => absurd q (by decide), fun q => absurd q (by decide), Or.inl rfl⟩)⟩
  · subst e
    have h8 := i_lt I hj
    rw [nI_leI (by omega) (by decide)] at z
    have x1 := RO.o e1 (s 0 2)
    rw [k1.ji (jt hj), x1.1 _ (by omega), (I.vj j hj).1]
    refine sp_bindingMinutes k1 ⟨k1.k l0, ad 9, k1.r l0 rfl, k1.k (t := 9) LM, sp_leastOfAllOrders k1 vo.1 (by omega) (cnt_pos w) rfl fun v hv => ?_⟩
    have hb : bm A1 (nI (s 3 j)) = bm A (nI (s 3 j)) := by unfold bm; rw [x1.1 6 (by decide)]
    rw [nI_add, hb]
    refine put_out k1 fun S3 k3 => hp _ _ ⟨k3.k l14, k3.k l14, ?_⟩
    have x3 := x1.tr (RO.out _ _ (nI (bm A (nI (s 3 j)) + v)).toInt64)
    refine mj_yes I k3 x3 hj w fun S4 k4 => ⟨fun _ => ⟨k4.k l14, mm_count k4 (I.mjs (x3.tr (RO.thr _ _ (nI 0))) j hj) ⟨fun _ => ⟨k4.k l14, ?_⟩, fun z2 => absurd ((nI_leI (by omega) (by decide)).2 z) z2⟩⟩, fun q => absurd q n10⟩
    refine least_end I hm hK hj w (hv.cg (cg_jc I hj vo) (by omega)) k4 (x3.tr (RO.thr _ _ _)) (gI_aI _ _ _ _) ?_
    rw [gJ_aI, gJ_aJ]
  · subst e
    refine ⟨I.h.k l14, I.h.k l14, mj_yes I I.h (RO.rf _ (s 0 2)) hj w fun S2 k2 => ⟨fun _ => ⟨k2.k l14, mm_count k2 (I.mjs (RO.thr A (s 0 2) (nI 0)) j hj) ⟨fun z2 => absurd z2 z, fun _ => ⟨k2.k l14, mm_fails k2 fun S3 k3 => ?_⟩⟩⟩, fun q => absurd q n10⟩⟩
    exact fail_end I hm hK (x := 3) (by decide) (by decide) k3 (thr1 _ _ _ _) (gI_aI _ _ _ _)
  · subst e
    exact ⟨I.h.k l14, I.h.k l14, mj_inc I I.h (RO.rf _ (s 0 2)) hj w fun S2 k2 => ⟨fun q => absurd t0 q, fun _ => fail_end I hm hK (x := 2) (by decide) (by decide) k2 (RO.thr _ _ _) (gI_aI _ _ _ _)⟩⟩
  · exact ⟨I.h.k l14, I.h.k l14, mj_no I I.h (RO.rf _ (s 0 2)) z fun S2 k2 => ⟨fun q => absurd t0 q, fun _ => fail_end I hm hK (x := 1) (by decide) (by decide) k2 (RO.thr _ _ _) (gI_aI _ _ _ _)⟩⟩
end
