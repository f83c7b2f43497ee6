/-! ===== pageAt, copies, plates, lots, makeready, leastMakeready ===== -/
section
variable {S : Mem} {ad : Nat → Nat} {A A' : AM} {n : Nat × Nat} {s : Sta} {m : Nat} {K P : Mem → Prop} {post : Int32 → Mem → Prop} {p q r : Int32}
theorem Inv.cl (I : Inv S ad n A s m) : gI A 0 7 = nI n.2 := I.vc.1.2.2.2.1
theorem op_pageAt (I : Inv S ad n A s m) (hm : m < 512) (hK : nxt ad m K) (hp : ∀ x S1, mcJ (fun S g => wpX7_pageAt S (ad 14) p q r g) ad K P x S1 → post x S1) : wpL_pageAt S (ad 0) p q r (ad 29) post := by
  have hn := I.h.2.2.1
  have m3 : ∀ j i, j < n.1 → whl (s 3 j) (s 4 j) → i < cntf (s 3 j) (s 4 j) → ¬ inr r (plc (s 3 j)) → mcJ (fun S g => wpX7_pageAt S (ad 14) (nI j) (nI i) r g) ad K P (nI 3) S := by
    intro j i hj w hi z
    have hpl := plc_pos (s 3 j)
    refine ⟨I.h.k l14, I.h.k l14, ms_yes I I.h (RO.rf _ (s 0 2)) hj w hi fun S2 k2 => ⟨fun _ => ⟨k2.k l14, mm_places k2 (I.mjs (RO.thr A (s 0 2) _) j hj) (mm_inN (by omega) (fun k hk e => absurd ((inr_nI (by omega)).2 hk) (e ▸ z)) (fun _ => ⟨fun _ => ⟨k2.k l14, mm_fails k2 fun S3 k3 => ?_⟩, fun q => absurd t0 q⟩))⟩, fun q => absurd q n10⟩⟩
    exact fail_end I hm hK (x := 3) (by decide) (by decide) k3 (thr1 _ _ _ _) (gI_aI _ _ _ _)
  refine ⟨I.h.k l0, I.h.k l0, sp_completeJob I.h I.cj I.vj (fun j hj e w => ⟨_, rfl, sp_requireSheet I.h (jt hj) (I.vj j hj) (fun i hi e2 => ?_) (fun z => ⟨fun q => absurd q (by decide), fun q => absurd q (by decide), fun _ => hp _ _ ?_, Or.inr (Or.inr rfl)⟩)⟩) (fun j hj e w => ⟨fun q => absurd q (by decide), fun _ => hp _ _ ?_, fun q => absurd q (by decide), Or.inr (Or.inl rfl)⟩) (fun z => ⟨fun _ => hp _ _ ?_, fun q => absurd q (by decide), fun q => absurd q (by decide), Or.inl rfl⟩)⟩
  · subst e
    subst e2
    have hpl := plc_pos (s 3 j)
    refine ⟨fun z => ⟨fun q => absurd q (by decide), fun q => absurd q (by decide), fun _ => hp _ _ (m3 j i hj w hi (not_inr0 z)), Or.inr (Or.inr rfl)⟩, fun z => ⟨I.h.jk (jt hj), sp_placeCount I.h (jt hj) (I.vj j hj) ⟨fun z2 => ⟨I.h.jk (jt hj), ?_⟩, fun z2 => ⟨fun q => absurd q (by decide), fun q => absurd q (by decide), fun _ => hp _ _ (m3 j i hj w hi (not_inr2 z2 (by omega))), Or.inr (Or.inr rfl)⟩⟩⟩⟩
    obtain ⟨k, hk, rfl, -⟩ := inr_of (inr_lt z z2 (by omega))
    refine sp_pageOn I.h (jt hj) (I.vj j hj) hi hk (put_out I.h fun S1 k1 => hp _ _ ⟨k1.k l14, k1.k l14, ms_yes I k1 (RO.out _ (s 0 2) _) hj w hi fun S2 k2 => ⟨fun _ => ⟨k2.k l14, ?_⟩, fun q => absurd q n10⟩⟩)
    have x2 := (RO.out A (s 0 2) (nI (pgOn (s 3 j) (s 4 j) i k)).toInt64).tr (RO.thr _ _ (nI 0))
    refine mm_places k2 (I.mjs x2 j hj) (mm_inN (by omega) (fun k' hk' e => ⟨fun q => absurd q n10, fun _ => ⟨k2.k l14, mm_pageOn k2 (I.mjs x2 j hj) hi hk ?_⟩⟩) (fun z => absurd ((inr_nI (by omega)).2 hk) z))
    refine cmp_end k2 (x := 0) (by decide) (gI_aI _ _ _ _) (fun _ => ?_) (I.go hm hK k2 x2)
    rw [gJ_aI, gJ_aJ]
  · subst e
    exact ⟨I.h.k l14, I.h.k l14, ms_3 I I.h (RO.rf _ (s 0 2)) hj w z fun S2 k2 => ⟨fun q => absurd t0 q, fun _ => fail_end I hm hK (x := 3) (by decide) (by decide) k2 (thr1 _ _ _ _) (gI_aI _ _ _ _)⟩⟩
  · subst e
    exact ⟨I.h.k l14, I.h.k l14, ms_2 I I.h (RO.rf _ (s 0 2)) hj w fun S2 k2 => ⟨fun q => absurd t0 q, fun _ => fail_end I hm hK (x := 2) (by decide) (by decide) k2 (RO.thr _ _ _) (gI_aI _ _ _ _)⟩⟩
  · exact ⟨I.h.k l14, I.h.k l14, ms_1 I I.h (RO.rf _ (s 0 2)) z fun S2 k2 => ⟨fun q => absurd t0 q, fun _ => fail_end I hm hK (x := 1) (by decide) (by decide) k2 (RO.thr _ _ _) (gI_aI _ _ _ _)⟩⟩
theorem op_copies (I : Inv S ad n A s m) (hm : m < 512) (hK : nxt ad m K) (hp : ∀ x S1, mcJ (fun S g => wpX7_copies S (ad 14) p g) ad K P x S1 → post x S1) : wpL_copies S (ad 0) p (ad 29) post := by
  have hn := I.h.2.2.2
  refine ⟨I.h.k l0, I.h.k l0, sp_existingLot I.h I.cl (fun l hl e => ⟨_, rfl, I.h.lk (ltt hl), ?_⟩) (fun z => ⟨fun _ => hp _ _ ?_, rfl⟩)⟩
  · subst e
    have v := I.vc.2.2.2.2.2.2 l hl
    rw [I.h.li (ltt hl), v.1]
    refine put_out I.h fun S1 k1 => hp _ _ ⟨k1.k l14, k1.k l14, ?_⟩
    have x1 : RO A (aJ A 29 0 (nI (s 9 l)).toInt64) (s 0 2) := RO.out _ _ _
    rw [k1.i l14, x1.2.1 3 (by decide), I.vm.1.2.2.1]
    refine mm_inN (by omega) (fun k hk e => ⟨fun _ => ⟨k1.k l14, ?_⟩, fun z => absurd z n10⟩) (fun z => absurd ((inr_nI (by omega)).2 hl) z)
    rintro S6 rfl
    have k2 := k1.sI l14 0 (nI 0)
    have x2 := x1.tr (RO.thr _ _ (nI 0))
    obtain ⟨e1, e2⟩ := rd k2 (t := 26) (k := l) (by decide) (show l < 100 by omega)
    refine ⟨ad 26, k2.r l14 rfl, k2.k (t := 26) LM, e1, ?_⟩
    rw [e2, x2.1 26 (by decide), (I.vm.2.2.2.2.2.2.2.2.2 l hl).2.1]
    refine cmp_end k2 (x := 0) (by decide) (gI_aI _ _ _ _) (fun _ => ?_) (I.go hm hK k2 x2)
    rw [gJ_aI, gJ_aJ]
  · refine ⟨I.h.k l14, I.h.k l14, ?_⟩
    rw [I.h.i l14, I.vm.1.2.2.1]
    refine mm_inN (by omega) (fun k hk e => absurd ((inr_nI (by omega)).2 hk) (e ▸ z)) (fun _ => ⟨fun q => absurd t0 q, fun _ => ⟨I.h.k l14, mm_fails I.h fun S2 k2 => ?_⟩⟩)
    exact cmp_end k2 (x := 1) (by decide) (gI_aI _ _ _ _) (fun q => by omega) (I.go hm hK k2 (RO.thr _ _ _))
theorem op_lots (I : Inv S ad n A s m) (hm : m < 512) (hK : nxt ad m K) : isK S (ad 0) 6 ∧ (wpX6_lots S (ad 0) (fun x S1 => isK S1 (ad 14) 7 ∧ (wpX7_lots S1 (ad 14) (fun y S2 => (x = y → K S2) ∧ (¬ x = y → P S2))))) := by
  refine ⟨I.h.k l0, I.h.k l0, I.h.k l14, I.h.k l14, ?_⟩
  rintro S2 rfl
  have k2 := I.h.sI l14 0 (nI 0)
  have x2 := RO.thr A (s 0 2) (nI 0)
  rw [I.h.i l0, k2.i l14, x2.2.1 3 (by decide), I.vm.1.2.2.1, I.cl]
  exact ⟨fun _ => I.go hm hK k2 x2, fun q => absurd rfl q⟩
theorem op_plates (I : Inv S ad n A s m) (hm : m < 512) (hK : nxt ad m K) : isK S (ad 0) 6 ∧ (wpX6_plates S (ad 0) (fun x S1 => isK S1 (ad 14) 7 ∧ (wpX7_plates S1 (ad 14) (fun y S2 => (x = y → K S2) ∧ (¬ x = y → P S2))))) := by
  refine ⟨I.h.k l0, I.h.k l0, ad 7, I.h.r l0 rfl, I.h.k (t := 7) LM, I.h.k l14, I.h.k l14, ?_⟩
  rintro S2 rfl
  have k2 := I.h.sI l14 0 (nI 0)
  have x2 := RO.thr A (s 0 2) (nI 0)
  rw [I.h.i (t := 7) LM, k2.i l14, x2.2.1 4 (by decide), I.vm.1.2.2.2.1, I.vc.1.2.2.2.2]
  exact ⟨fun _ => I.go hm hK k2 x2, fun q => absurd rfl q⟩
end
