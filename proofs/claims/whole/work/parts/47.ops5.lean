/-! ===== stateIn, stateByReplay, lacks ===== -/
section
variable {S S1 : Mem} {ad : Nat → Nat} {A A' A1 : AM} {n : Nat × Nat} {s : Sta} {m : Nat} {K P : Mem → Prop} {post : Int32 → Mem → Prop} {p q r : Int32} {l k md : Nat}
theorem Inv.lv (I : Inv S ad n A s m) (hl : l < n.2) : VL A (60 + 3 * l) (s 9 l) (s 10 l) (s 13 l) (fun k => s 5 (16 * s 8 l + k)) (fun k => s 11 (16 * l + k)) := I.vc.2.2.2.2.2.2 l hl
theorem lotB (I : Inv S ad n A s m) (hl : l < n.2) : s 8 l < n.1 ∧ s 10 l ≤ s 4 (s 8 l) ∧ s 9 l ≤ 500 ∧ s 13 l ≤ s 0 1 ∧ ∀ k, k < s 10 l → s 11 (16 * l + k) = cl (s 12) (s 5 (16 * s 8 l + k)) (s 13 l) := I.vb.2.2.2.2.2.2.2.2 l hl
theorem Inv.lm (I : Inv S ad n A s m) (hl : l < n.2) : gI A 25 l = nI (s 8 l) ∧ gI A 26 l = nI (s 9 l) ∧ gI A 27 l = nI (s 10 l) ∧ ∀ k, k < s 10 l → gI A 28 (16 * l + k) = nI (s 11 (16 * l + k)) := I.vm.2.2.2.2.2.2.2.2.2 l hl
theorem Inv.l16 (I : Inv S ad n A s m) (hl : l < n.2) : s 10 l ≤ 16 := by
  have b := lotB I hl
  have h4 : s 8 l < 4 := by have := I.h.2.2.1; omega
  have := I.vb.2.2.2.2.1 _ h4
  omega
theorem ml_lot (I : Inv S ad n A s m) (k1 : Rel S1 ad n A1) (x : RO A A1 md) (h1 : ∀ l, l < n.2 → p = nI l → post (nI 1) S1) (h0 : ¬ inr p n.2 → post (nI 0) S1) : wpX7_in S1 p (nI 0) ((mI S1 (ad 14) 3) - (nI 1)) post := by
  have hn := I.h.2.2.2
  rw [k1.i l14, x.2.1 3 (by decide), I.vm.1.2.2.1]
  exact mm_inN (by omega) h1 h0
theorem mst_yes (I : Inv S ad n A s m) (k1 : Rel S1 ad n A1) (x : RO A A1 md) (hl : l < n.2) (h1 : 1 ≤ k) (h2 : k ≤ s 10 l) (h : ∀ S2, Rel S2 ad n (aI A1 14 0 (nI 0)) → post (nI (s 11 (16 * l + (k - 1)))) S2) : wpX7_stateIn S1 (ad 14) (nI l) (nI k) post := by
  have hn := I.h.2.2.2
  have h16 := I.l16 hl
  refine ⟨k1.k l14, ml_lot I k1 x (fun l' hl' e => ⟨fun _ => ⟨k1.k l14, ?_⟩, fun z => absurd z n10⟩) (fun z => absurd ((inr_nI (by omega)).2 hl) z)⟩
  obtain ⟨e1, e2⟩ := rd k1 (t := 27) (k := l) (by decide) (show l < 100 by omega)
  refine ⟨ad 27, k1.r l14 rfl, k1.k (t := 27) LM, e1, ?_⟩
  rw [e2, x.1 27 (by decide), (I.lm hl).2.2.1]
  refine mm_in (fun _ => ⟨fun _ => ⟨k1.k l14, ?_⟩, fun z => absurd z n10⟩) (fun z => absurd ?_ z)
  · rintro S13 rfl
    have k2 := k1.sI l14 0 (nI 0)
    obtain ⟨f1, f2⟩ := rd k2 (t := 28) (k := 16 * l + (k - 1)) (by decide) (show 16 * l + (k - 1) < 1600 by omega)
    refine ⟨ad 28, k2.r l14 rfl, k2.k (t := 28) LM, ?_⟩
    rw [pk_mul, nI_add, pk_sub (by omega), Nat.add_sub_assoc h1]
    refine ⟨f1, ?_⟩
    rw [f2, gI_aIu _ _ _ _ _ (by decide), x.1 28 (by decide), (I.lm hl).2.2.2 _ (by omega)]
    exact h _ k2
  · rw [nI_toInt (by decide), nI_toInt (by omega), nI_toInt (by omega)]
    omega
theorem mst_2 (I : Inv S ad n A s m) (k1 : Rel S1 ad n A1) (x : RO A A1 md) (hl : l < n.2) (z : ¬ (1 ≤ q.toInt ∧ q.toInt ≤ s 10 l)) (h : ∀ S2, Rel S2 ad n (aI A1 14 0 (nI 2)) → post (nI 0) S2) : wpX7_stateIn S1 (ad 14) (nI l) q post := by
  have hn := I.h.2.2.2
  have h16 := I.l16 hl
  refine ⟨k1.k l14, ml_lot I k1 x (fun l' hl' e => ⟨fun _ => ⟨k1.k l14, ?_⟩, fun z => absurd z n10⟩) (fun z => absurd ((inr_nI (by omega)).2 hl) z)⟩
  obtain ⟨e1, e2⟩ := rd k1 (t := 27) (k := l) (by decide) (show l < 100 by omega)
  refine ⟨ad 27, k1.r l14 rfl, k1.k (t := 27) LM, e1, ?_⟩
  rw [e2, x.1 27 (by decide), (I.lm hl).2.2.1]
  refine mm_in (fun w => absurd ?_ z) (fun _ => ⟨fun w => absurd t0 w, fun _ => ⟨k1.k l14, mm_fails k1 h⟩⟩)
  rw [nI_toInt (by decide), nI_toInt (by omega)] at w
  exact w
theorem mst_1 (I : Inv S ad n A s m) (k1 : Rel S1 ad n A1) (x : RO A A1 md) (z : ¬ inr p n.2) (h : ∀ S2, Rel S2 ad n (aI A1 14 0 (nI 1)) → post (nI 0) S2) : wpX7_stateIn S1 (ad 14) p q post :=
  ⟨k1.k l14, ml_lot I k1 x (fun l' hl' e => absurd ((inr_nI (by have := I.h.2.2.2; omega)).2 hl') (e ▸ z)) (fun _ => ⟨fun w => absurd t0 w, fun _ => ⟨k1.k l14, mm_fails k1 h⟩⟩)⟩
theorem op_stateIn (I : Inv S ad n A s m) (hm : m < 512) (hK : nxt ad m K) (hp : ∀ x S1, mcJ (fun S g => wpX7_stateIn S (ad 14) p q g) ad K P x S1 → post x S1) : wpL_stateIn S (ad 0) p q (ad 29) post := by
  refine ⟨I.h.k l0, I.h.k l0, sp_existingLot I.h I.cl (fun l hl e => ⟨_, rfl, sp_requirePage I.h (ltt hl) (I.lv hl) (fun k h1 h2 e2 => ⟨I.h.lk (ltt hl), ?_⟩) (fun z => ⟨fun q => absurd q (by decide), fun _ => hp _ _ ?_, Or.inr rfl⟩)⟩) (fun z => ⟨fun _ => hp _ _ ?_, fun q => absurd q (by decide), Or.inl rfl⟩)⟩
  · subst e
    subst e2
    refine sp_keptState I.h (ltt hl) (I.lv hl) h1 h2 (put_out I.h fun S1 k1 => hp _ _ ⟨k1.k l14, mst_yes I k1 (RO.out _ (s 0 2) _) hl h1 h2 fun S2 k2 => ?_⟩)
    refine cmp_end k2 (x := 0) (by decide) (gI_aI _ _ _ _) (fun _ => ?_) (I.go hm hK k2 ((RO.out _ _ _).tr (RO.thr _ _ _)))
    rw [gJ_aI, gJ_aJ]
  · subst e
    exact ⟨I.h.k l14, mst_2 I I.h (RO.rf _ (s 0 2)) hl z fun S2 k2 => fail_end I hm hK (x := 2) (by decide) (by decide) k2 (RO.thr _ _ _) (gI_aI _ _ _ _)⟩
  · exact ⟨I.h.k l14, mst_1 I I.h (RO.rf _ (s 0 2)) z fun S2 k2 => fail_end I hm hK (x := 1) (by decide) (by decide) k2 (RO.thr _ _ _) (gI_aI _ _ _ _)⟩
theorem op_stateByReplay (I : Inv S ad n A s m) (hm : m < 512) (hK : nxt ad m K) (hp : ∀ x S1, mcJ (fun S g => wpX7_stateByReplay S (ad 14) p q g) ad K P x S1 → post x S1) : wpL_stateByReplay S (ad 0) p q (ad 29) post := by
  refine ⟨I.h.k l0, I.h.k l0, sp_existingLot I.h I.cl (fun l hl e => ⟨_, rfl, sp_requirePage I.h (ltt hl) (I.lv hl) (fun k h1 h2 e2 => ⟨I.h.k l0, ad 1, I.h.r l0 rfl, I.h.lk (ltt hl), ?_⟩) (fun z => ⟨fun q => absurd q (by decide), fun _ => hp _ _ ?_, Or.inr rfl⟩)⟩) (fun z => ⟨fun _ => hp _ _ ?_, fun q => absurd q (by decide), Or.inl rfl⟩)⟩
  · subst e
    subst e2
    obtain ⟨b1, b2, b3, b4, b5⟩ := lotB I hl
    have h4 : s 8 l < 4 := by have := I.h.2.2.1; omega
    have hc : s 5 (16 * s 8 l + (k - 1)) < 12 := Nat.lt_of_lt_of_le (I.vb.2.2.2.2.2.1 _ h4 (k - 1) (by omega)) I.nc
    have hlog : ∀ i, i < s 13 l → gI A 4 i = nI (s 12 i) ∧ s 12 i < 12 := fun i hi => ⟨I.vc.2.2.2.2.1 i (by omega), I.vb.2.2.1 i (by omega)⟩
    refine sp_lotContentOf I.h (ltt hl) (I.lv hl) h1 h2 ⟨I.h.k (t := 1) LM, ?_⟩
    rw [I.h.li (ltt hl), (I.lv hl).2.2.1]
    refine sp_stateAfter I.h (by have := I.vb.1.2.1; omega) hlog hc (put_out I.h fun S1 k1 => hp _ _ ⟨k1.k l14, k1.k l14, mst_yes I k1 (RO.out _ (s 0 2) _) hl h1 h2 fun S2 k2 => ?_⟩)
    refine cmp_end k2 (x := 0) (by decide) (gI_aI _ _ _ _) (fun _ => ?_) (I.go hm hK k2 ((RO.out _ _ _).tr (RO.thr _ _ _)))
    rw [gJ_aI, gJ_aJ, b5 (k - 1) (by omega)]
  · subst e
    exact ⟨I.h.k l14, I.h.k l14, mst_2 I I.h (RO.rf _ (s 0 2)) hl z fun S2 k2 => fail_end I hm hK (x := 2) (by decide) (by decide) k2 (RO.thr _ _ _) (gI_aI _ _ _ _)⟩
  · exact ⟨I.h.k l14, I.h.k l14, mst_1 I I.h (RO.rf _ (s 0 2)) z fun S2 k2 => fail_end I hm hK (x := 1) (by decide) (by decide) k2 (RO.thr _ _ _) (gI_aI _ _ _ _)⟩
end
