/-! ===== approve ===== -/
section
variable {S : Mem} {ad : Nat → Nat} {A A' : AM} {n : Nat × Nat} {s : Sta} {m : Nat} {K P : Mem → Prop} {post : Int32 → Mem → Prop} {p q r : Int32}
theorem nb1 : vp_nar .boolean (nI 1) = nI 1 := by decide
theorem nb0 : vp_nar .boolean (nI 0) = nI 0 := by decide
theorem nar01 {a : Nat} (h : a ≤ 1) : vz_nar (nI a) := by
  rcases Nat.le_one_iff_eq_zero_or_eq_one.1 h with rfl | rfl
  · exact nar0
  · exact nar1
/-- approve's answers are compared as 0 and 1 -/
def cmpA (a : Nat) (x y : Int32) (K P : Mem → Prop) : Int32 → Mem → Prop := fun x41 S39 => (x41 = x → ((¬ x = 0 → K S39) ∧ (x = 0 → (isK S39 a 12 ∧ (vp_in (nI 0) (mN S39 a) ∧ ((y = 0 → (((lg_cmp (mJ S39 a (nI 0).toNatClampNeg) (0 : Int64)) = 0 → K S39) ∧ (¬ (lg_cmp (mJ S39 a (nI 0).toNatClampNeg) (0 : Int64)) = 0 → P S39))) ∧ (¬ y = 0 → (((lg_cmp (mJ S39 a (nI 0).toNatClampNeg) (1 : Int64)) = 0 → K S39) ∧ (¬ (lg_cmp (mJ S39 a (nI 0).toNatClampNeg) (1 : Int64)) = 0 → P S39))))))))) ∧ (¬ x41 = x → P S39)
def mcA (F : Mem → (Int32 → Mem → Prop) → Prop) (ad : Nat → Nat) (K P : Mem → Prop) (x : Int32) (S1 : Mem) : Prop := isK S1 (ad 14) 7 ∧ F S1 (fun y S2 => isK S2 (ad 14) 7 ∧ wpX7_thrown S2 (ad 14) (cmpA (ad 29) x y K P))
theorem cmpA_of {x : Int32} {a : Nat} (ha : a ≤ 1) (h : isK S (ad 14) 7 ∧ wpX7_thrown S (ad 14) (cmpJ (ad 29) x (nI a) K P)) : isK S (ad 14) 7 ∧ wpX7_thrown S (ad 14) (cmpA (ad 29) x (nI a) K P) := by
  obtain ⟨h1, h2, h3, h4⟩ := h
  refine ⟨h1, h2, fun z => ⟨(h3 z).1, fun y => ?_⟩, h4⟩
  obtain ⟨g1, g2, g3⟩ := (h3 z).2 y
  refine ⟨g1, g2, fun w => ?_, fun w => ?_⟩
  · rw [w] at g3; exact g3
  · have e : a = 1 := by
      rcases Nat.le_one_iff_eq_zero_or_eq_one.1 ha with v | v
      · exact absurd (by rw [v]; rfl) w
      · exact v
    subst e
    exact g3
theorem op_approve (I : Inv S ad n A s m) (hm : m < 512) (hK : nxt ad m K) (hp : ∀ x S1, mcA (fun S g => wpX7_approve S (ad 14) p g) ad K P x S1 → post x S1) : wpL_approve S (ad 0) p (ad 29) post := by
  have hn := I.nc
  refine ⟨I.h.k l0, I.h.k l0, sp_requireContent I.h I.vc.1.1 hn (fun c hc e => ?_) (fun z => ⟨fun _ => hp _ _ ?_, rfl⟩)⟩
  · subst e
    have h12 : c < 12 := by omega
    have ha := I.vc.2.2.2.1 c h12
    have ha1 : s 2 c ≤ 1 := (I.vb.2.1 c h12).2.1
    have fin : ∀ S2 v, v = (nI (s 2 c)).toInt64 → Rel S2 ad n (aJ (aI A 3 c (nI 1)) 29 0 v) → mcA (fun S g => wpX7_approve S (ad 14) (nI c) g) ad K P (nI 0) S2 := by
      intro S2 v hv k2
      have e14 : gI (aJ (aI A 3 c (nI 1)) 29 0 v) 14 = gI A 14 := (congrFun (gI_aJ _ _ _ _) 14).trans (gI_aIu _ _ _ _ _ (by decide))
      refine ⟨k2.k l14, k2.k l14, mm_isContent k2 (by rw [e14]; exact I.vm.1.1) hn (fun c' hc' e' S3 k3 => ⟨fun _ => ⟨k3.k l14, ?_⟩, fun z => absurd z n10⟩) (fun z => absurd ((inr_nI (by omega)).2 hc) z)⟩
      obtain ⟨e1, e2⟩ := rd k3 (t := 20) (k := c) (by decide) (show c < 12 by omega)
      refine ⟨ad 20, k3.r l14 rfl, k3.k (t := 20) LM, e1, ?_⟩
      intro x9 e9
      rw [e2, gI_aIu _ _ _ _ _ (by decide), gI_aJ, gI_aIu _ _ _ _ _ (by decide), I.vm.2.2.2.1 c h12] at e9
      subst e9
      refine ⟨e1, ?_⟩
      rintro S11 rfl
      rw [nb1, nI_clamp (by omega)]
      have k4 := k3.sI (LM (t := 20)) c (nI 1)
      refine ⟨nar01 ha1, cmpA_of ha1 (cmp_end k4 (x := 0) (by decide) ?_ (fun _ => ?_) (hK _ _ n _ (up2 s 2 c 1) ⟨k4, ?_, ?_, ?_, ?_⟩ fun _ _ => rfl))⟩
      · rw [gI_aIu _ _ _ _ _ (by decide), gI_aI]
      · rw [gJ_aI, gJ_aI, gJ_aJ, hv]
      · have vc := I.vc
        simp only [VC, VJ, VL, gI_if, gI_aJ, gJ_aI, gJ_if, s_if, Nat.reduceEqDiff, false_and, and_false, if_false, if_true, and_self, true_and, hj40, hl60, Nat.reduceLT] at vc ⊢
        obtain ⟨v1, v2, v3, v4, v5⟩ := vc
        refine ⟨v1, v2, v3, fun c' hc' => ?_, v5⟩
        split
        · rfl
        · exact v4 c' hc'
      · have vm := I.vm
        simp only [VM, gI_if, gI_aJ, gJ_aI, gJ_if, s_if, Nat.reduceEqDiff, false_and, and_false, if_false, if_true, and_self, true_and, hj40, hl60, Nat.reduceLT] at vm ⊢
        obtain ⟨v1, v2, v3, v4, v5⟩ := vm
        refine ⟨v1, v2, v3, fun c' hc' => ?_, v5⟩
        split
        · rfl
        · exact v4 c' hc'
      · have vb := I.vb
        have e12 : up2 s 2 c 1 12 = s 12 := s_fn (by decide)
        simp only [VB, e12, s_if, Nat.reduceEqDiff, false_and, and_false, if_false, if_true, and_self, true_and, hj40, hl60, Nat.reduceLT] at vb ⊢
        obtain ⟨⟨b1, b2, b3, b4, b5, b6, b7, b8⟩, b9, b10⟩ := vb
        refine ⟨⟨by omega, by omega, b3, by omega, by omega, by omega, by omega, by omega⟩, fun c' hc' => ⟨(b9 c' hc').1, ?_, (b9 c' hc').2.2⟩, b10⟩
        split
        · decide
        · exact (b9 c' hc').2.1
      · have vp := I.vp
        simp only [VP, gI_if, gI_aJ, s_if, Nat.reduceEqDiff, false_and, and_false, if_false, if_true, and_self, true_and, hj40, hl60, Nat.reduceLT] at vp ⊢
        exact vp
    refine ⟨I.h.k l0, ad 1, I.h.r l0 rfl, I.h.k (t := 1) LM, sp_isApproved I.h h12 ha ha1 ⟨I.h.k l0, ad 1, I.h.r l0 rfl, I.h.k (t := 1) LM, sp_setApproved I.h (a := 1) h12 (by decide) fun S1 k1 => ⟨nar01 ha1, fun z => ?_, fun z => ?_⟩⟩⟩
    · exact put_out k1 fun S2 k2 => hp _ _ (fin S2 _ (by rw [z]; rfl) k2)
    · have e1 : s 2 c = 1 := by
        rcases Nat.le_one_iff_eq_zero_or_eq_one.1 ha1 with w | w
        · exact absurd (by rw [w]; rfl) z
        · exact w
      exact put_out k1 fun S2 k2 => hp _ _ (fin S2 _ (by rw [e1]; decide) k2)
  · refine ⟨I.h.k l14, I.h.k l14, mm_isContent I.h I.vm.1.1 hn (fun c' hc' e' S2 k2 => absurd ((inr_nI (by omega)).2 hc') (e' ▸ z)) (fun z S2 k2 => ⟨fun q => absurd t0 q, fun _ => ⟨nar0, ?_⟩⟩)⟩
    exact cmpA_of (a := 0) (by decide) (fail_end I hm hK (x := 1) (by decide) (by decide) k2 (RO.thr _ _ _) (gI_aI _ _ _ _))
end
