/-! ===== addContent, approve, state ===== -/
section
variable {S : Mem} {ad : Nat → Nat} {A A' : AM} {n : Nat × Nat} {s : Sta} {m : Nat} {K P : Mem → Prop} {post : Int32 → Mem → Prop}
/-- the reference's turn, and the comparison -/
def mcJ (F : Mem → (Int32 → Mem → Prop) → Prop) (ad : Nat → Nat) (K P : Mem → Prop) (x : Int32) (S1 : Mem) : Prop := isK S1 (ad 14) 7 ∧ F S1 (fun y S2 => isK S2 (ad 14) 7 ∧ wpX7_thrown S2 (ad 14) (cmpJ (ad 29) x y K P))
/-- what the loop goes on with -/
def nxt (ad : Nat → Nat) (m : Nat) (K : Mem → Prop) : Prop := ∀ S' ad' n' A' s', Inv S' ad' n' A' s' (m + 1) → (∀ t, t < 31 → ad' t = ad t) → K S'
theorem Inv.h (I : Inv S ad n A s m) : Rel S ad n A := I.1
theorem Inv.vc (I : Inv S ad n A s m) : VC A n s := I.2.1
theorem Inv.vm (I : Inv S ad n A s m) : VM A n s := I.2.2.1
theorem Inv.vb (I : Inv S ad n A s m) : VB n s m := I.2.2.2.1
theorem Inv.vp (I : Inv S ad n A s m) : VP A s := I.2.2.2.2
theorem Inv.nc (I : Inv S ad n A s m) : s 0 0 ≤ 12 := I.vb.1.1
theorem op_state (I : Inv S ad n A s m) (hm : m < 512) (hK : nxt ad m K) {p : Int32} (hp : ∀ x S1, mcJ (fun S q => wpX7_state S (ad 14) p q) ad K P x S1 → post x S1) : wpL_state S (ad 0) p (ad 29) post := by
  have hn := I.nc
  have go : ∀ {S' A'}, Rel S' ad n A' → RO A A' (s 0 2) → K S' := fun h x => hK _ _ _ _ _ (I.ro h x (Nat.le_refl _) (by omega) (by omega)) fun _ _ => rfl
  refine ⟨I.h.k l0, I.h.k l0, sp_requireContent I.h I.vc.1.1 hn (fun c hc e => ?_) (fun z => ⟨fun _ => hp _ _ ?_, rfl⟩)⟩
  · subst e
    refine ⟨I.h.k l0, ad 1, I.h.r l0 rfl, I.h.k (t := 1) LM, sp_stateOf I.h (by omega) (put_out I.h fun S1 k1 => hp _ _ ⟨k1.k l14, k1.k l14, mm_isContent k1 I.vm.1.1 hn (fun c' hc' e' S2 k2 => ⟨fun z => absurd z n10, fun _ => ?_⟩) (fun z => absurd ((inr_nI (by omega)).2 hc) z)⟩)⟩
    obtain ⟨e1, e2⟩ := rd k2 (t := 15) (k := c) (by decide) (show c < 12 by omega)
    refine ⟨k2.k l14, ad 15, k2.r l14 rfl, k2.k (t := 15) LM, e1, ?_⟩
    rw [e2, gI_aIu _ _ _ _ _ (by decide)]
    refine cmp_end k2 (x := 0) (by decide) (gI_aI _ _ _ _) (fun _ => ?_) (go k2 ((RO.out _ _ _).tr (RO.thr _ _ _)))
    rw [gJ_aI, gJ_aJ, I.vc.co (by omega)]
    show _ = (gI A 15 c).toInt64
    rw [I.vm.2.2.1 c (by omega)]
  · refine ⟨I.h.k l14, I.h.k l14, mm_isContent I.h I.vm.1.1 hn (fun c' hc' e' S2 k2 => absurd ((inr_nI (by omega)).2 hc') (e' ▸ z)) (fun z S2 k2 => ⟨fun _ => ?_, fun q => absurd t0 q⟩)⟩
    exact cmp_end k2 (x := 1) (by decide) (gI_aI _ _ _ _) (fun q => by omega) (go k2 (RO.thr _ _ _))
/-- a number of the state -/
theorem s_ne {s : Sta} {t k v u w : Nat} (h : u ≠ t ∨ w ≠ k) : up2 s t k v u w = s u w := by
  by_cases q : u = t
  · subst q; exact up2_nk (by omega)
  · rw [up2_ne q]
theorem gI_if (A : AM) (t k u j : Nat) (v : Int32) : gI (aI A t k v) u j = if u = t ∧ j = k then v else gI A u j := by
  by_cases q : u = t
  · subst q
    by_cases y : j = k
    · subst y; rw [gI_aI, if_pos ⟨rfl, rfl⟩]
    · rw [gI_aIk _ _ _ _ _ y, if_neg (fun z => y z.2)]
  · rw [gI_aIu _ _ _ _ _ q, if_neg (fun z => q z.1)]
theorem gJ_if (A : AM) (t k u j : Nat) (v : Int64) : gJ (aJ A t k v) u j = if u = t ∧ j = k then v else gJ A u j := by
  by_cases q : u = t
  · subst q
    by_cases y : j = k
    · subst y; rw [gJ_aJ, if_pos ⟨rfl, rfl⟩]
    · rw [if_neg (fun z => y z.2)]; exact up2_nk y
  · rw [gJ_aJu _ _ _ _ _ q, if_neg (fun z => q z.1)]
theorem s_if (s : Sta) (t k u j v : Nat) : up2 s t k v u j = if u = t ∧ j = k then v else s u j := by
  by_cases q : u = t
  · subst q
    by_cases y : j = k
    · subst y; rw [up2_eq, if_pos ⟨rfl, rfl⟩]
    · rw [if_neg (fun z => y z.2)]; exact up2_nk y
  · rw [up2_ne q, if_neg (fun z => q z.1)]
theorem hj40 {j a : Nat} (h : a < 40) : (40 + 3 * j = a) = False := by simp only [eq_iff_iff, iff_false]; omega
theorem hl60 {j a : Nat} (h : a < 60) : (60 + 3 * j = a) = False := by simp only [eq_iff_iff, iff_false]; omega
theorem s_fn {s : Sta} {t k v u : Nat} (h : u ≠ t) : up2 s t k v u = s u := up2_ne h
theorem op_addContent (I : Inv S ad n A s m) (hm : m < 512) (hK : nxt ad m K) (hp : ∀ x S1, mcJ (fun S q => wpX7_addContent S (ad 14) q) ad K P x S1 → post x S1) : wpL_addContent S (ad 0) (ad 29) post := by
  have hn := I.nc
  have go : ∀ {S' A'}, Rel S' ad n A' → RO A A' (s 0 2) → K S' := fun h x => hK _ _ _ _ _ (I.ro h x (Nat.le_refl _) (by omega) (by omega)) fun _ _ => rfl
  refine ⟨I.h.k l0, I.h.k l0, ad 1, I.h.r l0 rfl, I.h.k (t := 1) LM, ?_⟩
  rw [I.h.i (t := 1) LM, I.vc.1.1]
  refine ⟨fun z => ⟨I.h.k (t := 1) LM, ?_⟩, fun z => ⟨fun _ => hp _ _ ?_, rfl⟩⟩
  · rw [nI_ltI (by omega) (by decide)] at z
    rw [I.h.i (t := 1) LM, I.vc.1.1]
    rintro x2 rfl S3 rfl
    rw [nI_add]
    have k3 := I.h.sI (LM (t := 1)) 3 (nI (s 0 0 + 1))
    rw [k3.i (t := 1) LM, gI_aI, pk_sub (by omega), Nat.add_sub_cancel]
    refine put_out k3 fun S1 k1 => hp _ _ ⟨k1.k l14, k1.k l14, ?_⟩
    rw [k1.i l14]
    have e14 : gI (aJ (aI A 1 3 (nI (s 0 0 + 1))) 29 0 (nI (s 0 0)).toInt64) 14 = gI A 14 := (congrFun (gI_aJ _ _ _ _) 14).trans (gI_aIu _ _ _ _ _ (by decide))
    rw [e14, I.vm.1.1]
    refine ⟨fun _ => ?_, fun w => ?_⟩
    · rintro T3 rfl
      have k4 := k1.sI l14 0 (nI 0)
      rintro x4 rfl
      rw [k4.i l14, gI_aIk _ _ _ _ _ (by decide), e14, I.vm.1.1, nI_add]
      rintro T5 rfl
      have k5 := k4.sI l14 1 (nI (s 0 0 + 1))
      rw [k5.i l14, gI_aI, pk_sub (by omega), Nat.add_sub_cancel]
      refine cmp_end k5 (x := 0) (by decide) ?_ (fun _ => ?_) (hK _ _ n _ (up2 s 0 0 (s 0 0 + 1)) ⟨k5, ?_, ?_, ?_, ?_⟩ fun _ _ => rfl)
      · rw [gI_aIk _ _ _ _ _ (by decide), gI_aI]
      · rw [gJ_aI, gJ_aI, gJ_aJ]
      · have vc := I.vc
        simp only [VC, VJ, VL, gI_if, gI_aJ, gJ_aI, gJ_if, s_if, Nat.reduceEqDiff, false_and, and_false, if_false, if_true, and_self, true_and, hj40, hl60, Nat.reduceLT] at vc ⊢
        exact ⟨vc.1.2, vc.2⟩
      · have vm := I.vm
        simp only [VM, gI_if, gI_aJ, gJ_aI, gJ_if, s_if, Nat.reduceEqDiff, false_and, and_false, if_false, if_true, and_self, true_and, hj40, hl60, Nat.reduceLT] at vm ⊢
        exact ⟨vm.1.2, vm.2⟩
      · have vb := I.vb
        have e12 : up2 s 0 0 (s 0 0 + 1) 12 = s 12 := s_fn (by decide)
        simp only [VB, e12, s_if, Nat.reduceEqDiff, false_and, and_false, if_false, if_true, and_self, true_and, hj40, hl60, Nat.reduceLT] at vb ⊢
        obtain ⟨⟨b1, b2, b3, b4, b5, b6, b7, b8⟩, b9, b10, b11, b12, b13, b14⟩ := vb
        exact ⟨⟨by omega, by omega, b3, by omega, by omega, by omega, by omega, by omega⟩, b9, b10, b11, b12, fun j hj k hk => Nat.lt_succ_of_lt (b13 j hj k hk), b14⟩
      · have vp := I.vp
        simp only [VP, gI_if, gI_aJ, s_if, Nat.reduceEqDiff, false_and, and_false, if_false, if_true, and_self, true_and, hj40, hl60, Nat.reduceLT] at vp ⊢
        exact vp
    · rw [nI_eq (by omega) (by decide)] at w; omega
  · rw [nI_ltI (by omega) (by decide)] at z
    refine ⟨I.h.k l14, I.h.k l14, ?_⟩
    rw [I.h.i l14, I.vm.1.1, nI_eq (by omega) (by decide)]
    exact ⟨fun w => by omega, fun _ => mm_fails I.h fun S2 k2 => cmp_end k2 (x := 1) (by decide) (gI_aI _ _ _ _) (fun q => by omega) (go k2 (RO.thr _ _ _))⟩
end
