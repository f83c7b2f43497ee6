/-! ===== pages, sheets, plates, lots, waste ===== -/
section
variable {S : Mem} {ad : Nat → Nat} {A A' : AM} {n : Nat × Nat} {s : Sta} {m : Nat} {K P : Mem → Prop} {post : Int32 → Mem → Prop}
theorem Inv.go (I : Inv S ad n A s m) (hm : m < 512) (hK : nxt ad m K) {S' : Mem} {md : Nat} (h : Rel S' ad n A') (x : RO A A' md) (hmd : s 0 2 ≤ md := by exact Nat.le_refl _) : K S' := hK _ _ _ _ _ (I.ro h x hmd (by omega) (by omega)) fun _ _ => rfl
theorem Inv.vj (I : Inv S ad n A s m) : ∀ j, j < n.1 → VJ A (40 + 3 * j) (s 3 j) (s 4 j) (fun k => s 5 (16 * j + k)) (fun i => s 6 (8 * j + i)) := I.vc.2.2.2.2.2.1
theorem Inv.cj (I : Inv S ad n A s m) : gI A 0 6 = nI n.1 := I.vc.1.2.2.1
theorem Inv.mj (I : Inv S ad n A s m) : ∀ j, j < n.1 → MJ A j (s 3 j) (s 4 j) (fun k => s 5 (16 * j + k)) := by
  intro j hj
  have h4 : j < 4 := by have := I.h.2.2.1; omega
  obtain ⟨-, -, -, -, a5, a6, a7, -⟩ := I.vm
  obtain ⟨b1, -, -, b4, b5, b6, -⟩ := I.vb
  exact ⟨h4, a5 j hj, b4 j hj, a6 j h4, b5 j h4, fun k hk => ⟨a7 j h4 k hk, Nat.lt_of_lt_of_le (b6 j h4 k hk) b1.1⟩⟩
/-- the reference's jobs, whatever was thrown or put out -/
theorem MJ.q {j b np : Nat} {pg : Nat → Nat} (v : MJ A j b np pg) {md : Nat} (x : RO A A' md) : MJ A' j b np pg := v.ex (x.1 16 (by decide)) (x.1 17 (by decide)) (x.1 18 (by decide))
theorem Inv.mv (I : Inv S ad n A s m) : gI A 14 2 = nI n.1 := I.vm.1.2.1
theorem op_pages (I : Inv S ad n A s m) (hm : m < 512) (hK : nxt ad m K) {p : Int32} (hp : ∀ x S1, mcJ (fun S q => wpX7_pages S (ad 14) p q) ad K P x S1 → post x S1) : wpL_pages S (ad 0) p (ad 29) post := by
  have hn := I.h.2.2.1
  refine ⟨I.h.k l0, I.h.k l0, sp_existingJob I.h I.cj (fun j hj e => ⟨_, rfl, I.h.jk (jt hj), ?_⟩) (fun z => ⟨fun _ => hp _ _ ?_, rfl⟩)⟩
  · subst e
    rw [I.h.ji (jt hj), (I.vj j hj).2.2.1]
    refine put_out I.h fun S1 k1 => hp _ _ ⟨k1.k l14, k1.k l14, ?_⟩
    have x1 : RO A (aJ A 29 0 (nI (s 4 j)).toInt64) (s 0 2) := RO.out _ _ _
    rw [k1.i l14, x1.2.1 2 (by decide), I.mv]
    refine mm_inN (by omega) (fun k hk e => ⟨fun _ => ⟨k1.k l14, ?_⟩, fun z => absurd z n10⟩) (fun z => absurd ((inr_nI (by omega)).2 hj) z)
    rintro S6 rfl
    have k2 := k1.sI l14 0 (nI 0)
    have x2 := x1.tr (RO.thr _ _ (nI 0))
    obtain ⟨e1, e2⟩ := rd k2 (t := 17) (k := j) (by decide) (show j < 4 by omega)
    refine ⟨ad 17, k2.r l14 rfl, k2.k (t := 17) LM, e1, ?_⟩
    rw [e2, x2.1 17 (by decide), (I.mj j hj).2.2.2.1]
    refine cmp_end k2 (x := 0) (by decide) (gI_aI _ _ _ _) (fun _ => ?_) (I.go hm hK k2 x2)
    rw [gJ_aI, gJ_aJ]
  · refine ⟨I.h.k l14, I.h.k l14, ?_⟩
    rw [I.h.i l14, I.mv]
    refine mm_inN (by omega) (fun k hk e => absurd ((inr_nI (by omega)).2 hk) (e ▸ z)) (fun _ => ⟨fun q => absurd t0 q, fun _ => ⟨I.h.k l14, mm_fails I.h fun S2 k2 => ?_⟩⟩)
    exact cmp_end k2 (x := 1) (by decide) (gI_aI _ _ _ _) (fun q => by omega) (I.go hm hK k2 (RO.thr _ _ _))
theorem op_sheets (I : Inv S ad n A s m) (hm : m < 512) (hK : nxt ad m K) {p : Int32} (hp : ∀ x S1, mcJ (fun S q => wpX7_sheets S (ad 14) p q) ad K P x S1 → post x S1) : wpL_sheets S (ad 0) p (ad 29) post := by
  have hn := I.h.2.2.1
  refine ⟨I.h.k l0, I.h.k l0, sp_completeJob I.h I.cj I.vj (fun j hj e w => ⟨_, rfl, I.h.jk (jt hj), sp_sheetCount I.h (jt hj) (I.vj j hj) ?_⟩) (fun j hj e w => ⟨fun q => absurd q (by decide), fun _ => hp _ _ ?_, Or.inr rfl⟩) (fun z => ⟨fun _ => hp _ _ ?_, fun q => absurd q (by decide), Or.inl rfl⟩)⟩
  · subst e
    refine put_out I.h fun S1 k1 => hp _ _ ⟨k1.k l14, k1.k l14, ?_⟩
    have x1 : RO A (aJ A 29 0 (nI (cntf (s 3 j) (s 4 j))).toInt64) (s 0 2) := RO.out _ _ _
    refine mm_isJob k1 (by rw [x1.2.1 2 (by decide)]; exact I.mv) (fun j hj => (I.mj j hj).q x1) (fun j' hj' e' w' S2 k2 => ⟨fun q => absurd q n10, fun _ => ?_⟩) (fun j' hj' e' w' => ?_) (fun z => absurd ((inr_nI (by omega)).2 hj) z)
    · have x2 := x1.tr (RO.thr _ _ (nI 0))
      refine ⟨k2.k l14, mm_count k2 ((I.mj j hj).q x2) ?_⟩
      refine cmp_end k2 (x := 0) (by decide) (gI_aI _ _ _ _) (fun _ => ?_) (I.go hm hK k2 x2)
      rw [gJ_aI, gJ_aJ]
    · rw [nI_eq (by omega) (by omega)] at e'
      subst e'
      exact absurd w w'
  · subst e
    refine ⟨I.h.k l14, I.h.k l14, mm_isJob I.h I.mv I.mj (fun j' hj' e' w' => ?_) (fun j' hj' e' w' S2 k2 => ⟨fun _ => ?_, fun q => absurd t0 q⟩) (fun z => absurd ((inr_nI (by omega)).2 hj) z)⟩
    · rw [nI_eq (by omega) (by omega)] at e'
      subst e'
      exact absurd w' w
    · exact cmp_end k2 (x := 2) (by decide) (gI_aI _ _ _ _) (fun q => by omega) (I.go hm hK k2 (RO.thr _ _ _))
  · refine ⟨I.h.k l14, I.h.k l14, mm_isJob I.h I.mv I.mj (fun j' hj' e' w' => absurd ((inr_nI (by omega)).2 hj') (e' ▸ z)) (fun j' hj' e' w' => absurd ((inr_nI (by omega)).2 hj') (e' ▸ z)) (fun _ S2 k2 => ⟨fun _ => ?_, fun q => absurd t0 q⟩)⟩
    exact cmp_end k2 (x := 1) (by decide) (gI_aI _ _ _ _) (fun q => by omega) (I.go hm hK k2 (RO.thr _ _ _))
theorem op_waste (I : Inv S ad n A s m) (hm : m < 512) (hK : nxt ad m K) : isK S (ad 0) 6 ∧ (wpX6_waste S (ad 0) (fun x S1 => isK S1 (ad 14) 7 ∧ (wpX7_waste S1 (ad 14) (fun y S2 => ((lg_cmp x y) = 0 → K S2) ∧ (¬ (lg_cmp x y) = 0 → P S2))))) := by
  refine ⟨I.h.k l0, I.h.k l0, I.h.k l14, I.h.k l14, ?_⟩
  rintro S2 rfl
  have k2 := I.h.sI l14 0 (nI 0)
  rw [I.h.j l0, k2.j l14, gJ_aI, I.vc.2.1.1, I.vm.2.1.1, lg_same]
  exact ⟨fun _ => I.go hm hK k2 (RO.thr A (s 0 2) _), fun q => absurd rfl q⟩
end
