/-! ===== wasteShare, meanMakeready ===== -/
section
variable {S S1 S' : Mem} {ad : Nat → Nat} {A A' A1 : AM} {n : Nat × Nat} {s : Sta} {m : Nat} {K P : Mem → Prop} {post : Int32 → Mem → Prop}
/-- what is owed of the floating numbers -/
def FPok : Prop := (∀ x y : Int64, y ≠ 0 → vf_n32 (FP.fdiv (FP.l2f x) (FP.l2f y)) ∧ vf_n64 (FP.f2d (FP.fdiv (FP.l2f x) (FP.l2f y))) ∧ Op.cmpValue (FP.dcmp (FP.f2d (FP.fdiv (FP.l2f x) (FP.l2f y))) (FP.f2d (FP.fdiv (FP.l2f x) (FP.l2f y)))) CmpOp.l = 0) ∧
  (∀ x y : Int64, y ≠ 0 → vf_n64 (FP.ddiv (FP.l2d x) (FP.l2d y)) ∧ Op.cmpValue (FP.dcmp (FP.ddiv (FP.l2d x) (FP.l2d y)) (FP.ddiv (FP.l2d x) (FP.l2d y))) CmpOp.l = 0) ∧ (∀ x : Int32, FP.i2d x = FP.l2d x.toInt64)
def cmpW (a : Nat) (x : Int32) (v : UInt32) (K P : Mem → Prop) (R : UInt32 → Mem → Prop) : Int32 → Mem → Prop := fun x447 S445 => (x447 = x → ((¬ x = 0 → K S445) ∧ (x = 0 → (isK S445 a 13 ∧ (vp_in (nI 0) (mN S445 a) ∧ (vf_n64 (FP.f2d v) ∧ (((Op.cmpValue (FP.dcmp (mD S445 a (nI 0).toNatClampNeg) (FP.f2d v)) CmpOp.l) = 0 → K S445) ∧ (¬ (Op.cmpValue (FP.dcmp (mD S445 a (nI 0).toNatClampNeg) (FP.f2d v)) CmpOp.l) = 0 → R v S445)))))))) ∧ (¬ x447 = x → P S445)
def cmpM (a : Nat) (x : Int32) (v : UInt64) (K P : Mem → Prop) (R : UInt64 → Mem → Prop) : Int32 → Mem → Prop := fun x447 S445 => (x447 = x → ((¬ x = 0 → K S445) ∧ (x = 0 → (isK S445 a 13 ∧ (vp_in (nI 0) (mN S445 a) ∧ (((Op.cmpValue (FP.dcmp (mD S445 a (nI 0).toNatClampNeg) v) CmpOp.l) = 0 → K S445) ∧ (¬ (Op.cmpValue (FP.dcmp (mD S445 a (nI 0).toNatClampNeg) v) CmpOp.l) = 0 → R v S445))))))) ∧ (¬ x447 = x → P S445)
theorem lN_ne {a : Nat} (h : a < 2147483648) (h0 : a ≠ 0) : lN a ≠ (0 : Int64) := by
  intro e
  have e2 : lN a = lN 0 := e
  rw [lN_eq (by omega) (by decide)] at e2
  exact h0 e2
theorem lg_pos {a : Nat} (h : a < 2147483648) (h0 : a ≠ 0) : lg_cmp (lN a) (0 : Int64) = 1 := by
  have h1 : (0 : Int64) < lN a := (lN_lt (a := 0) (b := a) (by decide) (by omega)).2 (by omega)
  unfold lg_cmp
  have h2 : ¬ lN a < (0 : Int64) := fun z => by
    have := (lN_lt (a := a) (b := 0) (by omega) (by decide)).1 z
    omega
  have h3 := lN_ne h h0
  simp [h1, h2, h3]
theorem lg_z : lg_cmp (lN 0) (0 : Int64) = 0 := lg_same _
theorem l30 : live n 30 := live_lt (by decide)
theorem RO.outD (A : AM) (md : Nat) (v : UInt64) : RO A (aD A 30 0 v) md := ⟨fun _ _ => rfl, fun _ _ => rfl, fun _ _ => rfl, fun _ _ => rfl⟩
theorem gD_aD (A : AM) (t k : Nat) (v : UInt64) : gD (aD A t k v) t k = v := up2_eq
theorem gD_aI (A : AM) (t k : Nat) (v : Int32) : gD (aI A t k v) = gD A := rfl
theorem put_outD (k : Rel S ad n A) {v : UInt64} {post : Mem → Prop} (hq : ∀ S', Rel S' ad n (aD A 30 0 v) → post S') : isK S (ad 30) 13 ∧ (vp_in (nI 0) (mN S (ad 30)) ∧ (∀ S8 : Mem, S8 = (sD S (ad 30) (nI 0).toNatClampNeg v) → post S8)) := by
  refine ⟨k.k l30, ?_, ?_⟩
  · rw [k.len l30]; exact vp_in_nI (show 0 < 1 by decide) (by decide)
  · rintro S8 rfl
    rw [nI_clamp (by decide)]
    exact hq _ (k.sD l30 0 v)
theorem cmpW_end (k : Rel S ad n A) {x : Nat} {v : UInt32} {R : UInt32 → Mem → Prop} (hx : x < 10) (ht : gI A 14 0 = nI x) (hr : x = 0 → gD A 30 0 = FP.f2d v ∧ vf_n64 (FP.f2d v) ∧ Op.cmpValue (FP.dcmp (FP.f2d v) (FP.f2d v)) CmpOp.l = 0) (hK : K S) : isK S (ad 14) 7 ∧ wpX7_thrown S (ad 14) (cmpW (ad 30) (nI x) v K P R) := by
  refine ⟨k.k l14, k.k l14, ?_⟩
  rw [k.i l14, ht]
  refine ⟨fun _ => ⟨fun _ => hK, fun z => ⟨k.k l30, ?_, ?_⟩⟩, fun z => absurd rfl z⟩
  · rw [k.len l30]; exact vp_in_nI (show 0 < 1 by decide) (by decide)
  · rw [i0, nI_eq (by omega) (by decide)] at z
    obtain ⟨h1, h2, h3⟩ := hr z
    rw [nI_clamp (by decide), k.d l30, h1]
    exact ⟨h2, fun _ => hK, fun q => absurd h3 q⟩
theorem cmpM_end (k : Rel S ad n A) {x : Nat} {v : UInt64} {R : UInt64 → Mem → Prop} (hx : x < 10) (ht : gI A 14 0 = nI x) (hr : x = 0 → gD A 30 0 = v ∧ Op.cmpValue (FP.dcmp v v) CmpOp.l = 0) (hK : K S) : isK S (ad 14) 7 ∧ wpX7_thrown S (ad 14) (cmpM (ad 30) (nI x) v K P R) := by
  refine ⟨k.k l14, k.k l14, ?_⟩
  rw [k.i l14, ht]
  refine ⟨fun _ => ⟨fun _ => hK, fun z => ⟨k.k l30, ?_, ?_⟩⟩, fun z => absurd rfl z⟩
  · rw [k.len l30]; exact vp_in_nI (show 0 < 1 by decide) (by decide)
  · rw [i0, nI_eq (by omega) (by decide)] at z
    obtain ⟨h1, h3⟩ := hr z
    rw [nI_clamp (by decide), k.d l30, h1]
    exact ⟨fun _ => hK, fun q => absurd h3 q⟩
theorem op_wasteShare (F : FPok) (I : Inv S ad n A s m) (hm : m < 512) (hK : nxt ad m K) {R : UInt32 → Mem → Prop} (hp : ∀ x S1, (isK S1 (ad 14) 7 ∧ (wpX7_wasteShare S1 (ad 14) (fun v S2 => isK S2 (ad 14) 7 ∧ wpX7_thrown S2 (ad 14) (cmpW (ad 30) x v K P R)))) → post x S1) : wpL_wasteShare S (ad 0) (ad 30) post := by
  have hb := I.vb.1
  have e9 : mJ S (ad 0) 9 = lN (s 0 6) := by rw [I.h.j l0]; exact I.vc.2.1.2.1
  have e8 : mJ S (ad 0) 8 = lN (s 0 5) := by rw [I.h.j l0]; exact I.vc.2.1.1
  have f11 : gJ A 14 11 = lN (s 0 6) := I.vm.2.1.2
  have f10 : gJ A 14 10 = lN (s 0 5) := I.vm.2.1.1
  refine ⟨I.h.k l0, I.h.k l0, ?_⟩
  rw [e9, e8]
  by_cases c : s 0 6 = 0
  · rw [c, lg_z]
    refine ⟨fun z => absurd z (by decide), fun _ => ⟨fun _ => hp _ _ ⟨I.h.k l14, I.h.k l14, ?_⟩, rfl⟩⟩
    rw [I.h.j l14, f11, c, lg_z]
    refine ⟨fun z => absurd rfl z, fun _ => ?_⟩
    rintro S6 rfl
    have k2 := I.h.sI l14 0 (nI 1)
    rw [k2.j l14, gJ_aI, f11, c, lg_z]
    exact ⟨fun z => absurd rfl z, fun _ => cmpW_end k2 (x := 1) (by decide) (gI_aI _ _ _ _) (fun q => absurd q (by decide)) (I.go hm hK k2 (RO.thr _ _ _))⟩
  · have lp := lg_pos (a := s 0 6) (by omega) c
    obtain ⟨h1, h2, h3⟩ := F.1 (lN (s 0 5)) (lN (s 0 6)) (lN_ne (by omega) c)
    rw [lp]
    refine ⟨fun _ => ⟨h1, h2, put_outD I.h fun S1 k1 => hp _ _ ⟨k1.k l14, k1.k l14, ?_⟩⟩, fun z => absurd (by decide) z⟩
    have g11 : gJ (aD A 30 0 (FP.f2d (FP.fdiv (FP.l2f (lN (s 0 5))) (FP.l2f (lN (s 0 6)))))) 14 11 = lN (s 0 6) := f11
    have g10 : gJ (aD A 30 0 (FP.f2d (FP.fdiv (FP.l2f (lN (s 0 5))) (FP.l2f (lN (s 0 6)))))) 14 10 = lN (s 0 5) := f10
    rw [k1.j l14, g11, lp]
    refine ⟨fun _ => ?_, fun z => absurd z (by decide)⟩
    rintro S3 rfl
    have k2 := k1.sI l14 0 (nI 0)
    rw [k2.j l14, k2.j l14, gJ_aI, g11, g10, lp]
    refine ⟨fun _ => ⟨h1, ?_⟩, fun z => absurd z (by decide)⟩
    exact cmpW_end k2 (x := 0) (by decide) (gI_aI _ _ _ _) (fun _ => ⟨by rw [gD_aI]; exact gD_aD _ _ _ _, h2, h3⟩) (I.go hm hK k2 ((RO.outD _ _ _).tr (RO.thr _ _ _)))
theorem op_meanMakeready (F : FPok) (I : Inv S ad n A s m) (hm : m < 512) (hK : nxt ad m K) {R : UInt64 → Mem → Prop} (hp : ∀ x S1, (isK S1 (ad 14) 7 ∧ (wpX7_meanMakeready S1 (ad 14) (fun v S2 => isK S2 (ad 14) 7 ∧ wpX7_thrown S2 (ad 14) (cmpM (ad 30) x v K P R)))) → post x S1) : wpL_meanMakeready S (ad 0) (ad 30) post := by
  have hb := I.vb.1
  have e10 : mJ S (ad 0) 10 = lN (s 0 3) := by rw [I.h.j l0]; exact I.vc.2.1.2.2.1
  have e11 : mJ S (ad 0) 11 = lN (s 0 4) := by rw [I.h.j l0]; exact I.vc.2.1.2.2.2
  have f5 : gI A 14 5 = nI (s 0 3) := I.vm.1.2.2.2.2.1
  have f6 : gI A 14 6 = nI (s 0 4) := I.vm.1.2.2.2.2.2.1
  refine ⟨I.h.k l0, I.h.k l0, ?_⟩
  rw [e10, e11]
  by_cases c : s 0 3 = 0
  · rw [c, lg_z]
    refine ⟨fun z => absurd z (by decide), fun _ => ⟨fun _ => hp _ _ ⟨I.h.k l14, I.h.k l14, ?_⟩, rfl⟩⟩
    rw [I.h.i l14, f5, c]
    refine ⟨fun z => absurd rfl z, fun _ => ?_⟩
    rintro S6 rfl
    have k2 := I.h.sI l14 0 (nI 1)
    have e5 : mI (sI S (ad 14) 0 (nI 1)) (ad 14) 5 = nI 0 := by rw [k2.i l14, gI_aIk _ _ _ _ _ (by decide), f5, c]
    rw [e5]
    exact ⟨fun z => absurd rfl z, fun _ => cmpM_end k2 (x := 1) (by decide) (gI_aI _ _ _ _) (fun q => absurd q (by decide)) (I.go hm hK k2 (RO.thr _ _ _))⟩
  · have lp := lg_pos (a := s 0 3) (by omega) c
    obtain ⟨h1, h3⟩ := F.2.1 (lN (s 0 4)) (lN (s 0 3)) (lN_ne (by omega) c)
    have nz : ¬ nI (s 0 3) = (0 : Int32) := fun z => c ((nI_eq (by omega) (by decide)).1 z)
    have iv : FP.ddiv (FP.i2d (nI (s 0 4))) (FP.i2d (nI (s 0 3))) = FP.ddiv (FP.l2d (lN (s 0 4))) (FP.l2d (lN (s 0 3))) := by
      rw [F.2.2, F.2.2, i2l (by omega), i2l (by omega)]
    rw [lp]
    refine ⟨fun _ => ⟨h1, put_outD I.h fun S1 k1 => hp _ _ ⟨k1.k l14, k1.k l14, ?_⟩⟩, fun z => absurd (by decide) z⟩
    have g5 : gI (aD A 30 0 (FP.ddiv (FP.l2d (lN (s 0 4))) (FP.l2d (lN (s 0 3))))) 14 5 = nI (s 0 3) := f5
    have g6 : gI (aD A 30 0 (FP.ddiv (FP.l2d (lN (s 0 4))) (FP.l2d (lN (s 0 3))))) 14 6 = nI (s 0 4) := f6
    rw [k1.i l14, g5]
    refine ⟨fun _ => ?_, fun z => absurd z nz⟩
    rintro S3 rfl
    have k2 := k1.sI l14 0 (nI 0)
    have v5 : mI (sI S1 (ad 14) 0 (nI 0)) (ad 14) 5 = nI (s 0 3) := by rw [k2.i l14, gI_aIk _ _ _ _ _ (by decide), g5]
    have v6 : mI (sI S1 (ad 14) 0 (nI 0)) (ad 14) 6 = nI (s 0 4) := by rw [k2.i l14, gI_aIk _ _ _ _ _ (by decide), g6]
    rw [v5, v6, iv]
    refine ⟨fun _ => ⟨h1, ?_⟩, fun z => absurd z nz⟩
    exact cmpM_end k2 (x := 0) (by decide) (gI_aI _ _ _ _) (fun _ => ⟨by rw [gD_aI]; exact gD_aD _ _ _ _, h3⟩) (I.go hm hK k2 ((RO.outD _ _ _).tr (RO.thr _ _ _)))
end
