/-! ===== calls that leave all as it was; how an answer is compared ===== -/
section
variable {S : Mem} {ad : Nat → Nat} {A A' B : AM} {n : Nat × Nat} {s : Sta} {m : Nat}
/-- nothing but scratch cells and answers differs -/
def RO (A A' : AM) (md : Nat) : Prop :=
  (∀ t, t < 9 ∨ t = 13 ∨ (15 ≤ t ∧ t < 21) ∨ 25 ≤ t → gI A' t = gI A t) ∧ (∀ k, k ≠ 0 → gI A' 14 k = gI A 14 k) ∧ (∀ k, k < md → gI A' 21 k = gI A 21 k) ∧ (∀ t, t ≠ 29 → gJ A' t = gJ A t)
theorem RO.rf (A : AM) (md : Nat) : RO A A md := ⟨fun _ _ => rfl, fun _ _ => rfl, fun _ _ => rfl, fun _ _ => rfl⟩
theorem RO.tr {md : Nat} (h : RO A A' md) (k : RO A' B md) : RO A B md :=
  ⟨fun t ht => (k.1 t ht).trans (h.1 t ht), fun t ht => (k.2.1 t ht).trans (h.2.1 t ht), fun t ht => (k.2.2.1 t ht).trans (h.2.2.1 t ht), fun t ht => (k.2.2.2 t ht).trans (h.2.2.2 t ht)⟩
theorem RO.thr (A : AM) (md : Nat) (v : Int32) : RO A (aI A 14 0 v) md :=
  ⟨fun t ht => gI_aIu _ _ _ _ _ (by omega), fun k hk => gI_aIk _ _ _ _ _ hk, fun k _ => congrFun (gI_aIu _ _ _ _ _ (by decide)) k, fun _ _ => rfl⟩
theorem gI_aJ (A : AM) (t k : Nat) (v : Int64) : gI (aJ A t k v) = gI A := rfl
theorem gJ_aJ (A : AM) (t k : Nat) (v : Int64) : gJ (aJ A t k v) t k = v := up2_eq
theorem gJ_aJu (A : AM) (t w k : Nat) (v : Int64) (h : w ≠ t) : gJ (aJ A t k v) w = gJ A w := up2_ne h
theorem gJ_aI (A : AM) (t k : Nat) (v : Int32) : gJ (aI A t k v) = gJ A := rfl
theorem RO.out (A : AM) (md : Nat) (v : Int64) : RO A (aJ A 29 0 v) md :=
  ⟨fun _ _ => rfl, fun _ _ => rfl, fun _ _ => rfl, fun t ht => gJ_aJu _ _ _ _ _ ht⟩
theorem Inv.ro {S' : Mem} {md m' : Nat} (I : Inv S ad n A s m) (h : Rel S' ad n A') (x : RO A A' md) (hmd : s 0 2 ≤ md) (h1 : m ≤ m') (h2 : m' ≤ 512) : Inv S' ad n A' s m' := by
  obtain ⟨-, vc, vm, vb, vp⟩ := I
  obtain ⟨x1, x2, x3, x4⟩ := x
  refine ⟨h, ?_, ?_, ?_, ?_⟩
  · unfold VC
    rw [x1 1 (by decide), x1 0 (by decide), x1 7 (by decide), x4 0 (by decide), x1 2 (by decide), x1 3 (by decide), x1 4 (by decide)]
    refine ⟨vc.1, vc.2.1, vc.2.2.1, vc.2.2.2.1, vc.2.2.2.2.1, fun j hj => ?_, fun l hl => ?_⟩
    · exact (vc.2.2.2.2.2.1 j hj).ex (x1 _ (by omega)) (x1 _ (by omega)) (x1 _ (by omega))
    · have := vc.2.2.2.2.2.2 l hl
      unfold VL
      rw [x1 _ (by omega), x1 _ (by omega), x1 _ (by omega)]
      exact this
  · unfold VM
    rw [x2 1 (by decide), x2 2 (by decide), x2 3 (by decide), x2 4 (by decide), x2 5 (by decide), x2 6 (by decide), x2 7 (by decide), x2 8 (by decide), x2 9 (by decide), x4 14 (by decide), x1 15 (by decide), x1 16 (by decide), x1 17 (by decide), x1 18 (by decide), x1 19 (by decide), x1 20 (by decide), x1 25 (by decide), x1 26 (by decide), x1 27 (by decide), x1 28 (by decide)]
    obtain ⟨a1, a2, a3, a4, a5, a6, a7, a8, a9, a10⟩ := vm
    exact ⟨a1, a2, a3, a4, a5, a6, a7, a8, fun k hk => (x3 k (by omega)).trans (a9 k hk), a10⟩
  · obtain ⟨⟨b1, b2, b3, b4, b5, b6, b7, b8⟩, b9⟩ := vb
    exact ⟨⟨b1, by omega, b3, by omega, by omega, by omega, by omega, h2⟩, b9⟩
  · unfold VP
    rw [x1 6 (by decide), x1 8 (by decide)]
    exact vp
/-- the end of a call whose answer is an int -/
def cmpJ (a : Nat) (x y : Int32) (K P : Mem → Prop) : Int32 → Mem → Prop := fun x24 S22 => (x24 = x → ((¬ x = 0 → K S22) ∧ (x = 0 → (isK S22 a 12 ∧ (vp_in (nI 0) (mN S22 a) ∧ (((lg_cmp (mJ S22 a (nI 0).toNatClampNeg) y.toInt64) = 0 → K S22) ∧ (¬ (lg_cmp (mJ S22 a (nI 0).toNatClampNeg) y.toInt64) = 0 → P S22))))))) ∧ (¬ x24 = x → P S22)
theorem lg_same (v : Int64) : lg_cmp v v = 0 := by unfold lg_cmp; simp
theorem l29 : live n 29 := live_lt (by decide)
theorem l14 : live n 14 := live_lt (by decide)
theorem l0 : live n 0 := live_lt (by decide)
theorem cmp_end (k : Rel S ad n A) {x : Nat} {y : Int32} {K P : Mem → Prop} (hx : x < 10) (ht : gI A 14 0 = nI x) (hr : x = 0 → gJ A 29 0 = y.toInt64) (hK : K S) : isK S (ad 14) 7 ∧ wpX7_thrown S (ad 14) (cmpJ (ad 29) (nI x) y K P) := by
  refine ⟨k.k l14, k.k l14, ?_⟩
  rw [k.i l14, ht]
  refine ⟨fun _ => ⟨fun _ => hK, fun z => ⟨k.k l29, ?_, ?_⟩⟩, fun z => absurd rfl z⟩
  · rw [k.len l29]; exact vp_in_nI (show 0 < 1 by decide) (by decide)
  · rw [i0, nI_eq (by omega) (by decide)] at z
    rw [nI_clamp (by decide), k.j l29, hr z, lg_same]
    exact ⟨fun _ => hK, fun q => absurd rfl q⟩
/-- an answer is put -/
theorem put_out (k : Rel S ad n A) {v : Int64} {post : Mem → Prop} (hq : ∀ S', Rel S' ad n (aJ A 29 0 v) → post S') : isK S (ad 29) 12 ∧ (vp_in (nI 0) (mN S (ad 29)) ∧ (∀ S8 : Mem, S8 = (sJ S (ad 29) (nI 0).toNatClampNeg v) → post S8)) := by
  refine ⟨k.k l29, ?_, ?_⟩
  · rw [k.len l29]; exact vp_in_nI (show 0 < 1 by decide) (by decide)
  · rintro S8 rfl
    rw [nI_clamp (by decide)]
    exact hq _ (k.sJ l29 0 v)
theorem VC.co (v : VC A n s) {c : Nat} (hc : c < 12) : gI A 2 c = nI (s 1 c) := v.2.2.1 c hc
end
