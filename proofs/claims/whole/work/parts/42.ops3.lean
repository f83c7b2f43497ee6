/-! ===== whether a job, a sheet is there: both sides; stock, pageAt, lacks, copies ===== -/
section
variable {S S1 : Mem} {ad : Nat → Nat} {A A1 A' : AM} {n : Nat × Nat} {s : Sta} {m md : Nat} {K P : Mem → Prop} {post : Int32 → Mem → Prop} {j : Nat} {p : Int32}
theorem j_eq (I : Inv S ad n A s m) {j' : Nat} (hj : j < n.1) (hj' : j' < n.1) (e : nI j = nI j') : j = j' := by
  have := I.h.2.2.1
  rwa [nI_eq (by omega) (by omega)] at e
theorem j_no (I : Inv S ad n A s m) (hj : j < n.1) {Q : Prop} (z : ¬ inr (nI j) n.1) : Q := by
  have := I.h.2.2.1
  exact absurd ((inr_nI (by omega)).2 hj) z
theorem Inv.mjs (I : Inv S ad n A s m) (x : RO A A1 md) : ∀ j, j < n.1 → MJ A1 j (s 3 j) (s 4 j) (fun k => s 5 (16 * j + k)) := fun j hj => (I.mj j hj).q x
theorem Inv.mvs (I : Inv S ad n A s m) (x : RO A A1 md) : gI A1 14 2 = nI n.1 := by rw [x.2.1 2 (by decide)]; exact I.mv
theorem mj_yes (I : Inv S ad n A s m) (k1 : Rel S1 ad n A1) (x : RO A A1 md) (hj : j < n.1) (w : whl (s 3 j) (s 4 j)) (h : ∀ S2, Rel S2 ad n (aI A1 14 0 (nI 0)) → post (nI 1) S2) : wpX7_isJob S1 (ad 14) (nI j) post :=
  mm_isJob k1 (I.mvs x) (I.mjs x) (fun _ _ _ _ => h) (fun j' hj' e w' => absurd w ((j_eq I hj hj' e).symm ▸ w')) (fun z => j_no I hj z)
theorem mj_inc (I : Inv S ad n A s m) (k1 : Rel S1 ad n A1) (x : RO A A1 md) (hj : j < n.1) (w : ¬ whl (s 3 j) (s 4 j)) (h : ∀ S2, Rel S2 ad n (aI A1 14 0 (nI 2)) → post (nI 0) S2) : wpX7_isJob S1 (ad 14) (nI j) post :=
  mm_isJob k1 (I.mvs x) (I.mjs x) (fun j' hj' e w' => absurd ((j_eq I hj hj' e).symm ▸ w') w) (fun _ _ _ _ => h) (fun z => j_no I hj z)
theorem mj_no (I : Inv S ad n A s m) (k1 : Rel S1 ad n A1) (x : RO A A1 md) (z : ¬ inr p n.1) (h : ∀ S2, Rel S2 ad n (aI A1 14 0 (nI 1)) → post (nI 0) S2) : wpX7_isJob S1 (ad 14) p post :=
  mm_isJob k1 (I.mvs x) (I.mjs x) (fun j' hj' e w' => j_no I hj' (e ▸ z)) (fun j' hj' e _ => j_no I hj' (e ▸ z)) (fun _ => h)
theorem i_lt (I : Inv S ad n A s m) (hj : j < n.1) : cntf (s 3 j) (s 4 j) ≤ 8 := cnt_le (I.vj j hj)
theorem ms_yes (I : Inv S ad n A s m) (k1 : Rel S1 ad n A1) (x : RO A A1 md) (hj : j < n.1) (w : whl (s 3 j) (s 4 j)) {i : Nat} (hi : i < cntf (s 3 j) (s 4 j)) (h : ∀ S2, Rel S2 ad n (aI A1 14 0 (nI 0)) → post (nI 1) S2) : wpX7_isSheet S1 (ad 14) (nI j) (nI i) post :=
  mm_isSheet k1 (I.mvs x) (I.mjs x) (fun _ _ _ _ _ _ _ => h) (fun j' hj' e _ z => absurd ((inr_nI (by have := i_lt I hj; omega)).2 hi) ((j_eq I hj hj' e).symm ▸ z)) (fun j' hj' e w' => absurd w ((j_eq I hj hj' e).symm ▸ w')) (fun z => j_no I hj z)
theorem ms_3 (I : Inv S ad n A s m) (k1 : Rel S1 ad n A1) (x : RO A A1 md) (hj : j < n.1) (w : whl (s 3 j) (s 4 j)) (z : ¬ inr p (cntf (s 3 j) (s 4 j))) (h : ∀ S2, Rel S2 ad n (aI (aI A1 14 0 (nI 0)) 14 0 (nI 3)) → post (nI 0) S2) : wpX7_isSheet S1 (ad 14) (nI j) p post :=
  mm_isSheet k1 (I.mvs x) (I.mjs x) (fun j' i hj' e _ hi e2 => absurd ((inr_nI (by have := i_lt I hj'; omega)).2 hi) (by rw [← e2, ← j_eq I hj hj' e]; exact z)) (fun _ _ _ _ _ => h) (fun j' hj' e w' => absurd w ((j_eq I hj hj' e).symm ▸ w')) (fun z => j_no I hj z)
theorem ms_2 (I : Inv S ad n A s m) (k1 : Rel S1 ad n A1) (x : RO A A1 md) (hj : j < n.1) (w : ¬ whl (s 3 j) (s 4 j)) (h : ∀ S2, Rel S2 ad n (aI A1 14 0 (nI 2)) → post (nI 0) S2) : wpX7_isSheet S1 (ad 14) (nI j) p post :=
  mm_isSheet k1 (I.mvs x) (I.mjs x) (fun j' i hj' e w' _ _ => absurd ((j_eq I hj hj' e).symm ▸ w') w) (fun j' hj' e w' _ => absurd ((j_eq I hj hj' e).symm ▸ w') w) (fun _ _ _ _ => h) (fun z => j_no I hj z)
theorem ms_1 {q : Int32} (I : Inv S ad n A s m) (k1 : Rel S1 ad n A1) (x : RO A A1 md) (z : ¬ inr p n.1) (h : ∀ S2, Rel S2 ad n (aI A1 14 0 (nI 1)) → post (nI 0) S2) : wpX7_isSheet S1 (ad 14) p q post :=
  mm_isSheet k1 (I.mvs x) (I.mjs x) (fun j' i hj' e _ _ _ => j_no I hj' (e ▸ z)) (fun j' hj' e _ _ => j_no I hj' (e ▸ z)) (fun j' hj' e _ => j_no I hj' (e ▸ z)) (fun _ => h)
/-- a call that fails on both sides -/
theorem fail_end (I : Inv S ad n A s m) (hm : m < 512) (hK : nxt ad m K) {x : Nat} {y : Int32} (hx : x < 10) (h0 : x ≠ 0) {S2 : Mem} {A2 : AM} (k2 : Rel S2 ad n A2) (x2 : RO A A2 (s 0 2)) (ht : gI A2 14 0 = nI x) : isK S2 (ad 14) 7 ∧ wpX7_thrown S2 (ad 14) (cmpJ (ad 29) (nI x) y K P) :=
  cmp_end k2 hx ht (fun q => absurd q h0) (I.go hm hK k2 x2)
theorem thr1 (A : AM) (md : Nat) (v w : Int32) : RO A (aI (aI A 14 0 v) 14 0 w) md := (RO.thr A md v).tr (RO.thr _ _ w)
theorem op_stock {q : Int32} (I : Inv S ad n A s m) (hm : m < 512) (hK : nxt ad m K) (hp : ∀ x S1, mcJ (fun S r => wpX7_stock S (ad 14) p q r) ad K P x S1 → post x S1) : wpL_stock S (ad 0) p q (ad 29) post := by
  have hn := I.h.2.2.1
  refine ⟨I.h.k l0, I.h.k l0, sp_completeJob I.h I.cj I.vj (fun j hj e w => ⟨_, rfl, sp_requireSheet I.h (jt hj) (I.vj j hj) (fun i hi e2 => ⟨I.h.jk (jt hj), ?_⟩) (fun z => ⟨fun q => absurd q (by decide), fun q => absurd q (by decide), fun _ => hp _ _ ?_, Or.inr (Or.inr rfl)⟩)⟩) (fun j hj e w => ⟨fun q => absurd q (by decide), fun _ => hp _ _ ?_, fun q => absurd q (by decide), Or.inr (Or.inl rfl)⟩) (fun z => ⟨fun _ => hp _ _ ?_, fun q => absurd q (by decide), fun q => absurd q (by decide), Or.inl rfl⟩)⟩
  · subst e
    subst e2
    have h8 := i_lt I hj
    refine sp_stockOf I.h (jt hj) (I.vj j hj) (by omega) (put_out I.h fun S1 k1 => hp _ _ ⟨k1.k l14, k1.k l14, ms_yes I k1 (RO.out _ (s 0 2) _) hj w hi fun S2 k2 => ⟨fun q => absurd q n10, fun _ => ?_⟩⟩)
    obtain ⟨e1, e2⟩ := rd k2 (t := 19) (k := 8 * j + i) (by decide) (show 8 * j + i < 32 by omega)
    have x2 := (RO.out A (s 0 2) (nI (s 6 (8 * j + i))).toInt64).tr (RO.thr _ _ (nI 0))
    refine ⟨k2.k l14, ad 19, k2.r l14 rfl, k2.k (t := 19) LM, ?_⟩
    rw [pk_mul, nI_add]
    refine ⟨e1, ?_⟩
    rw [e2, x2.1 19 (by decide), I.vm.2.2.2.2.2.2.2.1 _ (by omega)]
    refine cmp_end k2 (x := 0) (by decide) (gI_aI _ _ _ _) (fun _ => ?_) (I.go hm hK k2 x2)
    rw [gJ_aI, gJ_aJ]
  · subst e
    exact ⟨I.h.k l14, I.h.k l14, ms_3 I I.h (RO.rf _ (s 0 2)) hj w z fun S2 k2 => ⟨fun _ => fail_end I hm hK (x := 3) (by decide) (by decide) k2 (thr1 _ _ _ _) (gI_aI _ _ _ _), fun q => absurd t0 q⟩⟩
  · subst e
    exact ⟨I.h.k l14, I.h.k l14, ms_2 I I.h (RO.rf _ (s 0 2)) hj w fun S2 k2 => ⟨fun _ => fail_end I hm hK (x := 2) (by decide) (by decide) k2 (RO.thr _ _ _) (gI_aI _ _ _ _), fun q => absurd t0 q⟩⟩
  · exact ⟨I.h.k l14, I.h.k l14, ms_1 I I.h (RO.rf _ (s 0 2)) z fun S2 k2 => ⟨fun _ => fail_end I hm hK (x := 1) (by decide) (by decide) k2 (RO.thr _ _ _) (gI_aI _ _ _ _), fun q => absurd t0 q⟩⟩
end
