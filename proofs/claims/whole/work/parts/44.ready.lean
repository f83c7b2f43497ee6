/-! ===== makeready: both sides ask for the same plates ===== -/
section
variable {S : Mem} {ad : Nat → Nat} {A A' : AM} {n : Nat × Nat} {s : Sta} {m : Nat} {K P : Mem → Prop} {post : Int32 → Mem → Prop} {p q r : Int32} {j : Nat}
abbrev jpg (s : Sta) (j : Nat) : Nat → Nat := fun k => s 5 (16 * j + k)
abbrev jk (s : Sta) (j i t : Nat) : Nat := kpl (s 1) (s 3 j) (s 4 j) (jpg s j) i t
abbrev jm (s : Sta) (j i t : Nat) : Nat := mpl (s 1) (s 3 j) (s 4 j) (jpg s j) i t
abbrev jp (s : Sta) (j i t : Nat) : Nat := psd (s 3 j) (s 4 j) (jpg s j) i t
theorem Inv.s99 (I : Inv S ad n A s m) {c : Nat} (hc : c < 12) : s 1 c ≤ 99 := (I.vb.2.1 c hc).1
theorem Inv.side (I : Inv S ad n A s m) (hj : j < n.1) {i t : Nat} (hi : i < cntf (s 3 j) (s 4 j)) (ht : t < 2) : okp (jp s j i t) (c1 s (jp s j i t)) (c2 s (jp s j i t)) ∧ jk s j i t = pq (jp s j i t) (c1 s (jp s j i t)) (c2 s (jp s j i t)) ∧ jm s j i t = mq (jp s j i t) (c1 s (jp s j i t)) (c2 s (jp s j i t)) :=
  psd_ok (st := s 1) (fun c hc => I.s99 hc) (fun _ => rfl) (fun p hp => conOn_lt (I.vj j hj) hi hp) ht
theorem ite_sw {a b : Prop} [Decidable a] [Decidable b] {x y : Nat} (h : a ↔ b) : (if a then x else y) = if b then x else y := by
  by_cases q : b
  · rw [if_pos q, if_pos (h.2 q)]
  · rw [if_neg q, if_neg (fun z => q (h.1 z))]
theorem bm_eq (I : Inv S ad n A s m) (hj : j < n.1) : bm A (nI (s 3 j)) = if s 3 j = s 0 9 then 0 else 15 := by
  obtain ⟨⟨-, -, h3, h4⟩, -⟩ := I.vp
  have hb := I.vb.2.2.2.1 j hj
  have hb2 := isB_lt hb
  have ho : s 0 9 < 200 := by rcases h4 with w | w; omega; exact isB_lt w
  have e : nI (if s 0 9 = 0 then 32 else s 0 9) = nI (s 3 j) ↔ (if s 0 9 = 0 then 32 else s 0 9) = s 3 j := nI_eq (by split <;> omega) (by omega)
  unfold bm
  rw [h3]
  refine ite_sw (e.trans ⟨fun q => ?_, fun q => ?_⟩)
  · unfold isB at hb
    by_cases z : s 0 9 = 0
    · rw [if_pos z] at q; omega
    · rw [if_neg z] at q; exact q.symm
  · rw [if_neg (show ¬ s 0 9 = 0 by unfold isB at hb; omega)]; exact q.symm
theorem mf_rdy (I : Inv S ad n A s m) (hj : j < n.1) {i : Nat} (hi : i < cntf (s 3 j) (s 4 j)) : mf A (nI (jk s j i 0)) (nI (jk s j i 1)) (nI (s 3 j)) = rdy (s 0 7) (s 0 8) (s 0 9) (jm s j i 0) (jm s j i 1) (s 3 j) := by
  obtain ⟨o0, k0, m0⟩ := I.side hj hi (t := 0) (by decide)
  obtain ⟨o1, k1, m1⟩ := I.side hj hi (t := 1) (by decide)
  obtain ⟨⟨h1, h2, -⟩, -⟩ := I.vp
  have e0 := (mtd_eq h1 o0).1
  have e1 := (mtd_eq h2 o1).1
  have q0 : (if gI A 6 0 = nI (jk s j i 0) then 0 else 20) = if jm s j i 0 = s 0 7 then 0 else 20 := ite_sw (by rw [k0, m0]; exact ⟨fun z => e0.1 z.symm, fun z => (e0.2 z).symm⟩)
  have q1 : (if gI A 6 1 = nI (jk s j i 1) then 0 else 20) = if jm s j i 1 = s 0 8 then 0 else 20 := ite_sw (by rw [k1, m1]; exact ⟨fun z => e1.1 z.symm, fun z => (e1.2 z).symm⟩)
  unfold mf rdy
  rw [bm_eq I hj, q0, q1]
  omega
/-- what the reference has when it asks for makeready -/
theorem Inv.rdy (I : Inv S ad n A s m) {md : Nat} {S1 : Mem} {A1 : AM} (k1 : Rel S1 ad n A1) (x : RO A A1 md) (hj : j < n.1) {i : Nat} (hi : i < cntf (s 3 j) (s 4 j)) (hq : post (nI (rdy (s 0 7) (s 0 8) (s 0 9) (jm s j i 0) (jm s j i 1) (s 3 j))) S1) : wpX7_ready S1 (ad 14) (nI j) (nI i) post := by
  obtain ⟨⟨h1, h2, -, h4⟩, -⟩ := I.vp
  have ho : s 0 9 < 200 := by rcases h4 with w | w; omega; exact isB_lt w
  have hf : ∀ {x f}, mtd x f → f < 1500000 := by
    rintro x f (⟨rfl, -⟩ | ⟨p, a, r, o, rfl, -⟩)
    · decide
    · exact (mq_lt o).2
  obtain ⟨v1, v2⟩ := I.vm
  exact mm_ready k1 (I.mjs x j hj) (st := s 1) (fun c hc => by rw [x.1 15 (by decide)]; exact v2.2.1 c hc) (fun c hc => by have := I.s99 hc; omega) (by rw [x.2.1 7 (by decide)]; exact v1.2.2.2.2.2.2.1) (hf h1) (by rw [x.2.1 8 (by decide)]; exact v1.2.2.2.2.2.2.2.1) (hf h2) (by rw [x.2.1 9 (by decide)]; exact v1.2.2.2.2.2.2.2.2) ho hi hq
theorem op_makeready (I : Inv S ad n A s m) (hm : m < 512) (hK : nxt ad m K) (hp : ∀ x S1, mcJ (fun S g => wpX7_makeready S (ad 14) p q g) ad K P x S1 → post x S1) : wpL_makeready S (ad 0) p q (ad 29) post := by
  have hn := I.h.2.2.1
  refine ⟨I.h.k l0, I.h.k l0, sp_completeJob I.h I.cj I.vj (fun j hj e w => ⟨_, rfl, sp_requireSheet I.h (jt hj) (I.vj j hj) (fun i hi e2 => ⟨I.h.k l0, ad 6, I.h.r l0 rfl, ?_⟩) (fun z => ⟨fun q => absurd q (by decide), fun q => absurd q (by decide), fun _ => hp _ _ ?_, Or.inr (Or.inr rfl)⟩)⟩) (fun j hj e w => ⟨fun q => absurd q (by decide), fun _ => hp _ _ ?_, fun q => absurd q (by decide), Or.inr (Or.inl rfl)⟩) (fun z => ⟨fun _ => hp _ _ ?_, fun q => absurd q (by decide), fun q => absurd q (by decide), Or.inl rfl⟩)⟩
  · subst e
    subst e2
    refine sp_plateFor I.h (jt hj) (I.vj j hj) (st := s 1) (fun c hc => I.vc.co hc) hi (by decide) ⟨I.h.k l0, sp_plateFor I.h (jt hj) (I.vj j hj) (st := s 1) (fun c hc => I.vc.co hc) hi (by decide) ⟨I.h.jk (jt hj), I.h.k (t := 6) LM, ?_⟩⟩
    rw [I.h.ji (jt hj), (I.vj j hj).1]
    refine sp_minutesFor I.h ?_
    rw [mf_rdy I hj hi]
    refine put_out I.h fun S1 k1 => hp _ _ ⟨k1.k l14, k1.k l14, ms_yes I k1 (RO.out _ (s 0 2) _) hj w hi fun S2 k2 => ⟨fun q => absurd q n10, fun _ => ⟨k2.k l14, ?_⟩⟩⟩
    have x2 := (RO.out A (s 0 2) (nI (rdy (s 0 7) (s 0 8) (s 0 9) (jm s j i 0) (jm s j i 1) (s 3 j))).toInt64).tr (RO.thr _ _ (nI 0))
    refine I.rdy k2 x2 hj hi (cmp_end k2 (x := 0) (by decide) (gI_aI _ _ _ _) (fun _ => ?_) (I.go hm hK k2 x2))
    rw [gJ_aI, gJ_aJ]
  · subst e
    exact ⟨I.h.k l14, I.h.k l14, ms_3 I I.h (RO.rf _ (s 0 2)) hj w z fun S2 k2 => ⟨fun _ => fail_end I hm hK (x := 3) (by decide) (by decide) k2 (thr1 _ _ _ _) (gI_aI _ _ _ _), fun q => absurd t0 q⟩⟩
  · subst e
    exact ⟨I.h.k l14, I.h.k l14, ms_2 I I.h (RO.rf _ (s 0 2)) hj w fun S2 k2 => ⟨fun _ => fail_end I hm hK (x := 2) (by decide) (by decide) k2 (RO.thr _ _ _) (gI_aI _ _ _ _), fun q => absurd t0 q⟩⟩
  · exact ⟨I.h.k l14, I.h.k l14, ms_1 I I.h (RO.rf _ (s 0 2)) z fun S2 k2 => ⟨fun _ => fail_end I hm hK (x := 1) (by decide) (by decide) k2 (RO.thr _ _ _) (gI_aI _ _ _ _), fun q => absurd t0 q⟩⟩
end
