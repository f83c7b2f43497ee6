/-! ===== bind ===== -/
section
variable {S S1 S' : Mem} {ad ad' : Nat → Nat} {A B A' A1 : AM} {n : Nat × Nat} {s : Sta} {m : Nat} {K P : Mem → Prop} {post : Int32 → Mem → Prop} {p q r : Int32} {j i c l md : Nat}
theorem jsm (I : Inv S ad n A s m) (hj : j < n.1) (hc : c ≤ 500) : sm (fun k => c - s 6 (8 * j + k)) (cntf (s 3 j) (s 4 j)) ≤ 4000 := by
  have h8 := i_lt I hj
  have := sm_le (f := fun k => c - s 6 (8 * j + k)) (c := 500) (N := cntf (s 3 j) (s 4 j)) fun k _ => by show c - s 6 (8 * j + k) ≤ 500; omega
  omega
theorem mm_bind (I : Inv S ad n A s m) (hm : m < 512) (hK : nxt ad m K) (hj : j < n.1) (w : whl (s 3 j) (s 4 j)) (hc1 : 1 ≤ c) (hc : c ≤ 500) (hn : n.2 < 100) (hcl : ∀ i, i < cntf (s 3 j) (s 4 j) → c ≤ s 6 (8 * j + i)) (e : ∀ w, live n w → ad' w = ad w) (k1 : Rel S1 ad' (n.1, n.2 + 1) A1)
    (G : ∀ t, t ≠ 0 → t ≠ 40 + 3 * j + 2 → t ≠ 60 + 3 * n.2 → t ≠ 60 + 3 * n.2 + 1 → t ≠ 60 + 3 * n.2 + 2 → gI A1 t = gI A t) (G6 : gI A1 0 6 = gI A 0 6) (G7 : gI A1 0 7 = nI (n.2 + 1))
    (Gu : ∀ k, k < 8 → gI A1 (40 + 3 * j + 2) k = nI (if k < cntf (s 3 j) (s 4 j) then s 6 (8 * j + k) - c else s 6 (8 * j + k))) (vl : VL A1 (60 + 3 * n.2) c (s 4 j) (s 0 1) (jpg s j) (fun k => s 1 (jpg s j k)))
    (GJ : ∀ t, t < 29 → gJ A1 t = gJ A t) (J29 : gJ A1 29 0 = (nI n.2).toInt64) : mcJ (fun S g => wpX7_bind S (ad' 14) (nI j) (nI c) g) ad' K P (nI 0) S1 := by
  have h4 : n.1 ≤ 4 := I.h.2.2.1
  have h8 := i_lt I hj
  have h16 := (I.mj j hj).2.2.2.2.1
  obtain ⟨⟨a1, a2, a3, a4, a5, a6, a7, a8, a9⟩, ⟨f1, f2⟩, d1, d2, d3, d4, d5, d6, d7, d8⟩ := I.vm
  have E : ∀ t, (1 ≤ t ∧ t < 40) → gI A1 t = gI A t := fun t h => G t (by omega) (by omega) (by omega) (by omega) (by omega)
  have v : MJ A1 j (s 3 j) (s 4 j) (jpg s j) := (I.mj j hj).ex (E 16 (by omega)) (E 17 (by omega)) (E 18 (by omega))
  have i2 : mI S1 (ad' 14) 2 = nI n.1 := by rw [k1.i l14, E 14 (by omega), a2]
  have i3 : mI S1 (ad' 14) 3 = nI n.2 := by rw [k1.i l14, E 14 (by omega), a3]
  refine ⟨k1.k l14, k1.k l14, ?_⟩
  rw [i2]
  refine mm_inN (by omega) (fun j' _ _ => ⟨fun _ => in500 (fun c' _ _ _ => ⟨fun _ => ⟨k1.k l14, mm_isWhole k1 v (fun _ => ⟨fun q => absurd q n10, fun _ => ⟨k1.k l14, ?_⟩⟩) (fun z => absurd w z)⟩, fun q => absurd q n10⟩) (fun z => n500 hc hc1 z), fun q => absurd q n10⟩) (fun z => absurd ((inr_nI (by omega)).2 hj) z)
  rw [i3]
  refine ⟨fun _ => mm_missing k1 v (sk := fun i => s 6 (8 * j + i)) (fun i hi => ⟨by rw [E 19 (by omega)]; exact d6 _ (by omega), I.st9 hj hi⟩) hc ⟨fun _ => ⟨k1.k l14, ?_⟩, fun z => absurd ?_ z⟩, fun z => absurd ((nI_eq (by omega) (by decide)).1 z) (by omega)⟩
  · rintro S21 rfl
    have k2 := k1.sI l14 0 (nI 0)
    refine mm_b82 (l := n.2) hn (v.st (by decide) (by decide) (by decide)) (by rw [gI_aIk _ _ _ _ _ (by decide), E 14 (by omega)]; exact a3) (st := s 1) (fun c hc => by rw [gI_aIu _ _ _ _ _ (by decide), E 15 (by omega)]; exact d1 c hc) (f := s 6) (fun q hq => by rw [gI_aIu _ _ _ _ _ (by decide), E 19 (by omega)]; exact d6 q hq) hcl h8 k2 fun S2 A2 k3 Y0 Y14 Y3 Y19 Y25 Y26 Y27 Y28 YJ => ?_
    have B0 : ∀ t, t ≠ 14 → t ≠ 19 → t ≠ 25 → t ≠ 26 → t ≠ 27 → t ≠ 28 → gI A2 t = gI A1 t := fun t g1 g2 g3 g4 g5 g6 => by rw [Y0 t g1 g2 g3 g4 g5 g6, gI_aIu _ _ _ _ _ g1]
    refine cmp_end k3 (x := 0) (by decide) ?_ (fun _ => ?_) (hK _ _ _ _ (sB s n j c) (inv_bind I hm hj hn w hc k3 ?_ ?_ ?_ ?_ Y3 Y19 ?_ ?_ ?_ ?_ ?_ ?_ ?_ ?_) fun t ht => e t (live_lt ht))
    · rw [Y14 0 (by decide), gI_aI]
    · rw [YJ, gJ_aI, J29]
    · intro t g0 g14 g19 g25 g26 g27 g28 gu gl gl1 gl2
      rw [B0 t g14 g19 g25 g26 g27 g28]
      exact G t g0 gu gl gl1 gl2
    · rw [B0 0 (by decide) (by decide) (by decide) (by decide) (by decide) (by decide)]; exact G6
    · rw [B0 0 (by decide) (by decide) (by decide) (by decide) (by decide) (by decide)]; exact G7
    · intro k h0 h3
      rw [Y14 k h3, gI_aIk _ _ _ _ _ h0, E 14 (by omega)]
    · intro k hk
      rw [B0 _ (by omega) (by omega) (by omega) (by omega) (by omega) (by omega)]; exact Gu k hk
    · intro k
      rw [Y25, gI_aIu _ _ _ _ _ (by decide), E 25 (by omega)]
    · intro k
      rw [Y26, gI_aIu _ _ _ _ _ (by decide), E 26 (by omega)]
    · intro k
      rw [Y27, gI_aIu _ _ _ _ _ (by decide), E 27 (by omega)]
    · intro l k hl hk
      rw [Y28, if_neg (by omega), gI_aIu _ _ _ _ _ (by decide), E 28 (by omega)]
    · intro k hk
      rw [Y28, if_pos (by omega), show (16 * n.2 + k) % 16 = k by omega]
    · obtain ⟨g1, g2, g3, g4, g5, g6⟩ := vl
      have B1 := B0 (60 + 3 * n.2) (by omega) (by omega) (by omega) (by omega) (by omega) (by omega)
      have B2 := B0 (60 + 3 * n.2 + 1) (by omega) (by omega) (by omega) (by omega) (by omega) (by omega)
      have B3 := B0 (60 + 3 * n.2 + 2) (by omega) (by omega) (by omega) (by omega) (by omega) (by omega)
      exact ⟨(congrFun B1 0).trans g1, (congrFun B1 1).trans g2, (congrFun B1 2).trans g3, g4, g5, fun k hk => ⟨(congrFun B2 k).trans (g6 k hk).1, (congrFun B3 k).trans (g6 k hk).2.1, (g6 k hk).2.2⟩⟩
    · intro t ht
      rw [YJ, gJ_aI]
      exact GJ t (by omega)
  · rw [sm_0 fun k hk => by have := hcl k hk; show c - s 6 (8 * j + k) = 0; omega]
    exact (nI_leI (by decide) (by decide)).2 (Nat.le_refl _)
theorem op_bind (I : Inv S ad n A s m) (hm : m < 512) (hK : nxt ad m K) (hp : ∀ x S1, mcJ (fun S g => wpX7_bind S (ad 14) p q g) ad K P x S1 → post x S1) : wpL_bind S (ad 0) p q (ad 29) post := by
  have hn := I.h.2.2.1
  have hn2 := I.h.2.2.2
  have hco := I.vc.1.2.1
  refine ⟨I.h.k l0, I.h.k l0, sp_existingJob I.h I.cj (fun j hj e => ⟨_, rfl, sp_requireCount (fun c h1 h2 e2 => sp_requireComplete I.h (jt hj) (I.vj j hj) (fun w => ⟨I.h.k l0, ?_⟩) (fun w => ⟨fun q => absurd q (by decide), fun _ => hp _ _ ?_, fun q => absurd q (by decide), fun q => absurd q (by decide), Or.inr (Or.inl rfl)⟩)) (fun z => ⟨fun q => absurd q (by decide), fun q => absurd q (by decide), fun _ => hp _ _ ?_, fun q => absurd q (by decide), Or.inr (Or.inr (Or.inl rfl))⟩)⟩) (fun z => ⟨fun _ => hp _ _ ?_, fun q => absurd q (by decide), fun q => absurd q (by decide), fun q => absurd q (by decide), Or.inl rfl⟩)⟩
  · subst e
    subst e2
    have h8 := i_lt I hj
    have hsm := jsm I hj h2
    have i7 : mI S (ad 0) 7 = nI n.2 := by rw [I.h.i l0, I.cl]
    refine ⟨fun z => absurd z ?_, fun _ => ⟨ad 13, I.h.r l0 rfl, I.h.k (t := 13) LM, fun z => ⟨I.h.jk (jt hj), sp_lackFor I.h (jt hj) (I.vj j hj) h2 ⟨fun z2 => ⟨I.h.jk (jt hj), ?_⟩, fun z2 => ⟨fun q => absurd q (by decide), fun q => absurd q (by decide), fun q => absurd q (by decide), fun _ => hp _ _ ?_, Or.inr (Or.inr (Or.inr rfl))⟩⟩⟩, fun z => ⟨fun q => absurd q (by decide), fun _ => hp _ _ ?_, fun q => absurd q (by decide), fun q => absurd q (by decide), Or.inr (Or.inl rfl)⟩⟩⟩
    · rw [i7, lt0_iff, nI_toInt (by omega)]
      omega
    · rw [i7, I.h.len (t := 13) LM, nI_ltI (by omega) (by decide)] at z
      have z' : n.2 < 100 := z
      rw [i0, nI_leI (by omega) (by decide)] at z2
      have hcl : ∀ i, i < cntf (s 3 j) (s 4 j) → c ≤ s 6 (8 * j + i) := fun i hi => by
        have : c - s 6 (8 * j + i) = 0 := sm_z (f := fun k => c - s 6 (8 * j + k)) (by omega) i hi
        omega
      refine sp_takeSheetsFor I.h (jt hj) (I.vj j hj) hcl fun S2 A2 k2 vs => ⟨k2.k l0, ad 13, k2.r l0 rfl, ?_⟩
      have v2 : VJ A2 (40 + 3 * j) (s 3 j) (s 4 j) (jpg s j) (fun k => if k < cntf (s 3 j) (s 4 j) then s 6 (8 * j + k) - c else s 6 (8 * j + k)) := (I.vj j hj).put vs fun k hk => by
        have := I.st9 hj hk
        split
        · omega
        · exact this
      refine sp_newLot (post := fun x3 S1 => isK S1 (ad 29) 12 ∧ (vp_in (nI 0) (mN S1 (ad 29)) ∧ (∀ S8 : Mem, S8 = (sJ S1 (ad 29) (nI 0).toNatClampNeg x3.toInt64) → (post (nI 0) S8)))) k2 z' (by rw [vs.1.1 0 (by omega)]; exact I.cl) (jt hj) v2 (st := s 1) (fun c hc => by rw [vs.1.1 2 (by omega)]; exact I.vc.co hc) (fun c hc => I.s99 hc) (co := s 0 1) (by rw [vs.1.1 1 (by omega)]; exact hco) h2 fun S3 ad' A3 k3 e o3 vl => ?_
      have e29 := e 29 l29
      have e14 := e 14 l14
      have := put_out (post := fun S8 => post (nI 0) S8) (v := (nI n.2).toInt64) k3 fun S4 k4 => hp _ _ (mcJ_ad (G := fun S a g => wpX7_bind S a (nI j) (nI c) g) e14 e29 (mm_bind I hm hK hj w h1 h2 z' hcl e k4 (fun t g0 gu gl gl1 gl2 => ?_) ?_ ?_ (fun k hk => ?_) ?_ (fun t ht => ?_) ?_))
      · rw [e29] at this
        exact this
      · rw [gI_aJ, gI_aIu _ _ _ _ _ g0, (o3 t gl gl1 gl2).1]
        exact vs.1.1 t gu
      · rw [gI_aJ, gI_aIk _ _ _ _ _ (by decide), (o3 0 (by omega) (by omega) (by omega)).1, vs.1.1 0 (by omega)]
      · rw [gI_aJ, gI_aI]
      · rw [gI_aJ, gI_aIu _ _ _ _ _ (by omega), (o3 _ (by omega) (by omega) (by omega)).1]
        exact vs.2 k hk
      · obtain ⟨g1, g2, g3, g4, g5, g6⟩ := vl
        refine ⟨?_, ?_, ?_, g4, g5, fun k hk => ?_⟩
        · rw [gI_aJ, gI_aIu _ _ _ _ _ (by omega)]; exact g1
        · rw [gI_aJ, gI_aIu _ _ _ _ _ (by omega)]; exact g2
        · rw [gI_aJ, gI_aIu _ _ _ _ _ (by omega)]; exact g3
        · rw [gI_aJ, gI_aIu _ _ _ _ _ (by omega), gI_aIu _ _ _ _ _ (by omega)]; exact g6 k hk
      · rw [gJ_aJu _ _ _ _ _ (by omega), gJ_aI, (o3 t (by omega) (by omega) (by omega)).2.1, vs.1.2.1]
      · exact gJ_aJ _ _ _ _
    · rw [i0, nI_leI (by omega) (by decide)] at z2
      rw [i7, I.h.len (t := 13) LM, nI_ltI (by omega) (by decide)] at z
      have z' : n.2 < 100 := z
      refine ⟨I.h.k l14, I.h.k l14, ml_job I I.h (RO.rf _ (s 0 2)) (fun j' hj' e' => ⟨fun _ => in500 (fun c' _ _ e2 => ⟨fun _ => ⟨I.h.k l14, mm_isWhole I.h (I.mj j hj) (fun _ => ⟨fun q => absurd q n10, fun _ => ⟨I.h.k l14, ?_⟩⟩) (fun z => absurd w z)⟩, fun q => absurd q n10⟩) (fun z => n500 h2 h1 z), fun q => absurd q n10⟩) (fun z => absurd ((inr_nI (by omega)).2 hj) z)⟩
      rw [I.h.i l14, I.vm.1.2.2.1]
      refine ⟨fun _ => mm_missing I.h (I.mj j hj) (sk := fun i => s 6 (8 * j + i)) (fun i hi => ⟨I.m19 (RO.rf _ (s 0 2)) (by omega), I.st9 hj hi⟩) h2 ⟨fun z3 => absurd ((nI_leI (by omega) (by decide)).1 z3) z2, fun _ => ⟨I.h.k l14, mm_fails I.h fun S2 k2 => fail_end I hm hK (x := 4) (by decide) (by decide) k2 (RO.thr _ _ _) (gI_aI _ _ _ _)⟩⟩, fun z3 => absurd ((nI_eq (by omega) (by decide)).1 z3) (by omega)⟩
    · rw [i7, I.h.len (t := 13) LM, nI_ltI (by omega) (by decide)] at z
      have z' : ¬ n.2 < 100 := z
      have e100 : n.2 = 100 := by omega
      refine ⟨I.h.k l14, I.h.k l14, ml_job I I.h (RO.rf _ (s 0 2)) (fun j' hj' e' => ⟨fun _ => in500 (fun c' _ _ e2 => ⟨fun _ => ⟨I.h.k l14, mm_isWhole I.h (I.mj j hj) (fun _ => ⟨fun q => absurd q n10, fun _ => ⟨I.h.k l14, ?_⟩⟩) (fun z => absurd w z)⟩, fun q => absurd q n10⟩) (fun z => n500 h2 h1 z), fun q => absurd q n10⟩) (fun z => absurd ((inr_nI (by omega)).2 hj) z)⟩
      rw [I.h.i l14, I.vm.1.2.2.1, e100]
      exact ⟨fun y => absurd rfl y, fun _ => mm_fails I.h fun S2 k2 => fail_end I hm hK (x := 3) (by decide) (by decide) k2 (RO.thr _ _ _) (gI_aI _ _ _ _)⟩
  · subst e
    subst e2
    exact ⟨I.h.k l14, I.h.k l14, ml_job I I.h (RO.rf _ (s 0 2)) (fun j' hj' e' => ⟨fun _ => in500 (fun c' _ _ e2 => ⟨fun _ => ⟨I.h.k l14, mm_isWhole I.h (I.mj j hj) (fun z => absurd z w) (fun _ => ⟨fun _ => ⟨I.h.k l14, mm_fails I.h fun S2 k2 => fail_end I hm hK (x := 3) (by decide) (by decide) k2 (RO.thr _ _ _) (gI_aI _ _ _ _)⟩, fun q => absurd t0 q⟩)⟩, fun q => absurd q n10⟩) (fun z => n500 h2 h1 z), fun q => absurd q n10⟩) (fun z => absurd ((inr_nI (by omega)).2 hj) z)⟩
  · subst e
    exact ⟨I.h.k l14, I.h.k l14, ml_job I I.h (RO.rf _ (s 0 2)) (fun j' hj' e' => ⟨fun _ => in500 (fun c' h1 h2 e2 => n500 h2 h1 (e2 ▸ z)) (fun _ => ⟨fun q => absurd t0 q, fun _ => ⟨I.h.k l14, mm_fails I.h fun S2 k2 => fail_end I hm hK (x := 2) (by decide) (by decide) k2 (RO.thr _ _ _) (gI_aI _ _ _ _)⟩⟩), fun q => absurd q n10⟩) (fun z => absurd ((inr_nI (by omega)).2 hj) z)⟩
  · exact ⟨I.h.k l14, I.h.k l14, ml_job I I.h (RO.rf _ (s 0 2)) (fun j' hj' e' => absurd ((inr_nI (by omega)).2 hj') (e' ▸ z)) (fun _ => ⟨fun q => absurd t0 q, fun _ => ⟨I.h.k l14, mm_fails I.h fun S2 k2 => fail_end I hm hK (x := 1) (by decide) (by decide) k2 (RO.thr _ _ _) (gI_aI _ _ _ _)⟩⟩)⟩
end
