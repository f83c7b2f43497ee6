/-! ===== print: both sides ===== -/
section
variable {S S1 S' : Mem} {ad : Nat → Nat} {A B A' A1 : AM} {n : Nat × Nat} {s : Sta} {m : Nat} {K P : Mem → Prop} {post : Int32 → Mem → Prop} {p q r : Int32} {j i c : Nat}
/-- the plates behind a print of the sheet -/
def T2 (A : AM) (s : Sta) (j i : Nat) : TT := tst (tst (gI A 8, s 7, s 0 2) (jp s j i 0) (jk s j i 0) (jm s j i 0)) (jp s j i 1) (jk s j i 1) (jm s j i 1)
/-- what the class's print leaves -/
def CP (A A1 : AM) (s : Sta) (j i c mn : Nat) : Prop :=
  (∀ t, t ≠ 6 → t ≠ 7 → t ≠ 8 → t ≠ 40 + 3 * j + 2 → gI A1 t = gI A t) ∧ gI A1 6 0 = nI (jk s j i 0) ∧ gI A1 6 1 = nI (jk s j i 1) ∧ gI A1 6 2 = nI (s 3 j) ∧ gI A1 7 1 = nI (T2 A s j i).2.2 ∧ gI A1 8 = (T2 A s j i).1 ∧
  (∀ k, gI A1 (40 + 3 * j + 2) k = if k = i then nI (s 6 (8 * j + i) + c) else gI A (40 + 3 * j + 2) k) ∧
  (∀ t k, t ≠ 29 → gJ A1 t k = if t = 0 ∧ k = 9 then lN (s 0 6 + c) else if t = 0 ∧ k = 10 then lN (s 0 3 + 1) else if t = 0 ∧ k = 11 then lN (s 0 4 + mn) else gJ A t k) ∧ gJ A1 29 0 = (nI mn).toInt64
theorem mi_yes (I : Inv S ad n A s m) (k1 : Rel S1 ad n A1) (hv : gI A1 14 2 = nI n.1) (v : ∀ j, j < n.1 → MJ A1 j (s 3 j) (s 4 j) (jpg s j)) (hj : j < n.1) (w : whl (s 3 j) (s 4 j)) (hi : i < cntf (s 3 j) (s 4 j)) (h : ∀ S2, Rel S2 ad n (aI A1 14 0 (nI 0)) → post (nI 1) S2) : wpX7_isSheet S1 (ad 14) (nI j) (nI i) post :=
  mm_isSheet k1 hv v (fun j' i' _ _ _ _ _ => h) (fun j' hj' e _ z => by
    have e' := j_eq I hj hj' e
    subst e'
    exact absurd ((inr_nI (by have := i_lt I hj; omega)).2 hi) z) (fun j' hj' e w' => by
    have e' := j_eq I hj hj' e
    subst e'
    exact absurd w w') (fun z => j_no I hj z)
theorem mm_print (I : Inv S ad n A s m) (hm : m < 512) (hK : nxt ad m K) (hj : j < n.1) (w : whl (s 3 j) (s 4 j)) (hi : i < cntf (s 3 j) (s 4 j)) (hc1 : 1 ≤ c) (hc : c ≤ 500) (hst : s 6 (8 * j + i) + c ≤ 9999) (hap : ∀ p, p < plc (s 3 j) → s 2 (conOn (s 3 j) (s 4 j) (jpg s j) i p) = 1) {mn : Nat} (hmn : rdy (s 0 7) (s 0 8) (s 0 9) (jm s j i 0) (jm s j i 1) (s 3 j) = mn) (k1 : Rel S1 ad n A1) (C : CP A A1 s j i c mn) : mcJ (fun S g => wpX7_print S (ad 14) (nI j) (nI i) (nI c) g) ad K P (nI 0) S1 := by
  obtain ⟨G, G60, G61, G62, G71, G8, Gu, GJ, J29⟩ := C
  have h4 : n.1 ≤ 4 := I.h.2.2.1
  have h8 := i_lt I hj
  have hb := I.vb.1
  have hs9 : ∀ c, c < 12 → s 1 c ≤ 99 := fun c hc => I.s99 hc
  obtain ⟨⟨a1, a2, a3, a4, a5, a6, a7, a8, a9⟩, ⟨f1, f2⟩, d1, d2, d3, d4, d5, d6, d7, d8⟩ := I.vm
  obtain ⟨⟨p1, p2, -, p4⟩, pb, pc, pd⟩ := I.vp
  have E : ∀ t, (9 ≤ t ∧ t < 40) → gI A1 t = gI A t := fun t h => G t (by omega) (by omega) (by omega) (by omega)
  have v : ∀ j, j < n.1 → MJ A1 j (s 3 j) (s 4 j) (jpg s j) := fun j hj => (I.mj j hj).ex (E 16 (by omega)) (E 17 (by omega)) (E 18 (by omega))
  have ho : s 0 9 < 200 := by rcases p4 with w | w; omega; exact isB_lt w
  have hf : ∀ {x f}, mtd x f → f < 1500000 := by
    rintro x f (⟨rfl, -⟩ | ⟨p, a, r, o, rfl, -⟩)
    · decide
    · exact (mq_lt o).2
  obtain ⟨o0, k0, m0⟩ := I.side hj hi (t := 0) (by decide)
  obtain ⟨o1, kk1, m1⟩ := I.side hj hi (t := 1) (by decide)
  have P0 : PLt (gI A 8, s 7, s 0 2) s := ⟨pb, pc, pd⟩
  have P1 : PLt (tst (gI A 8, s 7, s 0 2) (jp s j i 0) (jk s j i 0) (jm s j i 0)) s := by rw [k0, m0]; exact P0.st hs9 o0.1
  have P2 : PLt (T2 A s j i) s := by
    unfold T2
    rw [kk1, m1]
    exact P1.st hs9 o1.1
  have l1 := tst_le (T := (gI A 8, s 7, s 0 2)) (p := jp s j i 0) (q := jk s j i 0) (x := jm s j i 0)
  have l2 := tst_le (T := tst (gI A 8, s 7, s 0 2) (jp s j i 0) (jk s j i 0) (jm s j i 0)) (p := jp s j i 1) (q := jk s j i 1) (x := jm s j i 1)
  have hT2 : (T2 A s j i).2.2 ≤ s 0 2 + 2 := by
    have l1' : (tst (gI A 8, s 7, s 0 2) (jp s j i 0) (jk s j i 0) (jm s j i 0)).2.2 ≤ s 0 2 + 1 := l1
    have l2' : (T2 A s j i).2.2 ≤ (tst (gI A 8, s 7, s 0 2) (jp s j i 0) (jk s j i 0) (jm s j i 0)).2.2 + 1 := l2
    omega
  have hmn55 : mn ≤ 55 := by rw [← hmn]; exact rdy_le _ _ _ _ _ _
  have k14 : gI A1 14 = gI A 14 := E 14 (by omega)
  refine ⟨k1.k l14, k1.k l14, mi_yes I k1 (by rw [k14]; exact a2) v hj w hi fun S2 k2 => ⟨fun _ => in500 (fun c' _ _ _ => ⟨fun _ => ⟨k2.k l14, ?_⟩, fun q => absurd q n10⟩) (fun z => n500 hc hc1 z), fun q => absurd q n10⟩⟩
  obtain ⟨f19, v19⟩ := rd k2 (t := 19) (k := 8 * j + i) (by decide) (show 8 * j + i < 32 by omega)
  rw [gI_aIu _ _ _ _ _ (by decide), E 19 (by omega), d6 _ (by omega)] at v19
  refine ⟨ad 19, k2.r l14 rfl, k2.k (t := 19) LM, ?_⟩
  rw [pk_mul, nI_add]
  refine ⟨f19, ?_⟩
  rw [v19, nI_add]
  refine ⟨fun z => absurd ((nI_ltI (by decide) (by omega)).1 z) (by omega), fun _ => ?_⟩
  have v2 : MJ (aI A1 14 0 (nI 0)) j (s 3 j) (s 4 j) (jpg s j) := (v j hj).st (by decide) (by decide) (by decide)
  refine mm_pr57 k2 v2 hi (ap := s 2) (fun c hc => ⟨by rw [gI_aIu _ _ _ _ _ (by decide), E 20 (by omega)]; exact d2 c hc, (I.vb.2.1 c hc).2.1⟩) (f := 1) (Nat.le_refl _) (fun _ _ => ?_) (fun z => absurd ⟨rfl, hap⟩ z)
  have e14 : ∀ k, k ≠ 0 → gI (aI A1 14 0 (nI 0)) 14 k = gI A 14 k := fun k hk => by rw [gI_aIk _ _ _ _ _ hk, k14]
  refine mm_prD k2 v2 (st := s 1) (fun c hc => by rw [gI_aIu _ _ _ _ _ (by decide), E 15 (by omega)]; exact d1 c hc) (fun c hc => by have := hs9 c hc; omega) ((e14 7 (by decide)).trans a7) (hf p1) ((e14 8 (by decide)).trans a8) (hf p2) ((e14 9 (by decide)).trans a9) ho hi (by omega) (T := (gI A 8, s 7, s 0 2)) ((e14 4 (by decide)).trans a4) (show s 0 2 < 1099 by omega)
    (fun k hk => ⟨by rw [gI_aIu _ _ _ _ _ (by decide), E 21 (by omega)]; exact d7 k hk, by
      obtain ⟨p, a, r, o, e, -⟩ := pb k hk
      show s 7 k < 1500000
      rw [e]
      exact (mq_lt o).2⟩)
    (p0 := jp s j i 0) (q0 := jk s j i 0) (p1 := jp s j i 1) (q1 := jk s j i 1) (by
      have := P0.2.2 (jp s j i 0) o0.1
      rw [← k0, ← m0] at this
      exact this) (by
      have := P1.2.2 (jp s j i 1) o1.1
      rw [← kk1, ← m1] at this
      exact this) (u := s 6 (8 * j + i)) (pr := s 0 3) (mi := s 0 4) (pd := s 0 6) (by rw [gI_aIu _ _ _ _ _ (by decide), E 19 (by omega)]; exact d6 _ (by omega)) ((e14 5 (by decide)).trans a5) ((e14 6 (by decide)).trans a6) (by rw [gJ_aI, GJ 14 11 (by decide), if_neg (by decide), if_neg (by decide), if_neg (by decide)]; exact f2) (by omega) hmn
    fun S9 A9 k9 y0 y14 y4 y5 y6 y7 y8 y9 y21 y19 yJ => ?_
  have B0 : ∀ t, t ≠ 14 → t ≠ 19 → t ≠ 21 → gI A9 t = gI A1 t := fun t g1 g2 g3 => by rw [y0 t g1 g2 g3, gI_aIu _ _ _ _ _ g1]
  refine cmp_end k9 (x := 0) (by decide) ?_ (fun _ => ?_) (hK _ _ n _ (sPr s j i c mn (T2 A s j i)) (inv_print I hm hj w hi hc hst hmn55 P2 hT2 k9 ?_ ?_ ?_ ?_ ?_ ?_ ?_ y4 y5 y6 y7 y8 y9 y21 ?_ ?_ ?_ ?_ ?_ ?_ ?_ ?_) fun _ _ => rfl)
  · rw [y14 0 (by decide), gI_aI]
  · rw [yJ, if_neg (by decide), gJ_aI, J29]
  · intro t g6 g7 g8 g14 g19 g21 gu
    rw [B0 t g14 g19 g21]
    exact G t g6 g7 g8 gu
  · rw [B0 6 (by decide) (by decide) (by decide)]; exact G60
  · rw [B0 6 (by decide) (by decide) (by decide)]; exact G61
  · rw [B0 6 (by decide) (by decide) (by decide)]; exact G62
  · rw [B0 7 (by decide) (by decide) (by decide)]; exact G71
  · rw [B0 8 (by decide) (by decide) (by decide)]; exact G8
  · intro k h1 h2
    rw [y14 k h2]
    exact e14 k (by omega)
  · intro q hq
    rw [y19]
    by_cases y : q = 8 * j + i
    · rw [if_pos y, if_pos y, y]
    · rw [if_neg y, if_neg y, gI_aIu _ _ _ _ _ (by decide), E 19 (by omega)]; exact d6 q hq
  · intro k hk
    rw [B0 _ (by omega) (by omega) (by omega), Gu]
    by_cases y : k = i
    · rw [if_pos y, if_pos y, y]
    · rw [if_neg y, if_neg y]; exact ((I.vj j hj).2.2.2.2.2 k hk).1
  · rw [yJ, if_neg (by decide), gJ_aI, GJ 0 8 (by decide), if_neg (by decide), if_neg (by decide), if_neg (by decide)]
  · rw [yJ, if_neg (by decide), gJ_aI, GJ 0 9 (by decide), if_pos (by decide)]
  · rw [yJ, if_neg (by decide), gJ_aI, GJ 0 10 (by decide), if_neg (by decide), if_pos (by decide)]
  · rw [yJ, if_neg (by decide), gJ_aI, GJ 0 11 (by decide), if_neg (by decide), if_neg (by decide), if_pos (by decide)]
  · rw [yJ, if_neg (by decide), gJ_aI, GJ 14 10 (by decide), if_neg (by decide), if_neg (by decide), if_neg (by decide)]
  · rw [yJ, if_pos (by decide)]
theorem op_print (I : Inv S ad n A s m) (hm : m < 512) (hK : nxt ad m K) (hp : ∀ x S1, mcJ (fun S g => wpX7_print S (ad 14) p q r g) ad K P x S1 → post x S1) : wpL_print S (ad 0) p q r (ad 29) post := by
  have h4 : n.1 ≤ 4 := I.h.2.2.1
  have px5 : ∀ j i c, j < n.1 → whl (s 3 j) (s 4 j) → i < cntf (s 3 j) (s 4 j) → 1 ≤ c → c ≤ 500 → ¬ (s 6 (8 * j + i) + c ≤ 9999 ∧ ∀ p, p < plc (s 3 j) → s 2 (conOn (s 3 j) (s 4 j) (jpg s j) i p) = 1) → mcJ (fun S g => wpX7_print S (ad 14) (nI j) (nI i) (nI c) g) ad K P (nI 5) S := by
    intro j i c hj w hi hc1 hc hN
    have h8 := i_lt I hj
    have h9 := I.st9 hj (i := i) (by omega)
    refine ⟨I.h.k l14, I.h.k l14, ms_yes I I.h (RO.rf _ (s 0 2)) hj w hi fun S2 k2 => ⟨fun _ => in500 (fun c' _ _ _ => ⟨fun _ => ⟨k2.k l14, ?_⟩, fun q => absurd q n10⟩) (fun z => n500 hc hc1 z), fun q => absurd q n10⟩⟩
    have x2 := RO.thr A (s 0 2) (nI 0)
    obtain ⟨f19, v19⟩ := rd k2 (t := 19) (k := 8 * j + i) (by decide) (show 8 * j + i < 32 by omega)
    rw [I.m19 x2 (by omega)] at v19
    refine ⟨ad 19, k2.r l14 rfl, k2.k (t := 19) LM, ?_⟩
    rw [pk_mul, nI_add]
    refine ⟨f19, ?_⟩
    rw [v19, nI_add]
    have ha : ∀ c, c < 12 → gI (aI A 14 0 (nI 0)) 20 c = nI (s 2 c) ∧ s 2 c ≤ 1 := fun c hc => ⟨by rw [gI_aIu _ _ _ _ _ (by decide)]; exact I.vm.2.2.2.1 c hc, (I.vb.2.1 c hc).2.1⟩
    refine ⟨fun z => mm_pr57 k2 (I.mjs x2 j hj) hi ha (f := 0) (by decide) (fun y => absurd y (by decide)) (fun _ S3 k3 => ?_), fun z => mm_pr57 k2 (I.mjs x2 j hj) hi ha (f := 1) (by decide) (fun _ y => absurd ⟨?_, y⟩ hN) (fun _ S3 k3 => ?_)⟩
    · exact fail_end I hm hK (x := 5) (by decide) (by decide) k3 (thr1 _ _ _ _) (gI_aI _ _ _ _)
    · exact fail_end I hm hK (x := 5) (by decide) (by decide) k3 (thr1 _ _ _ _) (gI_aI _ _ _ _)
    · rw [nI_ltI (by decide) (by omega)] at z; omega
  refine ⟨I.h.k l0, I.h.k l0, sp_completeJob I.h I.cj I.vj (fun j hj e w => ⟨_, rfl, sp_requireSheet I.h (jt hj) (I.vj j hj) (fun i hi e2 => sp_requireCount (fun c hc1 hc e3 => ⟨I.h.k l0, ?_⟩) (fun z => ⟨fun q => absurd q (by decide), fun q => absurd q (by decide), fun q => absurd q (by decide), fun _ => hp _ _ ?_, fun q => absurd q (by decide), Or.inr (Or.inr (Or.inr (Or.inl rfl)))⟩)) (fun z => ⟨fun q => absurd q (by decide), fun q => absurd q (by decide), fun _ => hp _ _ ?_, fun q => absurd q (by decide), fun q => absurd q (by decide), Or.inr (Or.inr (Or.inl rfl))⟩)⟩) (fun j hj e w => ⟨fun q => absurd q (by decide), fun _ => hp _ _ ?_, fun q => absurd q (by decide), fun q => absurd q (by decide), fun q => absurd q (by decide), Or.inr (Or.inl rfl)⟩) (fun z => ⟨fun _ => hp _ _ ?_, fun q => absurd q (by decide), fun q => absurd q (by decide), fun q => absurd q (by decide), fun q => absurd q (by decide), Or.inl rfl⟩)⟩
  · subst e
    subst e2
    subst e3
    have h8 := i_lt I hj
    have h9 := I.st9 hj (i := i) (by omega)
    have hb := I.vb.2.2.2.1 j hj
    have hb1 := I.vb.1
    refine sp_isWhollyApproved I.h (jt hj) (I.vj j hj) (ap := s 2) (fun c hc => ⟨I.vc.2.2.2.1 c hc, (I.vb.2.1 c hc).2.1⟩) hi (fun ha => ⟨fun _ => ⟨I.h.jk (jt hj), sp_stockOf I.h (jt hj) (I.vj j hj) (by omega) ?_⟩, fun q => absurd q n10⟩) (fun ha => ⟨fun q => absurd t0 q, fun _ => ⟨fun q => absurd q (by decide), fun q => absurd q (by decide), fun q => absurd q (by decide), fun q => absurd q (by decide), fun _ => hp _ _ (px5 j i c hj w hi hc1 hc fun y => ha y.2), Or.inr (Or.inr (Or.inr (Or.inr rfl)))⟩⟩)
    rw [nI_add]
    refine ⟨fun z => ⟨I.h.k l0, ?_⟩, fun z => ⟨fun q => absurd q (by decide), fun q => absurd q (by decide), fun q => absurd q (by decide), fun q => absurd q (by decide), fun _ => hp _ _ (px5 j i c hj w hi hc1 hc fun y => z ((nI_leI (by omega) (by decide)).2 y.1)), Or.inr (Or.inr (Or.inr (Or.inr rfl)))⟩⟩
    have hst : s 6 (8 * j + i) + c ≤ 9999 := (nI_leI (by omega) (by decide)).1 z
    obtain ⟨o0, k0, m0⟩ := I.side hj hi (t := 0) (by decide)
    obtain ⟨o1, kk1, m1⟩ := I.side hj hi (t := 1) (by decide)
    have q0 := pq_lt o0
    have q1 := pq_lt o1
    rw [← k0] at q0
    rw [← kk1] at q1
    refine sp_plateFor I.h (jt hj) (I.vj j hj) (st := s 1) (fun c hc => I.vc.co hc) hi (s := 0) (by decide) ⟨I.h.k l0, sp_plateFor I.h (jt hj) (I.vj j hj) (st := s 1) (fun c hc => I.vc.co hc) hi (s := 1) (by decide) ⟨I.h.k l0, ad 6, I.h.r l0 rfl, I.h.jk (jt hj), I.h.k (t := 6) LM, ?_⟩⟩
    rw [I.h.ji (jt hj), (I.vj j hj).1]
    refine sp_minutesFor I.h ⟨I.h.k l0, ad 6, I.h.r l0 rfl, I.h.jk (jt hj), I.h.k (t := 6) LM, ?_⟩
    rw [I.h.ji (jt hj), (I.vj j hj).1, mf_rdy I hj hi]
    generalize hmn : rdy (s 0 7) (s 0 8) (s 0 9) (jm s j i 0) (jm s j i 1) (s 3 j) = mn
    have hmn55 : mn ≤ 55 := by rw [← hmn]; exact rdy_le _ _ _ _ _ _
    refine sp_mount I.h (chr_b hb) fun S1 k1 => ⟨k1.k l0, ad 7, k1.r l0 rfl, k1.k (t := 7) LM, ?_⟩
    refine sp_mkT k1 (gI A 8, s 7, s 0 2) (x := jm s j i 0) (by rw [gI_aIu _ _ _ _ _ (by decide), gI_aIu _ _ _ _ _ (by decide), gI_aIu _ _ _ _ _ (by decide)]) (by rw [gI_aIu _ _ _ _ _ (by decide), gI_aIu _ _ _ _ _ (by decide), gI_aIu _ _ _ _ _ (by decide)]; exact I.vc.1.2.2.2.2) q0.1 q0.2 fun S2 A2 k2 y8 y7 yo yJ => ⟨k2.k l0, ad 7, k2.r l0 rfl, k2.k (t := 7) LM, ?_⟩
    refine sp_mkT k2 _ (x := jm s j i 1) y8 y7 q1.1 q1.2 fun S3 A3 k3 z8 z7 zo zJ => ⟨k3.jk (jt hj), ?_⟩
    have g3 : ∀ t, t ≠ 6 → t ≠ 7 → t ≠ 8 → gI A3 t = gI A t := fun t g6 g7 g8 => by rw [zo t g7 g8, yo t g7 g8, gI_aIu _ _ _ _ _ g6, gI_aIu _ _ _ _ _ g6, gI_aIu _ _ _ _ _ g6]
    have J3 : gJ A3 = gJ A := by rw [zJ, yJ]; rfl
    refine sp_addToStock k3 (jt hj) (by omega) (by rw [g3 _ (by omega) (by omega) (by omega)]; exact ((I.vj j hj).2.2.2.2.2 i (by omega)).1) (nI_add _ _) fun S4 k4 => ⟨k4.k l0, ?_⟩
    intro S49 e49
    have e9 : mJ S4 (ad 0) 9 + (nI c).toInt64 = lN (s 0 6 + c) := by rw [k4.j l0, gJ_aI, J3, I.vc.2.1.2.1, i2l (by omega), lN_add]
    rw [e9] at e49
    subst e49
    have k5 := k4.sJ l0 9 (lN (s 0 6 + c))
    intro S50 e50
    have e10 : mJ (sJ S4 (ad 0) 9 (lN (s 0 6 + c))) (ad 0) 10 + (1 : Int64) = lN (s 0 3 + 1) := by
      rw [k5.j l0, gJ_if, if_neg (by decide), gJ_aI, J3, I.vc.2.1.2.2.1, show (1 : Int64) = lN 1 from rfl, lN_add]
    rw [e10] at e50
    subst e50
    have k6 := k5.sJ l0 10 (lN (s 0 3 + 1))
    intro S51 e51
    have e11 : mJ (sJ (sJ S4 (ad 0) 9 (lN (s 0 6 + c))) (ad 0) 10 (lN (s 0 3 + 1))) (ad 0) 11 + (nI mn).toInt64 = lN (s 0 4 + mn) := by
      rw [k6.j l0, gJ_if, if_neg (by decide), gJ_if, if_neg (by decide), gJ_aI, J3, I.vc.2.1.2.2.2, i2l (by omega), lN_add]
    rw [e11] at e51
    subst e51
    have k7 := k6.sJ l0 11 (lN (s 0 4 + mn))
    refine put_out k7 fun S8 k8 => hp _ _ (mm_print I hm hK hj w hi hc1 hc hst ha hmn k8 ⟨fun t g6 g7 g8 gu => ?_, ?_, ?_, ?_, ?_, ?_, fun k => ?_, fun t k ht => ?_, ?_⟩)
    · rw [gI_aJ, gI_aJ, gI_aJ, gI_aJ, gI_aIu _ _ _ _ _ gu]
      exact g3 t g6 g7 g8
    · rw [gI_aJ, gI_aJ, gI_aJ, gI_aJ, gI_aIu _ _ _ _ _ (by omega), zo 6 (by decide) (by decide), yo 6 (by decide) (by decide), gI_aIk _ _ _ _ _ (by decide), gI_aIk _ _ _ _ _ (by decide), gI_aI]
    · rw [gI_aJ, gI_aJ, gI_aJ, gI_aJ, gI_aIu _ _ _ _ _ (by omega), zo 6 (by decide) (by decide), yo 6 (by decide) (by decide), gI_aIk _ _ _ _ _ (by decide), gI_aI]
    · rw [gI_aJ, gI_aJ, gI_aJ, gI_aJ, gI_aIu _ _ _ _ _ (by omega), zo 6 (by decide) (by decide), yo 6 (by decide) (by decide), gI_aI]
    · rw [gI_aJ, gI_aJ, gI_aJ, gI_aJ, gI_aIu _ _ _ _ _ (by omega)]; exact z7
    · rw [gI_aJ, gI_aJ, gI_aJ, gI_aJ, gI_aIu _ _ _ _ _ (by omega)]; exact z8
    · rw [gI_aJ, gI_aJ, gI_aJ, gI_aJ, gI_if, g3 _ (by omega) (by omega) (by omega)]
      by_cases y : k = i
      · rw [if_pos ⟨rfl, y⟩, if_pos y]
      · rw [if_neg (fun z => y z.2), if_neg y]
    · rw [gJ_aJu _ _ _ _ _ ht, gJ_if, gJ_if, gJ_if, gJ_aI, J3]
      by_cases y11 : t = 0 ∧ k = 11
      · rw [if_pos y11, if_neg (by omega), if_neg (by omega), if_pos y11]
      · rw [if_neg y11]
        by_cases y10 : t = 0 ∧ k = 10
        · rw [if_pos y10, if_neg (by omega), if_pos y10]
        · rw [if_neg y10, if_neg y10, if_neg y11]
    · exact gJ_aJ _ _ _ _
  · subst e
    subst e2
    exact ⟨I.h.k l14, I.h.k l14, ms_yes I I.h (RO.rf _ (s 0 2)) hj w hi fun S2 k2 => ⟨fun _ => in500 (fun c' h1 h2 e' => n500 h2 h1 (e' ▸ z)) (fun _ => ⟨fun q => absurd t0 q, fun _ => ⟨k2.k l14, mm_fails k2 fun S3 k3 => fail_end I hm hK (x := 4) (by decide) (by decide) k3 (thr1 _ _ _ _) (gI_aI _ _ _ _)⟩⟩), fun q => absurd q n10⟩⟩
  · subst e
    exact ⟨I.h.k l14, I.h.k l14, ms_3 I I.h (RO.rf _ (s 0 2)) hj w z fun S2 k2 => ⟨fun q => absurd t0 q, fun _ => fail_end I hm hK (x := 3) (by decide) (by decide) k2 (thr1 _ _ _ _) (gI_aI _ _ _ _)⟩⟩
  · subst e
    exact ⟨I.h.k l14, I.h.k l14, ms_2 I I.h (RO.rf _ (s 0 2)) hj w fun S2 k2 => ⟨fun q => absurd t0 q, fun _ => fail_end I hm hK (x := 2) (by decide) (by decide) k2 (RO.thr _ _ _) (gI_aI _ _ _ _)⟩⟩
  · exact ⟨I.h.k l14, I.h.k l14, ms_1 I I.h (RO.rf _ (s 0 2)) z fun S2 k2 => ⟨fun q => absurd t0 q, fun _ => fail_end I hm hK (x := 1) (by decide) (by decide) k2 (RO.thr _ _ _) (gI_aI _ _ _ _)⟩⟩
end
