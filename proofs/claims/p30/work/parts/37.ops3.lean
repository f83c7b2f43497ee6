/-! ===== print, bind ===== -/
section
variable {S S1 S' : Mem} {ad ad' : Nat → Nat} {A A' A1 : AM} {n : Nat × Nat} {s : Sta} {m b : Nat} {post : Int32 → Mem → Prop} {px : Nat → Mem → Prop} {p q r : Int32} {j i k l c : Nat} {T : TT}
def sPr (s : Sta) (j i c mn : Nat) (T : TT) : Sta := fun t k =>
  if t = 0 then (if k = 2 then T.2.2 else if k = 3 then s 0 3 + 1 else if k = 4 then s 0 4 + mn else if k = 6 then s 0 6 + c else if k = 7 then jm s j i 0 else if k = 8 then jm s j i 1 else if k = 9 then s 3 j else s 0 k)
  else if t = 6 then (if k = 8 * j + i then s 6 k + c else s 6 k) else if t = 7 then T.2.1 k else s t k
theorem inv_print (I : Inv S ad n A s m) (hm : m < 512) (hj : j < n.1) (w : whl (s 3 j) (s 4 j)) (hi : i < cntf (s 3 j) (s 4 j)) (hc : c ≤ 500) (hst : s 6 (8 * j + i) + c ≤ 9999) {mn : Nat} (hmn : mn ≤ 55) (hT : PLt T s) (hT2 : T.2.2 ≤ s 0 2 + 2) (k : Rel S1 ad n A')
    (e0 : ∀ t, t ≠ 6 → t ≠ 7 → t ≠ 8 → t ≠ 40 + 3 * j + 2 → gI A' t = gI A t)
    (e60 : gI A' 6 0 = nI (jk s j i 0)) (e61 : gI A' 6 1 = nI (jk s j i 1)) (e62 : gI A' 6 2 = nI (s 3 j)) (e71 : gI A' 7 1 = nI T.2.2) (e8 : gI A' 8 = T.1)
    (eu2 : ∀ k, k < 8 → gI A' (40 + 3 * j + 2) k = nI (if k = i then s 6 (8 * j + k) + c else s 6 (8 * j + k)))
    (j8 : gJ A' 0 8 = gJ A 0 8) (j9 : gJ A' 0 9 = lN (s 0 6 + c)) (j10 : gJ A' 0 10 = lN (s 0 3 + 1)) (j11 : gJ A' 0 11 = lN (s 0 4 + mn)) : Inv S1 ad n A' (sPr s j i c mn T) (m + 1) := by
  obtain ⟨⟨b1, b2, b3, b4, b5, b6, b7, b8⟩, b9, b10, b11, b12, b13, b14, b15, b16⟩ := I.vb
  have h4 : n.1 ≤ 4 := I.h.2.2.1
  have h8 := i_lt I hj
  have E : ∀ t, t < 6 ∨ (9 ≤ t ∧ t < 40) ∨ 60 ≤ t → gI A' t = gI A t := fun t h => e0 t (by omega) (by omega) (by omega) (by omega)
  refine ⟨k, ?_, ?_, ?_⟩
  · obtain ⟨⟨a1, a2, a3, a4, a5⟩, ⟨f1, f2, f3, f4⟩, c2', c3', c4', cj, cl'⟩ := I.vc
    refine ⟨⟨?_, ?_, ?_, ?_, e71⟩, ⟨j8.trans f1, j9, j10, j11⟩, ?_, ?_, ?_, fun l hl => ?_, fun l hl => ?_⟩
    · rw [E 1 (by omega)]; exact a1
    · rw [E 1 (by omega)]; exact a2
    · rw [E 0 (by omega)]; exact a3
    · rw [E 0 (by omega)]; exact a4
    · rw [E 2 (by omega)]; exact c2'
    · rw [E 3 (by omega)]; exact c3'
    · rw [E 4 (by omega)]; exact c4'
    · show VJ A' (40 + 3 * l) (s 3 l) (s 4 l) (fun k => s 5 (16 * l + k)) (fun k => if 8 * l + k = 8 * j + i then s 6 (8 * l + k) + c else s 6 (8 * l + k))
      obtain ⟨h1, h2, h3, h4', h5, h6⟩ := cj l hl
      have E1 : gI A' (40 + 3 * l) = gI A (40 + 3 * l) := e0 _ (by omega) (by omega) (by omega) (by omega)
      have E2 : gI A' (40 + 3 * l + 1) = gI A (40 + 3 * l + 1) := e0 _ (by omega) (by omega) (by omega) (by omega)
      refine ⟨by rw [E1]; exact h1, h2, by rw [E1]; exact h3, h4', by rw [E2]; exact h5, fun k hk => ?_⟩
      show gI A' (40 + 3 * l + 2) k = nI (if 8 * l + k = 8 * j + i then s 6 (8 * l + k) + c else s 6 (8 * l + k)) ∧ (if 8 * l + k = 8 * j + i then s 6 (8 * l + k) + c else s 6 (8 * l + k)) ≤ 9999
      by_cases y : l = j
      · subst y
        by_cases g : k = i
        · have := eu2 k hk
          rw [if_pos g] at this
          subst g
          rw [if_pos rfl]
          exact ⟨this, hst⟩
        · have := eu2 k hk
          rw [if_neg g] at this
          rw [if_neg (by omega)]
          exact ⟨this, (h6 k hk).2⟩
      · rw [if_neg (by omega), e0 _ (by omega) (by omega) (by omega) (by omega)]
        exact h6 k hk
    · show VL A' (60 + 3 * l) (s 9 l) (s 10 l) (s 13 l) (fun k => s 5 (16 * s 8 l + k)) (fun k => s 11 (16 * l + k))
      have := cl' l hl
      unfold VL at this ⊢
      rw [E (60 + 3 * l) (by omega), E (60 + 3 * l + 1) (by omega), E (60 + 3 * l + 2) (by omega)]
      exact this
  · refine ⟨⟨b1, Nat.le_succ_of_le b2, ?_, Nat.succ_le_succ b4, ?_, ?_, ?_, by omega⟩, b9, b10, b11, b12, b13, b14, fun l hl k hk => ?_, b16⟩
    · show T.2.2 ≤ 2 * (s 0 3 + 1); omega
    · show s 0 4 + mn ≤ 55 * (m + 1); omega
    · show s 0 5 ≤ 320000 * (m + 1); omega
    · show s 0 6 + c ≤ 500 * (m + 1); omega
    · show (if 8 * l + k = 8 * j + i then s 6 (8 * l + k) + c else s 6 (8 * l + k)) ≤ 9999 ∧ (¬ (l < n.1 ∧ whl (s 3 l) (s 4 l) ∧ k < cntf (s 3 l) (s 4 l)) → (if 8 * l + k = 8 * j + i then s 6 (8 * l + k) + c else s 6 (8 * l + k)) = 0)
      by_cases y : 8 * l + k = 8 * j + i
      · have e1 : l = j := by omega
        have e2 : k = i := by omega
        subst e1 e2
        rw [if_pos rfl]
        exact ⟨hst, fun z => absurd ⟨hj, w, hi⟩ z⟩
      · rw [if_neg y]; exact b15 l hl k hk
  · have hb := b11 j hj
    have hs9 : ∀ c, c < 12 → s 1 c ≤ 99 := fun c hc => (b9 c hc).1
    obtain ⟨o0, k0, m0⟩ := I.side hj hi (t := 0) (by decide)
    obtain ⟨o1, k1, m1⟩ := I.side hj hi (t := 1) (by decide)
    unfold VP
    rw [e8, e60, e61, e62]
    refine ⟨⟨Or.inr ⟨jp s j i 0, _, _, o0, m0, by rw [k0]⟩, Or.inr ⟨jp s j i 1, _, _, o1, m1, by rw [k1]⟩, ?_, Or.inr hb⟩, hT.1, hT.2.1, hT.2.2⟩
    show nI (s 3 j) = nI (if s 3 j = 0 then 32 else s 3 j)
    rw [if_neg]
    rcases hb with e | e | e <;> omega
def T2 (A : AM) (s : Sta) (j i : Nat) : TT := tst (tst (gI A 8, s 7, s 0 2) (jp s j i 0) (jk s j i 0) (jm s j i 0)) (jp s j i 1) (jk s j i 1) (jm s j i 1)
theorem T2_ok (I : Inv S ad n A s m) (hj : j < n.1) (hi : i < cntf (s 3 j) (s 4 j)) : PLt (T2 A s j i) s ∧ s 0 2 ≤ (T2 A s j i).2.2 ∧ (T2 A s j i).2.2 ≤ s 0 2 + 2 := by
  have hs9 : ∀ c, c < 12 → s 1 c ≤ 99 := fun c hc => I.s99 hc
  obtain ⟨-, pb, pc, pd⟩ := I.vp
  obtain ⟨o0, k0, m0⟩ := I.side hj hi (t := 0) (by decide)
  obtain ⟨o1, kk1, m1⟩ := I.side hj hi (t := 1) (by decide)
  have P0 : PLt (gI A 8, s 7, s 0 2) s := ⟨pb, pc, pd⟩
  have P1 : PLt (tst (gI A 8, s 7, s 0 2) (jp s j i 0) (jk s j i 0) (jm s j i 0)) s := by rw [k0, m0]; exact P0.st hs9 o0.1
  have P2 : PLt (T2 A s j i) s := by
    unfold T2
    rw [kk1, m1]
    exact P1.st hs9 o1.1
  have l1 : (tst (gI A 8, s 7, s 0 2) (jp s j i 0) (jk s j i 0) (jm s j i 0)).2.2 ≤ s 0 2 + 1 := tst_le (T := (gI A 8, s 7, s 0 2)) (p := jp s j i 0) (q := jk s j i 0) (x := jm s j i 0)
  have l2 : (T2 A s j i).2.2 ≤ (tst (gI A 8, s 7, s 0 2) (jp s j i 0) (jk s j i 0) (jm s j i 0)).2.2 + 1 := tst_le (T := tst (gI A 8, s 7, s 0 2) (jp s j i 0) (jk s j i 0) (jm s j i 0)) (p := jp s j i 1) (q := jk s j i 1) (x := jm s j i 1)
  have g1 : s 0 2 ≤ (tst (gI A 8, s 7, s 0 2) (jp s j i 0) (jk s j i 0) (jm s j i 0)).2.2 := tst_ge (T := (gI A 8, s 7, s 0 2)) (p := jp s j i 0) (q := jk s j i 0) (x := jm s j i 0)
  have g2 : (tst (gI A 8, s 7, s 0 2) (jp s j i 0) (jk s j i 0) (jm s j i 0)).2.2 ≤ (T2 A s j i).2.2 := tst_ge (T := tst (gI A 8, s 7, s 0 2) (jp s j i 0) (jk s j i 0) (jm s j i 0)) (p := jp s j i 1) (q := jk s j i 1) (x := jm s j i 1)
  exact ⟨P2, by omega, by omega⟩
theorem wr_print (I : Inv S ad n A s m) (hm : m < 512) (h1 : ∀ j i c S' A', j < n.1 → p = nI j → whl (s 3 j) (s 4 j) → i < cntf (s 3 j) (s 4 j) → q = nI i → 1 ≤ c → c ≤ 500 → r = nI c → s 6 (8 * j + i) + c ≤ 9999 → Inv S' ad n A' (sPr s j i c (rds s j i) (T2 A s j i)) (m + 1) → LK A A' → gI A' 8 = (T2 A s j i).1 → post (nI (rds s j i)) S') (h0 : ∀ v : Int32, v.toInt < 0 → post v S) : wpL_print S (ad 0) p q r post := by
  have h4 : n.1 ≤ 4 := I.h.2.2.1
  refine ⟨I.h.k l0, I.h.k l0, sp_completeJob I.h I.cj I.vj (fun j hj e w => ⟨_, rfl, sp_requireSheet I.h (jt hj) (I.vj j hj) (fun i hi e2 => sp_requireCount (fun c hc1 hc e3 => ⟨I.h.k l0, ?_⟩) (fun z => ⟨fun q => absurd q (by decide), fun q => absurd q (by decide), fun q => absurd q (by decide), fun _ => h0 _ ng78, fun q => absurd q (by decide), Or.inr (Or.inr (Or.inr (Or.inl rfl)))⟩)) (fun z => ⟨fun q => absurd q (by decide), fun q => absurd q (by decide), fun _ => h0 _ ng75, fun q => absurd q (by decide), fun q => absurd q (by decide), Or.inr (Or.inr (Or.inl rfl))⟩)⟩) (fun j hj e w => ⟨fun q => absurd q (by decide), fun _ => h0 _ ng79, fun q => absurd q (by decide), fun q => absurd q (by decide), fun q => absurd q (by decide), Or.inr (Or.inl rfl)⟩) (fun z => ⟨fun _ => h0 _ ng77, fun q => absurd q (by decide), fun q => absurd q (by decide), fun q => absurd q (by decide), fun q => absurd q (by decide), Or.inl rfl⟩)⟩
  subst e
  subst e2
  subst e3
  have h8 := i_lt I hj
  have h9 := I.st9 hj (i := i) (by omega)
  have hb := I.vb.2.2.2.1 j hj
  have hb1 := I.vb.1
  refine sp_isWhollyApproved I.h (jt hj) (I.vj j hj) (ap := s 2) (fun c hc => ⟨I.vc.2.2.2.1 c hc, (I.vb.2.1 c hc).2.1⟩) hi (fun ha => ⟨fun _ => ⟨I.h.jk (jt hj), sp_stockOf I.h (jt hj) (I.vj j hj) (by omega) ?_⟩, fun q => absurd q n10⟩) (fun ha => ⟨fun q => absurd t0 q, fun _ => ⟨fun q => absurd q (by decide), fun q => absurd q (by decide), fun q => absurd q (by decide), fun q => absurd q (by decide), fun _ => h0 _ ng76, Or.inr (Or.inr (Or.inr (Or.inr rfl)))⟩⟩)
  rw [nI_add]
  refine ⟨fun z => ⟨I.h.k l0, ?_⟩, fun z => ⟨fun q => absurd q (by decide), fun q => absurd q (by decide), fun q => absurd q (by decide), fun q => absurd q (by decide), fun _ => h0 _ ng76, Or.inr (Or.inr (Or.inr (Or.inr rfl)))⟩⟩
  have hst : s 6 (8 * j + i) + c ≤ 9999 := (nI_leI (by omega) (by decide)).1 z
  obtain ⟨o0, k0, m0⟩ := I.side hj hi (t := 0) (by decide)
  obtain ⟨o1, kk1, m1⟩ := I.side hj hi (t := 1) (by decide)
  have q0 := pq_lt o0
  have q1 := pq_lt o1
  rw [← k0] at q0
  rw [← kk1] at q1
  refine sp_plateFor I.h (jt hj) (I.vj j hj) (st := s 1) (fun c hc => I.vc.co hc) hi (s := 0) (by decide) ⟨I.h.k l0, sp_plateFor I.h (jt hj) (I.vj j hj) (st := s 1) (fun c hc => I.vc.co hc) hi (s := 1) (by decide) ⟨I.h.k l0, ad 6, I.h.r l0 rfl, I.h.jk (jt hj), I.h.k (t := 6) LM, ?_⟩⟩
  rw [I.h.ji (jt hj), (I.vj j hj).1]
  refine sp_minutesFor I.h ⟨I.h.k l0, ad 6, I.h.r l0 rfl, I.h.jk (jt hj), I.h.k (t := 6) LM, ?_⟩
  rw [I.h.ji (jt hj), (I.vj j hj).1, mf_rdy I hj hi]
  generalize hmn : rdy (s 0 7) (s 0 8) (s 0 9) (jm s j i 0) (jm s j i 1) (s 3 j) = mn
  have hmn55 : mn ≤ 55 := by rw [← hmn]; exact rdy_le _ _ _ _ _ _
  refine sp_mount I.h (chr_b hb) fun S1 k1 => ⟨k1.k l0, ad 7, k1.r l0 rfl, k1.k (t := 7) LM, ?_⟩
  refine sp_mkT k1 (gI A 8, s 7, s 0 2) (x := jm s j i 0) (by rw [gI_aIu _ _ _ _ _ (by decide), gI_aIu _ _ _ _ _ (by decide), gI_aIu _ _ _ _ _ (by decide)]) (by rw [gI_aIu _ _ _ _ _ (by decide), gI_aIu _ _ _ _ _ (by decide), gI_aIu _ _ _ _ _ (by decide)]; exact I.vc.1.2.2.2.2) q0.1 q0.2 fun S2 A2 k2 y8 y7 yo yJ => ⟨k2.k l0, ad 7, k2.r l0 rfl, k2.k (t := 7) LM, ?_⟩
  refine sp_mkT k2 _ (x := jm s j i 1) y8 y7 q1.1 q1.2 fun S3 A3 k3 z8 z7 zo zJ => ⟨k3.jk (jt hj), ?_⟩
  have g3 : ∀ t, t ≠ 6 → t ≠ 7 → t ≠ 8 → gI A3 t = gI A t := fun t g6 g7 g8 => by rw [zo t g7 g8, yo t g7 g8, gI_aIu _ _ _ _ _ g6, gI_aIu _ _ _ _ _ g6, gI_aIu _ _ _ _ _ g6]
  have J3 : gJ A3 = gJ A := by rw [zJ, yJ]; rfl
  refine sp_addToStock k3 (jt hj) (by omega) (by rw [g3 _ (by omega) (by omega) (by omega)]; exact ((I.vj j hj).2.2.2.2.2 i (by omega)).1) (nI_add _ _) fun S4 k4 => ⟨k4.k l0, ?_⟩
  intro S49 e49
  have e9 : mJ S4 (ad 0) 9 + (nI c).toInt64 = lN (s 0 6 + c) := by rw [k4.j l0, gJ_aI, J3, I.vc.2.1.2.1, i2l (by omega), lN_add]
  rw [e9] at e49
  subst e49
  have k5 := k4.sJ l0 9 (lN (s 0 6 + c))
  intro S50 e50
  have e10 : mJ (sJ S4 (ad 0) 9 (lN (s 0 6 + c))) (ad 0) 10 + (1 : Int64) = lN (s 0 3 + 1) := by
    rw [k5.j l0, gJ_if, if_neg (by decide), gJ_aI, J3, I.vc.2.1.2.2.1, show (1 : Int64) = lN 1 from rfl, lN_add]
  rw [e10] at e50
  subst e50
  have k6 := k5.sJ l0 10 (lN (s 0 3 + 1))
  intro S51 e51
  have e11 : mJ (sJ (sJ S4 (ad 0) 9 (lN (s 0 6 + c))) (ad 0) 10 (lN (s 0 3 + 1))) (ad 0) 11 + (nI mn).toInt64 = lN (s 0 4 + mn) := by
    rw [k6.j l0, gJ_if, if_neg (by decide), gJ_if, if_neg (by decide), gJ_aI, J3, I.vc.2.1.2.2.2, i2l (by omega), lN_add]
  rw [e11] at e51
  subst e51
  have k7 := k6.sJ l0 11 (lN (s 0 4 + mn))
  obtain ⟨P2, T2a, T2b⟩ := T2_ok I hj hi
  have o : ∀ t, t ≠ 40 + 3 * j + 2 → gI (aJ (aJ (aJ (aI A3 (40 + 3 * j + 2) i (nI (s 6 (8 * j + i) + c))) 0 9 (lN (s 0 6 + c))) 0 10 (lN (s 0 3 + 1))) 0 11 (lN (s 0 4 + mn))) t = gI A3 t := fun t gu => by
    rw [gI_aJ, gI_aJ, gI_aJ, gI_aIu _ _ _ _ _ gu]
  subst hmn
  refine h1 j i c _ _ hj rfl w hi rfl hc1 hc rfl hst (inv_print I hm hj w hi hc hst hmn55 P2 T2b k7 (fun t g6 g7 g8 gu => ?_) ?_ ?_ ?_ ?_ ?_ (fun k hk => ?_) ?_ ?_ ?_ ?_) (fun t g1 g2 => ?_) ?_
  · rw [o t gu]
    exact g3 t g6 g7 g8
  · rw [o 6 (by omega), zo 6 (by decide) (by decide), yo 6 (by decide) (by decide), gI_aIk _ _ _ _ _ (by decide), gI_aIk _ _ _ _ _ (by decide), gI_aI]
  · rw [o 6 (by omega), zo 6 (by decide) (by decide), yo 6 (by decide) (by decide), gI_aIk _ _ _ _ _ (by decide), gI_aI]
  · rw [o 6 (by omega), zo 6 (by decide) (by decide), yo 6 (by decide) (by decide), gI_aI]
  · rw [o 7 (by omega)]; exact z7
  · rw [o 8 (by omega)]; exact z8
  · rw [gI_aJ, gI_aJ, gI_aJ, gI_if, g3 _ (by omega) (by omega) (by omega)]
    by_cases y : k = i
    · rw [if_pos ⟨rfl, y⟩, if_pos y, y]
    · rw [if_neg (fun z => y z.2), if_neg y]; exact ((I.vj j hj).2.2.2.2.2 k hk).1
  · rw [gJ_if, if_neg (by decide), gJ_if, if_neg (by decide), gJ_if, if_neg (by decide), gJ_aI, J3]
  · rw [gJ_if, if_neg (by decide), gJ_if, if_neg (by decide), gJ_aJ]
  · rw [gJ_if, if_neg (by decide), gJ_aJ]
  · rw [gJ_aJ]
  · rw [o t (by omega)]
    exact g3 t (by omega) (by omega) (by omega)
  · rw [o 8 (by omega)]; exact z8
theorem sm_z {f : Nat → Nat} : ∀ {N : Nat}, sm f N = 0 → ∀ k, k < N → f k = 0
  | 0, _, k, hk => absurd hk (by omega)
  | N + 1, h, k, hk => by
    have h' : sm f N + f N = 0 := h
    by_cases y : k = N
    · subst y; omega
    · exact sm_z (N := N) (by omega) k (by omega)
theorem sm_0 {f : Nat → Nat} : ∀ {N : Nat}, (∀ k, k < N → f k = 0) → sm f N = 0
  | 0, _ => rfl
  | N + 1, h => by
    show sm f N + f N = 0
    rw [sm_0 (N := N) fun k hk => h k (by omega), h N (by omega)]
def sB (s : Sta) (n : Nat × Nat) (j c : Nat) : Sta := fun t k =>
  if t = 6 then (if k / 8 = j ∧ k % 8 < cntf (s 3 j) (s 4 j) then s 6 k - c else s 6 k) else if t = 8 then (if k = n.2 then j else s 8 k)
  else if t = 9 then (if k = n.2 then c else s 9 k) else if t = 10 then (if k = n.2 then s 4 j else s 10 k) else if t = 13 then (if k = n.2 then s 0 1 else s 13 k)
  else if t = 11 then (if k / 16 = n.2 then s 1 (s 5 (16 * j + k % 16)) else s 11 k) else s t k
theorem inv_bind (I : Inv S ad n A s m) (hm : m < 512) (hj : j < n.1) (hn : n.2 < 100) (w : whl (s 3 j) (s 4 j)) (hc : c ≤ 500) (k : Rel S1 ad' (n.1, n.2 + 1) A')
    (e0 : ∀ t, t ≠ 0 → t ≠ 40 + 3 * j + 2 → t ≠ 60 + 3 * n.2 → t ≠ 60 + 3 * n.2 + 1 → t ≠ 60 + 3 * n.2 + 2 → gI A' t = gI A t)
    (e6 : gI A' 0 6 = gI A 0 6) (e7 : gI A' 0 7 = nI (n.2 + 1))
    (eu2 : ∀ k, k < 8 → gI A' (40 + 3 * j + 2) k = nI (if k < cntf (s 3 j) (s 4 j) then s 6 (8 * j + k) - c else s 6 (8 * j + k)))
    (vl : VL A' (60 + 3 * n.2) c (s 4 j) (s 0 1) (jpg s j) (fun k => s 1 (jpg s j k))) (ej : ∀ t, t = 0 → gJ A' t = gJ A t) : Inv S1 ad' (n.1, n.2 + 1) A' (sB s n j c) (m + 1) := by
  obtain ⟨⟨b1, b2, b3, b4, b5, b6, b7, b8⟩, b9, b10, b11, b12, b13, b14, b15, b16⟩ := I.vb
  have h4 : n.1 ≤ 4 := I.h.2.2.1
  have h16 : s 4 j ≤ 16 := b12 j (by omega)
  have E : ∀ t, (1 ≤ t ∧ t < 40) → gI A' t = gI A t := fun t h => e0 t (by omega) (by omega) (by omega) (by omega) (by omega)
  have EL : ∀ l d, l < n.2 → d < 3 → gI A' (60 + 3 * l + d) = gI A (60 + 3 * l + d) := fun l d hl hd => e0 _ (by omega) (by omega) (by omega) (by omega) (by omega)
  have s8 : ∀ l, l < n.2 → sB s n j c 8 l = s 8 l := fun l hl => by
    show (if l = n.2 then j else s 8 l) = s 8 l
    exact if_neg (by omega)
  have s9 : ∀ l, l < n.2 → sB s n j c 9 l = s 9 l := fun l hl => by
    show (if l = n.2 then c else s 9 l) = s 9 l
    exact if_neg (by omega)
  have s10 : ∀ l, l < n.2 → sB s n j c 10 l = s 10 l := fun l hl => by
    show (if l = n.2 then s 4 j else s 10 l) = s 10 l
    exact if_neg (by omega)
  have s13 : ∀ l, l < n.2 → sB s n j c 13 l = s 13 l := fun l hl => by
    show (if l = n.2 then s 0 1 else s 13 l) = s 13 l
    exact if_neg (by omega)
  have s11 : ∀ l k, l < n.2 → k < 16 → sB s n j c 11 (16 * l + k) = s 11 (16 * l + k) := fun l k hl hk => by
    show (if (16 * l + k) / 16 = n.2 then s 1 (s 5 (16 * j + (16 * l + k) % 16)) else s 11 (16 * l + k)) = s 11 (16 * l + k)
    exact if_neg (by omega)
  have t8 : sB s n j c 8 n.2 = j := by
    show (if n.2 = n.2 then j else s 8 n.2) = j
    exact if_pos rfl
  have t9 : sB s n j c 9 n.2 = c := by
    show (if n.2 = n.2 then c else s 9 n.2) = c
    exact if_pos rfl
  have t10 : sB s n j c 10 n.2 = s 4 j := by
    show (if n.2 = n.2 then s 4 j else s 10 n.2) = s 4 j
    exact if_pos rfl
  have t13 : sB s n j c 13 n.2 = s 0 1 := by
    show (if n.2 = n.2 then s 0 1 else s 13 n.2) = s 0 1
    exact if_pos rfl
  have t11 : ∀ k, k < 16 → sB s n j c 11 (16 * n.2 + k) = s 1 (s 5 (16 * j + k)) := by
    intro k hk
    show (if (16 * n.2 + k) / 16 = n.2 then s 1 (s 5 (16 * j + (16 * n.2 + k) % 16)) else s 11 (16 * n.2 + k)) = _
    rw [if_pos (by omega), show (16 * n.2 + k) % 16 = k by omega]
  have hsub : ∀ q, sB s n j c 6 q ≤ s 6 q := by
    intro q
    show (if q / 8 = j ∧ q % 8 < cntf (s 3 j) (s 4 j) then s 6 q - c else s 6 q) ≤ s 6 q
    split
    · exact Nat.sub_le _ _
    · exact Nat.le_refl _
  refine ⟨k, ?_, ?_, ?_⟩
  · obtain ⟨⟨a1, a2, a3, a4, a5⟩, ⟨f1, f2, f3, f4⟩, c2', c3', c4', cj, cl'⟩ := I.vc
    refine ⟨⟨?_, ?_, e6.trans a3, e7, ?_⟩, ⟨?_, ?_, ?_, ?_⟩, ?_, ?_, ?_, fun i hi => ?_, fun l hl => ?_⟩
    · rw [E 1 (by omega)]; exact a1
    · rw [E 1 (by omega)]; exact a2
    · rw [E 7 (by omega)]; exact a5
    · rw [ej 0 rfl]; exact f1
    · rw [ej 0 rfl]; exact f2
    · rw [ej 0 rfl]; exact f3
    · rw [ej 0 rfl]; exact f4
    · rw [E 2 (by omega)]; exact c2'
    · rw [E 3 (by omega)]; exact c3'
    · rw [E 4 (by omega)]; exact c4'
    · show VJ A' (40 + 3 * i) (s 3 i) (s 4 i) (fun k => s 5 (16 * i + k)) (fun k => sB s n j c 6 (8 * i + k))
      obtain ⟨h1, h2, h3, h4', h5, h6⟩ := cj i hi
      have hi' : i < n.1 := hi
      have E1 : gI A' (40 + 3 * i) = gI A (40 + 3 * i) := e0 _ (by omega) (by omega) (by omega) (by omega) (by omega)
      have E2 : gI A' (40 + 3 * i + 1) = gI A (40 + 3 * i + 1) := e0 _ (by omega) (by omega) (by omega) (by omega) (by omega)
      refine ⟨by rw [E1]; exact h1, h2, by rw [E1]; exact h3, h4', by rw [E2]; exact h5, fun k hk => ⟨?_, Nat.le_trans (hsub _) (h6 k hk).2⟩⟩
      show gI A' (40 + 3 * i + 2) k = nI (if (8 * i + k) / 8 = j ∧ (8 * i + k) % 8 < cntf (s 3 j) (s 4 j) then s 6 (8 * i + k) - c else s 6 (8 * i + k))
      rw [show (8 * i + k) / 8 = i by omega, show (8 * i + k) % 8 = k by omega]
      by_cases y : i = j
      · subst y
        rw [eu2 k hk]
        by_cases g : k < cntf (s 3 i) (s 4 i)
        · rw [if_pos g, if_pos ⟨rfl, g⟩]
        · rw [if_neg g, if_neg (fun z => g z.2)]
      · rw [if_neg (fun z => y z.1), e0 _ (by omega) (by omega) (by omega) (by omega) (by omega)]
        exact (h6 k hk).1
    · show VL A' (60 + 3 * l) (sB s n j c 9 l) (sB s n j c 10 l) (sB s n j c 13 l) (fun k => s 5 (16 * sB s n j c 8 l + k)) (fun k => sB s n j c 11 (16 * l + k))
      by_cases y : l = n.2
      · subst y
        rw [t8, t9, t10, t13]
        obtain ⟨g1, g2, g3, g4, g5, g6⟩ := vl
        refine ⟨g1, g2, g3, g4, g5, fun k hk => ?_⟩
        have := g6 k hk
        have e := t11 k (by omega)
        simp only [e]
        exact this
      · have hl' : l < n.2 + 1 := hl
        have hl2 : l < n.2 := by omega
        obtain ⟨g1, g2, g3, g4, g5, g6⟩ := cl' l hl2
        have E0 := EL l 0 hl2 (by decide)
        have E1 := EL l 1 hl2 (by decide)
        have E2 := EL l 2 hl2 (by decide)
        rw [s8 l hl2, s9 l hl2, s10 l hl2, s13 l hl2]
        refine ⟨(congrFun E0 0).trans g1, (congrFun E0 1).trans g2, (congrFun E0 2).trans g3, g4, g5, fun k hk => ?_⟩
        have := g6 k hk
        have e := s11 l k hl2 (by omega)
        simp only [e]
        exact ⟨(congrFun E1 k).trans this.1, (congrFun E2 k).trans this.2.1, this.2.2⟩
  · refine ⟨⟨b1, Nat.le_succ_of_le b2, b3, Nat.le_succ_of_le b4, ?_, ?_, ?_, by omega⟩, b9, b10, b11, b12, b13, b14, fun i hi k hk => ⟨Nat.le_trans (hsub _) (b15 i hi k hk).1, fun z => ?_⟩, fun l hl => ?_⟩
    · show s 0 4 ≤ 55 * (m + 1); omega
    · show s 0 5 ≤ 320000 * (m + 1); omega
    · show s 0 6 ≤ 500 * (m + 1); omega
    · have := (b15 i hi k hk).2 z
      have := hsub (8 * i + k)
      omega
    · by_cases y : l = n.2
      · subst y
        rw [t8, t9, t10, t13]
        refine ⟨hj, Nat.le_refl _, hc, Nat.le_refl _, fun k hk => ?_⟩
        rw [t11 k (by omega)]
        exact (b9 _ (Nat.lt_of_lt_of_le (b13 j (by omega) k hk) b1)).2.2
      · have hl' : l < n.2 + 1 := hl
        have hl2 : l < n.2 := by omega
        have h10 := I.l16 hl2
        obtain ⟨g1, g2, g3, g4, g5⟩ := b16 l hl2
        rw [s8 l hl2, s9 l hl2, s10 l hl2, s13 l hl2]
        exact ⟨g1, g2, g3, g4, fun k hk => by rw [s11 l k hl2 (by omega)]; exact g5 k hk⟩
  · unfold VP
    rw [E 6 (by omega), E 8 (by omega)]
    exact I.vp
theorem jsm (I : Inv S ad n A s m) (hj : j < n.1) (hc : c ≤ 500) : sm (fun k => c - s 6 (8 * j + k)) (cntf (s 3 j) (s 4 j)) ≤ 4000 := by
  have h8 := i_lt I hj
  have := sm_le (f := fun k => c - s 6 (8 * j + k)) (c := 500) (N := cntf (s 3 j) (s 4 j)) fun k _ => by show c - s 6 (8 * j + k) ≤ 500; omega
  omega
theorem wr_bind (I : Inv S ad n A s m) (hm : m < 512) (hn2 : n.2 < 100) (h1 : ∀ j c S' ad' A', j < n.1 → p = nI j → whl (s 3 j) (s 4 j) → 1 ≤ c → c ≤ 500 → q = nI c → (∀ i, i < cntf (s 3 j) (s 4 j) → c ≤ s 6 (8 * j + i)) → Inv S' ad' (n.1, n.2 + 1) A' (sB s n j c) (m + 1) → LK A A' → (∀ t, t < 21 → ad' t = ad t) → vLk n s p q = nI 0 → post (nI n.2) S') (h0 : ∀ v : Int32, v.toInt < 0 → vLk n s p q ≠ nI 0 → post v S) : wpL_bind S (ad 0) p q post := by
  have hn := I.h.2.2.1
  have hco := I.vc.1.2.1
  refine ⟨I.h.k l0, I.h.k l0, sp_existingJob I.h I.cj (fun j hj e => ⟨_, rfl, sp_requireCount (fun c hc1 hc2 e2 => sp_requireComplete I.h (jt hj) (I.vj j hj) (fun w => ⟨I.h.k l0, ?_⟩) (fun w => ⟨fun q => absurd q (by decide), fun _ => h0 _ ng79 ?_, fun q => absurd q (by decide), fun q => absurd q (by decide), Or.inr (Or.inl rfl)⟩)) (fun z => ⟨fun q => absurd q (by decide), fun q => absurd q (by decide), fun _ => h0 _ ng78 ?_, fun q => absurd q (by decide), Or.inr (Or.inr (Or.inl rfl))⟩)⟩) (fun z => ⟨fun _ => h0 _ ng77 ?_, fun q => absurd q (by decide), fun q => absurd q (by decide), fun q => absurd q (by decide), Or.inl rfl⟩)⟩
  · have h8 := i_lt I hj
    have hsm := jsm I hj hc2
    have i7 : mI S (ad 0) 7 = nI n.2 := by rw [I.h.i l0, I.cl]
    have elk : vLk n s p q = nI (sm (fun k => c - s 6 (8 * j + k)) (cntf (s 3 j) (s 4 j))) := by
      subst e
      subst e2
      rw [vLk, pif_t ((inr_nI (by omega)).2 hj), pif_t (by rw [nI_toInt (by omega)]; omega), ix_nI (by omega), ix_nI (by omega), pif_t w]
    rw [e2]
    refine ⟨fun z => absurd z ?_, fun _ => ⟨ad 13, I.h.r l0 rfl, I.h.k (t := 13) LM, fun z => ⟨I.h.jk (jt hj), sp_lackFor I.h (jt hj) (I.vj j hj) hc2 ⟨fun z2 => ⟨I.h.jk (jt hj), ?_⟩, fun z2 => ⟨fun q => absurd q (by decide), fun q => absurd q (by decide), fun q => absurd q (by decide), fun _ => h0 _ ng76 ?_, Or.inr (Or.inr (Or.inr rfl))⟩⟩⟩, fun z => absurd ?_ z⟩⟩
    · rw [i7, lt0_iff, nI_toInt (by omega)]
      omega
    · rw [i0, nI_leI (by omega) (by decide)] at z2
      have hz : sm (fun k => c - s 6 (8 * j + k)) (cntf (s 3 j) (s 4 j)) = 0 := by omega
      have hcl : ∀ i, i < cntf (s 3 j) (s 4 j) → c ≤ s 6 (8 * j + i) := fun i hi => by
        have : c - s 6 (8 * j + i) = 0 := sm_z (f := fun k => c - s 6 (8 * j + k)) hz i hi
        omega
      refine sp_takeSheetsFor I.h (jt hj) (I.vj j hj) hcl fun S2 A2 k2 vs => ⟨k2.k l0, ad 13, k2.r l0 rfl, ?_⟩
      have v2 : VJ A2 (40 + 3 * j) (s 3 j) (s 4 j) (jpg s j) (fun k => if k < cntf (s 3 j) (s 4 j) then s 6 (8 * j + k) - c else s 6 (8 * j + k)) := (I.vj j hj).put vs fun k hk => by
        have := I.st9 hj hk
        split
        · omega
        · exact this
      refine sp_newLot (post := post) k2 hn2 (by rw [vs.1.1 0 (by omega)]; exact I.cl) (jt hj) v2 (st := s 1) (fun c hc => by rw [vs.1.1 2 (by omega)]; exact I.vc.co hc) (fun c hc => I.s99 hc) (co := s 0 1) (by rw [vs.1.1 1 (by omega)]; exact hco) hc2 fun S3 ad' A3 k3 e9 o3 vl => ?_
      refine h1 j c _ ad' _ hj e w hc1 hc2 e2 hcl (inv_bind I hm hj hn2 w hc2 k3 (fun t g0 gu gl gl1 gl2 => ?_) ?_ ?_ (fun k hk => ?_) ?_ (fun t ht => ?_)) (fun t g1 g2 => ?_) (fun t ht => e9 t (live_lt ht)) (by rw [elk, hz])
      · rw [gI_aIu _ _ _ _ _ g0, (o3 t gl gl1 gl2).1]
        exact vs.1.1 t gu
      · rw [gI_aIk _ _ _ _ _ (by decide), (o3 0 (by omega) (by omega) (by omega)).1, vs.1.1 0 (by omega)]
      · rw [gI_aI]
      · rw [gI_aIu _ _ _ _ _ (by omega), (o3 _ (by omega) (by omega) (by omega)).1]
        exact vs.2 k hk
      · obtain ⟨g1, g2, g3, g4, g5, g6⟩ := vl
        refine ⟨?_, ?_, ?_, g4, g5, fun k hk => ?_⟩
        · rw [gI_aIu _ _ _ _ _ (by omega)]; exact g1
        · rw [gI_aIu _ _ _ _ _ (by omega)]; exact g2
        · rw [gI_aIu _ _ _ _ _ (by omega)]; exact g3
        · rw [gI_aIu _ _ _ _ _ (by omega), gI_aIu _ _ _ _ _ (by omega)]; exact g6 k hk
      · rw [gJ_aI, (o3 t (by omega) (by omega) (by omega)).2.1, vs.1.2.1]
      · rw [gI_aIu _ _ _ _ _ (by omega), (o3 t (by omega) (by omega) (by omega)).1]
        exact vs.1.1 t (by omega)
    · rw [i0, nI_leI (by omega) (by decide)] at z2
      rw [elk]
      intro y
      rw [nI_eq (by omega) (by decide)] at y
      omega
    · rw [i7, I.h.len (t := 13) LM, nI_ltI (by omega) (by decide)]
      exact hn2
  · subst e
    subst e2
    rw [vLk, pif_t ((inr_nI (by omega)).2 hj), pif_t (by rw [nI_toInt (by omega)]; omega), ix_nI (by omega), pif_f w]
    decide
  · subst e
    rw [vLk, pif_t ((inr_nI (by omega)).2 hj), pif_f z]
    decide
  · rw [vLk, pif_f z]
    decide
end
