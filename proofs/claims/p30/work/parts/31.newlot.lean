/-! ===== a new lot ===== -/
section
variable {S : Mem} {ad : Nat → Nat} {A : AM} {n : Nat × Nat} {t b np : Nat} {pg sk st : Nat → Nat}
def LL (n : Nat × Nat) : Nat → Prop := fun w => w = 60 + 3 * n.2 + 2 ∨ w = 60 + 3 * n.2 + 1 ∨ w = 60 + 3 * n.2 ∨ live n w
theorem LL.o {w : Nat} (h : live n w) : LL n w := Or.inr (Or.inr (Or.inr h))
theorem live_ne (hn : n.1 ≤ 4) {w : Nat} (h : live n w) : w ≠ 60 + 3 * n.2 ∧ w ≠ 60 + 3 * n.2 + 1 ∧ w ≠ 60 + 3 * n.2 + 2 := by unfold live at h; omega
theorem Rg.old (h : Rg S ad (LL n) (Rn n (60 + 3 * n.2) 3) A) (h1 : n.1 ≤ 4) (h2 : n.2 ≤ 100) : Rel S ad n A :=
  h.rel (fun _ ht => LL.o ht) (fun _ _ ht => Rn_old (live_ne h1 ht).1 (live_ne h1 ht).2.1 (live_ne h1 ht).2.2) h1 h2
theorem lot_f (hn : n.2 < 100) : (rk (60 + 3 * n.2) = 2 ∧ rn (60 + 3 * n.2) = 0) ∧ (rk (60 + 3 * n.2 + 1) = 8 ∧ rn (60 + 3 * n.2 + 1) = 16) ∧ (rk (60 + 3 * n.2 + 2) = 8 ∧ rn (60 + 3 * n.2 + 2) = 16) := by
  obtain ⟨a, b⟩ := n
  have : ∀ i, i < 100 → (rk (60 + 3 * i) = 2 ∧ rn (60 + 3 * i) = 0) ∧ (rk (60 + 3 * i + 1) = 8 ∧ rn (60 + 3 * i + 1) = 16) ∧ (rk (60 + 3 * i + 2) = 8 ∧ rn (60 + 3 * i + 2) = 16) := by decide +kernel
  exact this b hn
theorem Rg.keep (h : Rg S ad (LL n) (Rn n (60 + 3 * n.2) 3) A) (hn : n.2 < 100) {k : Nat} (h1 : 1 ≤ k) (h2 : k ≤ 16) {x y : Int32} {post : Unit → Mem → Prop} (hq : ∀ S', Rg S' ad (LL n) (Rn n (60 + 3 * n.2) 3) (aI (aI A (60 + 3 * n.2 + 1) (k - 1) x) (60 + 3 * n.2 + 2) (k - 1) y) → post () S') : wpX2_keep S (ad (60 + 3 * n.2)) (nI k) x y post := by
  obtain ⟨f1, f2, f3⟩ := lot_f hn
  have l0 : LL n (60 + 3 * n.2) := Or.inr (Or.inr (Or.inl rfl))
  have l1 : LL n (60 + 3 * n.2 + 1) := Or.inr (Or.inl rfl)
  have l2 : LL n (60 + 3 * n.2 + 2) := Or.inl rfl
  have k0 := h.k l0 rfl
  rw [f1.1] at k0
  refine ⟨k0, _, h.rf l0 (u := 60 + 3 * n.2 + 1) (by rw [Rn_u, if_neg (by omega), if_pos rfl]) rfl rfl, ?_⟩
  rw [pk_sub h1]
  refine h.put l1 rfl f2.1 (by rw [f2.2]; omega) fun S1 h1' => ?_
  have k1 := h1'.k l0 rfl
  rw [f1.1] at k1
  exact ⟨k1, _, h1'.rf l0 (u := 60 + 3 * n.2 + 2) (by rw [Rn_u, if_pos rfl]) rfl rfl, h1'.put l2 rfl f3.1 (by rw [f3.2]; omega) hq⟩
theorem JT.lt (h : JT n t) (hn : n.1 ≤ 4) : 40 ≤ t ∧ t + 2 < 60 := by obtain ⟨i, hi, rfl⟩ := h; omega
theorem sp_lotloop (h : Rg S ad (LL n) (Rn n (60 + 3 * n.2) 3) A) (hn1 : n.1 ≤ 4) (hn : n.2 < 100) (ht : JT n t) (v : VJ A t b np pg sk) (hst : ∀ c, c < 12 → gI A 2 c = nI (st c)) {am : Int32} {post : Option Nat → Mem → Prop} (hq : ∀ S' A', Rg S' ad (LL n) (Rn n (60 + 3 * n.2) 3) A' → (∀ w, w ≠ 60 + 3 * n.2 + 1 → w ≠ 60 + 3 * n.2 + 2 → gI A' w = gI A w) → gJ A' = gJ A → gD A' = gD A → (∀ k, k < np → gI A' (60 + 3 * n.2 + 1) k = nI (pg k) ∧ gI A' (60 + 3 * n.2 + 2) k = nI (st (pg k))) → post (some (ad (60 + 3 * n.2))) S') : ∃ m, wlX6_newLot_23 (ad 0) (ad t) am (ad (60 + 3 * n.2)) post m (nI 1) S := by
  have htl := ht.lt hn1
  have hnp := v.2.2.2.1
  have key : ∀ m i S1 A1, i + m = np → Rg S1 ad (LL n) (Rn n (60 + 3 * n.2) 3) A1 → (∀ w, w ≠ 60 + 3 * n.2 + 1 → w ≠ 60 + 3 * n.2 + 2 → gI A1 w = gI A w) → gJ A1 = gJ A → gD A1 = gD A → (∀ k, k < i → gI A1 (60 + 3 * n.2 + 1) k = nI (pg k) ∧ gI A1 (60 + 3 * n.2 + 2) k = nI (st (pg k))) → wlX6_newLot_23 (ad 0) (ad t) am (ad (60 + 3 * n.2)) post (m + 1) (nI (i + 1)) S1 := by
    intro m
    induction m with
    | zero =>
      intro i S1 A1 hi k1 x1 x2 x3 p1
      obtain rfl : i = np := by omega
      have r1 := k1.old hn1 (by omega)
      refine ⟨r1.jk ht, ?_⟩
      rw [r1.ji ht, x1 t (by omega) (by omega), v.2.2.1]
      exact ⟨fun _ => hq _ _ k1 x1 x2 x3 p1, fun z => absurd (nI_lt (by omega) (by omega)) z⟩
    | succ m ih =>
      intro i S1 A1 hi k1 x1 x2 x3 p1
      have r1 := k1.old hn1 (by omega)
      have v1 : VJ A1 t b np pg sk := v.ex (x1 t (by omega) (by omega)) (x1 (t + 1) (by omega) (by omega)) (x1 (t + 2) (by omega) (by omega))
      have hp := v.2.2.2.2.1 i (by omega)
      refine ⟨r1.jk ht, ?_⟩
      rw [r1.ji ht, x1 t (by omega) (by omega), v.2.2.1]
      refine ⟨fun z => ?_, fun _ => sp_contentOf r1 ht v1 (by omega) (by omega) ⟨r1.k (t := 0) (live_lt (by decide)), ad 1, r1.r (t := 0) (live_lt (by decide)) rfl, r1.k (t := 1) (live_lt (by decide)), ?_⟩⟩
      · rw [nI_ltI (by omega) (by omega)] at z; omega
      rw [Nat.add_sub_cancel]
      refine sp_stateOf r1 hp.2 ⟨?_, ?_⟩
      · have := k1.k (t := 60 + 3 * n.2) (Or.inr (Or.inr (Or.inl rfl))) rfl
        rw [(lot_f hn).1.1] at this; exact this
      rw [x1 2 (by omega) (by omega), hst _ hp.2]
      refine k1.keep hn (by omega) (by omega) fun S2 k2 => ?_
      rintro x21 rfl
      rw [nI_add]
      rw [Nat.add_sub_cancel] at k2
      refine ih (i + 1) _ _ (by omega) k2 (fun w hw1 hw2 => ?_) x2 x3 fun k hk => ?_
      · rw [gI_aIu _ _ _ _ _ hw2, gI_aIu _ _ _ _ _ hw1]; exact x1 w hw1 hw2
      · by_cases q : k = i
        · subst q
          rw [gI_aI, gI_aIu _ _ _ _ _ (by omega), gI_aI]
          exact ⟨rfl, rfl⟩
        · refine ⟨?_, ?_⟩
          · rw [gI_aIu _ _ _ _ _ (by omega), gI_aIk _ _ _ _ _ q]; exact (p1 k (by omega)).1
          · rw [gI_aIk _ _ _ _ _ q, gI_aIu _ _ _ _ _ (by omega)]; exact (p1 k (by omega)).2
  exact ⟨_, key np 0 S A (by omega) h (fun _ _ _ => rfl) rfl rfl fun k hk => by omega⟩
/-- the new lot's cells, before its pages -/
def AL (A : AM) (u : Nat) (p q r : Int32) : AM := aZ (aZ (aI (aI (aI (aZ A u) u 0 p) u 1 q) u 2 r) (u + 1)) (u + 2)
theorem AL_old {u w : Nat} {p q r : Int32} (h : w ≠ u) (h1 : w ≠ u + 1) (h2 : w ≠ u + 2) : gI (AL A u p q r) w = gI A w ∧ gJ (AL A u p q r) w = gJ A w ∧ gD (AL A u p q r) w = gD A w := by
  unfold AL
  refine ⟨?_, ?_, ?_⟩
  · rw [gI_aZ h2, gI_aZ h1, gI_aIu _ _ _ _ _ h, gI_aIu _ _ _ _ _ h, gI_aIu _ _ _ _ _ h, gI_aZ h]
  · rw [gJ_aZ h2, gJ_aZ h1]; exact gJ_aZ h
  · rw [gD_aZ h2, gD_aZ h1]; exact gD_aZ h
theorem AL_u {u : Nat} {p q r : Int32} : gI (AL A u p q r) u 0 = p ∧ gI (AL A u p q r) u 1 = q ∧ gI (AL A u p q r) u 2 = r := by
  unfold AL
  rw [gI_aZ (by omega), gI_aZ (by omega)]
  refine ⟨?_, ?_, gI_aI _ _ _ _⟩
  · rw [gI_aIk _ _ _ _ _ (by decide), gI_aIk _ _ _ _ _ (by decide), gI_aI]
  · rw [gI_aIk _ _ _ _ _ (by decide), gI_aI]
theorem sp_newLot (h : Rel S ad n A) (hn : n.2 < 100) (hl : gI A 0 7 = nI n.2) (ht : JT n t) (v : VJ A t b np pg sk) (hst : ∀ c, c < 12 → gI A 2 c = nI (st c)) (hs9 : ∀ c, c < 12 → st c ≤ 99) {co am : Nat} (hco : gI A 1 4 = nI co) (ham : am ≤ 500) {post : Int32 → Mem → Prop} (hq : ∀ S' ad' A', Rel S' ad' (n.1, n.2 + 1) (aI A' 0 7 (nI (n.2 + 1))) → (∀ w, live n w → ad' w = ad w) → (∀ w, w ≠ 60 + 3 * n.2 → w ≠ 60 + 3 * n.2 + 1 → w ≠ 60 + 3 * n.2 + 2 → gI A' w = gI A w ∧ gJ A' w = gJ A w ∧ gD A' w = gD A w) → VL A' (60 + 3 * n.2) am np co pg (fun k => st (pg k)) → post (nI n.2) S') : wpX6_newLot S (ad 0) (ad t) (nI am) (fun r24 S23 => ∃ o25, r24 = some o25 ∧ (isK S23 (ad 13) 11 ∧ (isK S23 o25 2 ∧ (vp_in (mI S (ad 0) 7) (mN S23 (ad 13)) ∧ (∀ S29 : Mem, S29 = (sR S23 (ad 13) (mI S (ad 0) 7).toNatClampNeg (some o25)) → (isK S29 (ad 0) 6 ∧ (∀ x31 : Int32, x31 = ((mI S29 (ad 0) 7) + (nI 1)) → (∀ S32 : Mem, S32 = (sI S29 (ad 0) 7 x31) → (post ((mI S32 (ad 0) 7) - (nI 1)) S32))))))))) := by
  obtain ⟨f1, f2, f3⟩ := lot_f hn
  have hn1 := h.2.2.1
  have htl := ht.lt hn1
  have hl0 : live n 0 := live_lt (by decide)
  have hl1 : live n 1 := live_lt (by decide)
  have hl13 : live n 13 := live_lt (by decide)
  have hlt : live n t := (ht.l hn1).1
  rw [h.i hl0, hl]
  intro o1 ho1 S2 e2
  subst e2
  have g0 := h.g.n (u := 60 + 3 * n.2) (q := o1) (by unfold live; omega) ho1 f1.1 f1.2
  have b0 : ∀ w, live n w → va_up ad (60 + 3 * n.2) o1 w = ad w := fun w hw => va_up_ne _ _ (live_ne hn1 hw).1
  have c0 : va_up (rr n) (60 + 3 * n.2) (fun _ => none) 0 0 = some 1 := by rw [va_up_ne _ _ (by omega)]; rfl
  have kt : isK (nA S o1 2 0) (ad t) 1 := by
    have := g0.k (t := t) (Or.inr hlt) (b0 t hlt)
    rw [(ht.l hn1).2.2.2.1] at this; exact this
  refine ⟨kt, g0.k (t := 0) (Or.inr hl0) (b0 0 hl0), ad 1, g0.rf (t := 0) (Or.inr hl0) c0 (b0 0 hl0) (b0 1 hl1), g0.k (t := 1) (Or.inr hl1) (b0 1 hl1), ?_⟩
  rw [g0.vi (t := t) (Or.inr hlt) (b0 t hlt), g0.vi (t := 1) (Or.inr hl1) (b0 1 hl1), gI_aZ (by omega), gI_aZ (by omega), v.2.2.1, hco]
  refine ⟨?_, ?_⟩
  · have := g0.k (t := 60 + 3 * n.2) (Or.inl rfl) (vu_at _ _ _)
    rw [f1.1] at this; exact this
  intro T2 eT2
  subst eT2
  have g1 := g0.i (t := 60 + 3 * n.2) (Or.inl rfl) (vu_at _ _ _) 0 (nI am)
  intro T3 eT3
  subst eT3
  have g2 := g1.i (t := 60 + 3 * n.2) (Or.inl rfl) (vu_at _ _ _) 1 (nI np)
  intro T4 eT4
  subst eT4
  have g3 := g2.i (t := 60 + 3 * n.2) (Or.inl rfl) (vu_at _ _ _) 2 (nI co)
  intro o5 ho5 T6 eT6
  subst eT6
  have g4 := g3.n (u := 60 + 3 * n.2 + 1) (q := o5) (by intro w; rcases w with w | w; omega; unfold live at w; omega) ho5 f2.1 f2.2
  intro T7 eT7
  subst eT7
  have a1 : va_up (va_up ad (60 + 3 * n.2) o1) (60 + 3 * n.2 + 1) o5 (60 + 3 * n.2) = o1 := by rw [va_up_ne _ _ (by omega), vu_at]
  have g5 := g4.r (t := 60 + 3 * n.2) (u := 60 + 3 * n.2 + 1) (k := 3) (Or.inr (Or.inl rfl)) (Or.inl rfl) a1 (vu_at _ _ _)
  intro o8 ho8 T9 eT9
  subst eT9
  have g6 := g5.n (u := 60 + 3 * n.2 + 2) (q := o8) (by intro w; rcases w with w | w | w; omega; omega; unfold live at w; omega) ho8 f3.1 f3.2
  intro T10 eT10
  subst eT10
  have a2 : va_up (va_up (va_up ad (60 + 3 * n.2) o1) (60 + 3 * n.2 + 1) o5) (60 + 3 * n.2 + 2) o8 (60 + 3 * n.2) = o1 := by rw [va_up_ne _ _ (by omega), a1]
  have g7 := g6.r (t := 60 + 3 * n.2) (u := 60 + 3 * n.2 + 2) (k := 4) (Or.inr (Or.inr (Or.inl rfl))) (Or.inl rfl) a2 (vu_at _ _ _)
  have ao : ∀ w, live n w → va_up (va_up (va_up ad (60 + 3 * n.2) o1) (60 + 3 * n.2 + 1) o5) (60 + 3 * n.2 + 2) o8 w = ad w := by
    intro w hw
    have := live_ne hn1 hw
    rw [va_up_ne _ _ this.2.2, va_up_ne _ _ this.2.1, va_up_ne _ _ this.1]
  revert g7 a2 ao
  generalize va_up (va_up (va_up ad (60 + 3 * n.2) o1) (60 + 3 * n.2 + 1) o5) (60 + 3 * n.2 + 2) o8 = ad'
  intro a2 g7 ao
  have g8 : Rg _ ad' (LL n) (Rn n (60 + 3 * n.2) 3) (AL A (60 + 3 * n.2) (nI am) (nI np) (nI co)) := g7
  have hold := fun w (h : w ≠ 60 + 3 * n.2) h1 h2 => AL_old (A := A) (p := nI am) (q := nI np) (r := nI co) h h1 h2
  have v8 : VJ (AL A (60 + 3 * n.2) (nI am) (nI np) (nI co)) t b np pg sk := v.ex (hold t (by omega) (by omega) (by omega)).1 (hold (t + 1) (by omega) (by omega) (by omega)).1 (hold (t + 2) (by omega) (by omega) (by omega)).1
  have key := fun post : Option Nat → Mem → Prop => sp_lotloop (post := post) (am := nI am) (st := st) g8 hn1 hn ht v8 (fun c hc => by rw [(hold 2 (by omega) (by omega) (by omega)).1]; exact hst c hc)
  rw [ao 0 hl0, ao t hlt, a2] at key
  refine key _ fun S' A' k' x1 x2 x3 p1 => ⟨o1, rfl, k'.k (t := 13) (LL.o hl13) (ao 13 hl13), ?_, ?_, ?_⟩
  · have := k'.k (t := 60 + 3 * n.2) (Or.inr (Or.inr (Or.inl rfl))) a2
    rw [f1.1] at this; exact this
  · rw [k'.len (t := 13) (LL.o hl13) (ao 13 hl13)]
    exact vp_in_nI (show n.2 < 100 from hn) (by decide)
  intro S29 e29
  subst e29
  rw [nI_clamp (by omega)]
  have k6 := k'.r (t := 13) (u := 60 + 3 * n.2) (k := n.2) (LL.o hl13) (Or.inr (Or.inr (Or.inl rfl))) (ao 13 hl13) a2
  refine ⟨k6.k (t := 0) (LL.o hl0) (ao 0 hl0), ?_⟩
  intro x31 e31 S32 e32
  subst e31
  subst e32
  have w7 : gI A' 0 7 = nI n.2 := by rw [x1 0 (by omega) (by omega), (hold 0 (by omega) (by omega) (by omega)).1, hl]
  rw [(k6.vi (t := 0) (LL.o hl0) (ao 0 hl0) 7).trans w7, nI_add]
  have k7 := k6.i (t := 0) (LL.o hl0) (ao 0 hl0) 7 (nI (n.2 + 1))
  have w8 := k7.vi (t := 0) (LL.o hl0) (ao 0 hl0) 7
  rw [gI_aI] at w8
  rw [w8, pk_sub (by omega)]
  refine hq _ _ A' (k7.rel (fun w hw => ?_) (fun w k _ => Rn_lot hn1 w k) hn1 (by show n.2 + 1 ≤ 100; omega)) ao (fun w q q1 q2 => ?_) ?_
  · unfold live at hw
    unfold LL live
    dsimp only at hw
    omega
  · rw [x1 w q1 q2, x2, x3]; exact hold w q q1 q2
  · have au := AL_u (A := A) (u := 60 + 3 * n.2) (p := nI am) (q := nI np) (r := nI co)
    have xu := x1 (60 + 3 * n.2) (by omega) (by omega)
    refine ⟨by rw [xu]; exact au.1, by rw [xu]; exact au.2.1, by rw [xu]; exact au.2.2, v.2.2.2.1, ham, fun k hk => ⟨(p1 k hk).1, (p1 k hk).2, (v.2.2.2.2.1 k hk).2, hs9 _ (v.2.2.2.2.1 k hk).2⟩⟩
end
