/-! ===== the law's loops ===== -/
section
variable {S S1 S' : Mem} {ad ad' : Nat → Nat} {A A' A1 : AM} {n n' : Nat × Nat} {s s' : Sta} {m P B L M K : Nat} {xs : Nat → Int32} {post : Int32 → Mem → Prop} {j i k l c p q f b d N : Nat} {x13 : Int64} {J : JT9}
theorem k_step (V : LV S ad n A s m) (hm : m + 2 < 512) (hn2 : n.2 < 100) (bal : P = B + s 0 5 + tots s 3) (hv : SumIs S ad x13) (hJ : JH J ad n.2 m k i) {x15 x16 x17 x18 : Int32} : wcL_law_337 L xs post J (ad 0) (ad 14) (ad 18) (ad 19) (ad 20) (lN P) (lN B) (nI 1) (nI k) (nI i) x13 x15 x16 x17 x18 S :=
  ⟨fun _ => ⟨fun _ => ⟨fun _ => ⟨fun _ => ⟨fun _ _ _ => k_bind V hm hn2 bal hv hJ, fun _ => k_bind V hm hn2 bal hv hJ⟩, fun _ _ _ => ⟨fun _ _ _ => k_print V hm bal hv hJ, fun _ => k_print V hm bal hv hJ⟩⟩, fun _ => ⟨fun _ => k_page V hm bal hv hJ, fun _ => ⟨fun _ => cfail V bal hv hJ, fun z => absurd (by decide) z⟩⟩⟩, fun _ => k_correct V hm bal hv hJ⟩, fun _ => k_approve V hm bal hv hJ⟩
theorem rd_pk (hL : L ≤ 260) (hk : k + d < 100000) (h0 : 0 < N) (hN : N < 100000) {px : Int32 → Mem → Prop} (hp : ∀ v, v < N → px (nI v) S) : wpL_pick S L xs (nI k + nI d) (nI N) px := by
  rw [nI_add]
  exact rd_pick hL hk h0 hN hp
theorem law_237 (hL : L ≤ 260) (hp : ∀ S, post (nI 1) S) : ∀ f i S ad n A s m P B k, i + f = 100 → LV S ad n A s m → m ≤ 31 + 2 * i → n.2 ≤ i → P = B + s 0 5 + tots s 3 → k ≤ 27 + 4 * i → wlL_law_237 L xs post (f + 1) (ad 0) (ad 14) (ad 18) (ad 19) (ad 20) (lN P) (lN B) (nI 1) (nI k) (nI i) S := by
  intro f
  induction f with
  | zero =>
    intro i S ad n A s m P B k hi V hm hn2 bal hk
    exact ⟨fun _ => ⟨fun z => absurd z n10, fun _ => rd_areLeast V.1 V.2.2.1 fun S' => ⟨fun z => absurd z n10, fun _ => hp S'⟩⟩, fun z => absurd ((nI_leI (by omega) (by omega)).2 (by omega)) z⟩
  | succ f ih =>
    intro i S ad n A s m P B k hi V hm hn2 bal hk
    obtain ⟨v, hv⟩ := rd_sum V.1
    have hJ : JH (wlL_law_237 L xs post (f + 1)) ad n.2 m k i := by
      intro S' ad' n' A' s' m' P' B' V' hm' hn' bal' had
      have := ih (i + 1) S' ad' n' A' s' m' P' B' (k + 4) (by omega) V' (by omega) (by omega) bal' (by omega)
      rw [had 0 (by decide), had 14 (by decide), had 18 (by decide), had 19 (by decide), had 20 (by decide)] at this
      exact this
    have G : ∀ {x15 x16 x17 x18 : Int32}, wcL_law_337 L xs post (wlL_law_237 L xs post (f + 1)) (ad 0) (ad 14) (ad 18) (ad 19) (ad 20) (lN P) (lN B) (nI 1) (nI k) (nI i) v x15 x16 x17 x18 S := k_step V (by omega) (by omega) bal (fun post h => hv post h) hJ
    refine ⟨fun z => ?_, fun _ => ⟨fun z => absurd z n10, fun _ => hv _ (rd_pick hL (by omega) (by decide) (by decide) fun x27 _ => rd_pk hL (by omega) (by decide) (by decide) fun x29 _ => ⟨fun _ => rd_pk hL (by omega) (by decide) (by decide) fun x32 _ => rd_pk hL (by omega) (by decide) (by decide) fun x34 _ => ⟨fun _ => rd_pk hL (by omega) (by decide) (by decide) fun x37 _ => rd_pk hL (by omega) (by decide) (by decide) fun x39 _ => G, fun _ => rd_pk hL (by omega) (by decide) (by decide) fun x39 _ => G⟩, fun _ => rd_pk hL (by omega) (by decide) (by decide) fun x34 _ => ⟨fun _ => rd_pk hL (by omega) (by decide) (by decide) fun x37 _ => rd_pk hL (by omega) (by decide) (by decide) fun x39 _ => G, fun _ => rd_pk hL (by omega) (by decide) (by decide) fun x39 _ => G⟩⟩)⟩⟩
    rw [nI_leI (by omega) (by omega)] at z; omega
/-- the law's jobs so far -/
def LJob (S : Mem) (ad : Nat → Nat) (p : Nat) (A : AM) (s : Sta) (m k : Nat) : Prop := Inv S ad (p, 0) A s m ∧ LA0 A (p, 0) s ∧ s 0 0 = 4 ∧ s 0 5 + tots s 3 = 0 ∧ (∀ j, j < p → 0 < s 4 j) ∧ m ≤ 4 + 9 * p ∧ k ≤ 9 * p
theorem pg_put0 (hA : LA0 A (p + 1, 0) s) (hp3 : p < 3) (I : Inv S ad (p + 1, 0) A s m) (k1 : LK (aI A (p + 15) (s 4 p) (nI c)) A1) : LA0 (aI A1 18 p (nI (s 4 p + 1))) (p + 1, 0) (sP s p c) := by
  obtain ⟨L1, L2, L3, L4⟩ := hA
  have e4 : ∀ q, sP s p c 4 q = if q = p then s 4 p + 1 else s 4 q := fun _ => rfl
  refine ⟨fun q hq => ?_, fun q hq => ?_, fun q k' hq hk => ?_, fun l hl => absurd hl (Nat.not_lt_zero _)⟩
  · rw [gI_if, e4]
    by_cases e : q = p
    · rw [if_pos ⟨rfl, e⟩, if_pos e]
    · rw [if_neg (fun z => e z.2), if_neg e, k1 18 (by decide) (by decide), gI_aIu _ _ _ _ _ (by omega)]
      exact L1 q hq
  · rw [gI_aIu _ _ _ _ _ (by decide), k1 19 (by decide) (by decide), gI_aIu _ _ _ _ _ (by omega)]
    exact L2 q hq
  · have hq : q < p + 1 := hq
    show gI (aI A1 18 p (nI (s 4 p + 1))) (15 + q) k' = nI (if 16 * q + k' = 16 * p + s 4 p then c else s 5 (16 * q + k'))
    rw [e4] at hk
    rw [gI_aIu _ _ _ _ _ (by omega), k1 (15 + q) (by omega) (by omega)]
    by_cases e : q = p
    · subst e
      rw [if_pos rfl] at hk
      rw [Nat.add_comm 15 q, gI_if]
      by_cases y : k' = s 4 q
      · rw [if_pos ⟨rfl, y⟩, if_pos (by omega)]
      · rw [if_neg (fun z => y z.2), if_neg (by omega), Nat.add_comm q 15]
        exact L3 q k' hq (by omega)
    · rw [if_neg e] at hk
      have h16q := (I.vj q (by show q < p + 1; omega)).2.2.2.1
      rw [gI_aIu _ _ _ _ _ (by omega), if_neg (by omega)]
      exact L3 q k' hq hk
theorem law_154 (hL : L ≤ 260) (hp3 : p < 3) (hM : M < 500) (hK : K < 500) (hJ : ∀ S' A' s' m' k', Inv S' ad (p + 1, 0) A' s' m' → LA0 A' (p + 1, 0) s' → s' 0 0 = 4 → s' 0 5 + tots s' 3 = 0 → (∀ j, j < p + 1 → 0 < s' 4 j) → m' ≤ M → k' ≤ K → J (ad 0) (ad 14) (ad 18) (ad 19) (ad 20) (lN 0) (lN 0) (nI 1) (nI k') (nI (p + 1)) S') : ∀ f q S A s m k, q + f = 4 * (1 + p % 2) → s 4 p = q → Inv S ad (p + 1, 0) A s m → LA0 A (p + 1, 0) s → s 0 0 = 4 → s 0 5 + tots s 3 = 0 → (∀ j, j < p → 0 < s 4 j) → m + f ≤ M → k + f ≤ K → wlL_law_154 L xs post J (f + 1) (ad 0) (ad 14) (ad 18) (ad 19) (ad 20) (lN 0) (lN 0) (nI 1) (nI k) (nI p) (nI q) S := by
  have ec : nI 4 * (nI 1 + (nI p - nI p / nI 2 * nI 2)) = nI (4 * (1 + p % 2)) := by rw [pk_rem (by omega) (by decide) (by decide), nI_add, pk_mul]
  intro f
  induction f with
  | zero =>
    intro q S A s m k hq h4 I hA h00 hb h0p hm hk
    refine ⟨fun _ x e => ?_, fun z => absurd ?_ z⟩
    · subst e
      rw [nI_add]
      refine hJ S A s m k I hA h00 hb (fun j hj => ?_) (by omega) (by omega)
      by_cases e : j = p
      · subst e; omega
      · exact h0p j (by omega)
    · rw [ec, nI_leI (by omega) (by omega)]; omega
  | succ f ih =>
    intro q S A s m k hq h4 I hA h00 hb h0p hm hk
    subst h4
    refine ⟨fun z => ?_, fun _ => ?_⟩
    · rw [ec, nI_leI (by omega) (by omega)] at z; omega
    have w16 : s 4 p < 16 := by omega
    have hlv : live (p + 1, 0) (p + 15) := live_lt (by omega)
    obtain ⟨r1, r2, r3⟩ := rrow I.h hp3
    refine ⟨I.h.k (t := 14) LM, ?_, ad (p + 15), ?_, rd_pick hL (by omega) (by decide) (by decide) fun v hv => ⟨r2, ?_, ?_⟩⟩
    · rw [I.h.len (t := 14) LM]
      exact vp_in_nI (show p < 3 from hp3) (by decide)
    · rw [nI_clamp (by omega)]; exact r1
    · rw [r3]; exact vp_in_nI w16 (by decide)
    rw [nI_clamp (by omega)]
    intro S2 e2
    have k2 := I.h.sI hlv (s 4 p) (nI v)
    rw [← e2] at k2
    have I2 : Inv S2 ad (p + 1, 0) (aI A (p + 15) (s 4 p) (nI v)) s m := I.rl k2 (fun t ht => gI_aIu _ _ _ _ _ (by omega)) rfl
    obtain ⟨t1, t2, t3⟩ := rrow I2.h hp3
    have em : mI S2 (ad (p + 15)) (s 4 p) = nI v := by rw [I2.h.i hlv, gI_aI]
    refine ⟨I2.h.k (t := 14) LM, ?_, ad (p + 15), ?_, t2, ?_, ?_⟩
    · rw [I2.h.len (t := 14) LM]
      exact vp_in_nI (show p < 3 from hp3) (by decide)
    · rw [nI_clamp (by omega)]; exact t1
    · rw [t3]; exact vp_in_nI w16 (by decide)
    rw [nI_clamp (by omega), em]
    refine wr_addPage I2 (by omega) (fun j c S3 A3 hj e hc e' h16 I3 k3 => ?_) fun v0 hv0 z => absurd ?_ z
    · have hj : j < p + 1 := hj
      have e : p = j := (nI_eq (by omega) (by omega)).1 e
      have e' : v = c := (nI_eq (by omega) (by omega)).1 e'
      subst e
      subst e'
      obtain ⟨f1, f2⟩ := rd I3.h (t := 18) (k := p) (by decide) (show p < 3 from hp3)
      rw [k3 18 (by decide) (by decide), gI_aIu _ _ _ _ _ (by omega), hA.1 p hp3] at f2
      rw [nI_add]
      refine ⟨fun y => absurd rfl y, fun _ x290 e290 => ⟨I3.h.k (t := 18) LM, f1, fun x293 e293 => ⟨f1, fun S295 e295 x296 e296 x297 e297 => ?_⟩⟩⟩
      rw [and11] at e290
      rw [nI_clamp (by omega)] at f2
      (try rw [nI_clamp (by omega)] at e293)
      (try rw [nI_clamp (by omega)] at e295)
      rw [f2, nI_add] at e293
      rw [nI_add] at e296
      subst e290 e293 e296 e297
      have k4 := I3.h.sI (LM (t := 18)) p (nI (s 4 p + 1))
      rw [← e295] at k4
      have I4 : Inv S295 ad (p + 1, 0) (aI A3 18 p (nI (s 4 p + 1))) (sP s p v) (m + 1) := I3.rl k4 (fun t ht => gI_aIu _ _ _ _ _ (by omega)) rfl
      have e4 : ∀ q, sP s p v 4 q = if q = p then s 4 p + 1 else s 4 q := fun _ => rfl
      refine ih (s 4 p + 1) S295 _ (sP s p v) (m + 1) (k + 1) (by omega) ?_ I4 (pg_put0 hA hp3 I k3) h00 ?_ (fun j hj => ?_) (by omega) (by omega)
      · rw [e4, if_pos rfl]
      · have := tots_page (s := s) (c := v) hp3
        show s 0 5 + stk s p 8 + tots (sP s p v) 3 = 0
        omega
      · rw [e4, if_neg (by omega)]
        exact h0p j hj
    · refine ⟨?_, ?_, ?_⟩
      · rw [inr, nI_toInt (by omega)]
        show (0 : Int) ≤ p ∧ (p : Int) < ((p + 1 : Nat) : Int)
        omega
      · rw [inr, nI_toInt (by omega)]; omega
      · rw [nI_toInt (by omega)]; exact w16
theorem law_124 (hL : L ≤ 260) (hp3 : p < 3) (H : LJob S ad p A s m k) (hb : isB b) (h19 : gI A 19 p = nI b) (hJ : ∀ S' ad' A' s' m' k', LJob S' ad' (p + 1) A' s' m' k' → (∀ t, t < 21 → ad' t = ad t) → J (ad 0) (ad 14) (ad 18) (ad 19) (ad 20) (lN 0) (lN 0) (nI 1) (nI k') (nI (p + 1)) S') : wcL_law_124 L xs post J (ad 0) (ad 14) (ad 18) (ad 19) (ad 20) (lN 0) (lN 0) (nI 1) (nI k) (nI p) S := by
  obtain ⟨I, hA, h00, hz, h0p, hm, hk⟩ := H
  obtain ⟨L1, L2, L3, L4⟩ := hA
  obtain ⟨f1, f2⟩ := rd I.h (t := 19) (k := p) (by decide) (show p < 3 from hp3)
  refine ⟨I.h.k (t := 19) LM, f1, ?_⟩
  rw [f2, h19]
  refine wr_addJob I (by omega) hb (by show p < 4; omega) fun S' ad' A' I' k' had => ⟨fun y => absurd rfl y, fun _ x270 e270 x271 e271 => ⟨4 * (1 + p % 2) + 1, by omega, ?_⟩⟩
  rw [and11] at e270
  rw [nI_add] at e271
  subst e270 e271
  have z4 : s 4 p = 0 := I.vb.2.2.2.2.2.2.1 p (Nat.le_refl _)
  have hA' : LA0 A' (p + 1, 0) (sJn s p b) := by
    refine ⟨fun q hq => ?_, fun q hq => ?_, fun q k' hq hk => ?_, fun l hl => absurd hl (Nat.not_lt_zero _)⟩
    · rw [k' 18 (by decide) (by decide)]; exact L1 q hq
    · have hq : q < p + 1 := hq
      rw [k' 19 (by decide) (by decide)]
      show gI A 19 q = nI (up2 s 3 p b 3 q)
      by_cases e : q = p
      · subst e
        rw [up2_at, vu_at]
        exact h19
      · rw [up2_nk e]
        exact L2 q (by show q < p; omega)
    · have hq : q < p + 1 := hq
      have hk : k' < s 4 q := hk
      have : q ≠ p := fun e => by rw [e] at hk; omega
      rw [‹LK A A'› (15 + q) (by omega) (by omega)]
      exact L3 q k' (by show q < p; omega) hk
  have := law_154 (J := J) (xs := xs) (post := post) (ad := ad') (M := 4 + 9 * (p + 1)) (K := 9 * (p + 1)) hL hp3 (by omega) (by omega) (fun S2 A2 s2 m2 k2 I2 hA2 h2 hz2 h02 hm2 hk2 => ?_) (4 * (1 + p % 2)) 0 S' A' (sJn s p b) (m + 1) (k + 1) (by omega) z4 I' hA' h00 ?_ h0p (by omega) (by omega)
  · rw [had 0 (by decide), had 14 (by decide), had 18 (by decide), had 19 (by decide), had 20 (by decide)] at this
    exact this
  · rw [had 0 (by decide), had 14 (by decide), had 18 (by decide), had 19 (by decide), had 20 (by decide)]
    exact hJ S2 ad' A2 s2 m2 k2 ⟨I2, hA2, h2, hz2, h02, hm2, hk2⟩ had
  · rw [tots_same (show sJn s p b 6 = s 6 from rfl)]
    exact hz
theorem law_b (hL : L ≤ 260) (hp3 : p < 3) (H : LJob S ad p A s m k) (hb : isB b) {x : Int32} (hx : x = nI b) (hJ : ∀ S' ad' A' s' m' k', LJob S' ad' (p + 1) A' s' m' k' → (∀ t, t < 21 → ad' t = ad t) → J (ad 0) (ad 14) (ad 18) (ad 19) (ad 20) (lN 0) (lN 0) (nI 1) (nI k') (nI (p + 1)) S') : isK S (ad 19) 9 ∧ (vp_in (nI p) (mN S (ad 19)) ∧ (∀ S2 : Mem, S2 = (sI S (ad 19) (nI p).toNatClampNeg x) → wcL_law_124 L xs post J (ad 0) (ad 14) (ad 18) (ad 19) (ad 20) (lN 0) (lN 0) (nI 1) (nI k) (nI p) S2)) := by
  subst hx
  obtain ⟨I, hA, h00, hz, h0p, hm, hk⟩ := H
  obtain ⟨f1, f2⟩ := rd I.h (t := 19) (k := p) (by decide) (show p < 3 from hp3)
  refine ⟨I.h.k (t := 19) LM, f1, fun S2 e2 => ?_⟩
  rw [nI_clamp (by omega)] at e2
  have k2 := I.h.sI (LM (t := 19)) p (nI b)
  rw [← e2] at k2
  have I2 : Inv S2 ad (p, 0) (aI A 19 p (nI b)) s m := I.rl k2 (fun t ht => gI_aIu _ _ _ _ _ (by omega)) rfl
  obtain ⟨L1, L2, L3, L4⟩ := hA
  refine law_124 hL hp3 ⟨I2, ⟨fun q hq => ?_, fun q hq => ?_, fun q k' hq hk => ?_, L4⟩, h00, hz, h0p, hm, hk⟩ hb (gI_aI _ _ _ _) hJ
  · rw [gI_aIu _ _ _ _ _ (by decide)]; exact L1 q hq
  · have hq' : q < p := hq
    rw [gI_aIk _ _ _ _ _ (by omega)]; exact L2 q hq
  · have hq' : q < p := hq
    rw [gI_aIu _ _ _ _ _ (by omega)]; exact L3 q k' hq hk
theorem law_80 (hL : L ≤ 260) (hp : ∀ S, post (nI 1) S) : ∀ f p S ad A s m k, p + f = 3 → LJob S ad p A s m k → wlL_law_80 L xs post (f + 1) (ad 0) (ad 14) (ad 18) (ad 19) (ad 20) (lN 0) (lN 0) (nI 1) (nI k) (nI p) S := by
  intro f
  induction f with
  | zero =>
    intro p S ad A s m k hpf H
    obtain ⟨I, hA, h00, hz, h0p, hm, hk⟩ := H
    have e : p = 3 := by omega
    subst e
    refine ⟨fun _ => ⟨101, Nat.le_refl _, law_237 hL hp 100 0 S ad (3, 0) A s m 0 0 k rfl ⟨I, hA, rfl, h00, h0p⟩ (by omega) (Nat.le_refl _) (by omega) (by omega)⟩, fun z => absurd ((nI_leI (by omega) (by omega)).2 (Nat.le_refl _)) z⟩
  | succ f ih =>
    intro p S ad A s m k hpf H
    have hp3 : p < 3 := by omega
    have hk := H.2.2.2.2.2.2
    have hJ : ∀ S' ad' A' s' m' k', LJob S' ad' (p + 1) A' s' m' k' → (∀ t, t < 21 → ad' t = ad t) → wlL_law_80 L xs post (f + 1) (ad 0) (ad 14) (ad 18) (ad 19) (ad 20) (lN 0) (lN 0) (nI 1) (nI k') (nI (p + 1)) S' := by
      intro S' ad' A' s' m' k' H' had
      have := ih (p + 1) S' ad' A' s' m' k' (by omega) H'
      rw [had 0 (by decide), had 14 (by decide), had 18 (by decide), had 19 (by decide), had 20 (by decide)] at this
      exact this
    refine ⟨fun z => ?_, fun _ => rd_pick hL (by omega) (by decide) (by decide) fun x257 _ => ⟨fun _ => rd_pick hL (by omega) (by decide) (by decide) fun x260 _ => ⟨fun _ => law_b hL hp3 H (Or.inr (Or.inr rfl)) (by decide) hJ, fun _ => law_b hL hp3 H (Or.inr (Or.inl rfl)) (by decide) hJ⟩, fun _ => law_b hL hp3 H (Or.inl rfl) (by decide) hJ⟩⟩
    rw [nI_leI (by omega) (by omega)] at z; omega
theorem law_46 (hL : L ≤ 260) (hp : ∀ S, post (nI 1) S) : ∀ f c S A s, c + f = 4 → Inv S ad (0, 0) A s c → LA0 A (0, 0) s → s 0 0 = c → s 0 5 + tots s 3 = 0 → wlL_law_46 L xs post (f + 1) (ad 0) (ad 14) (ad 18) (ad 19) (ad 20) (lN 0) (lN 0) (nI 1) (nI 0) (nI c) S := by
  intro f
  induction f with
  | zero =>
    intro c S A s hc I hA h00 hz
    have e : c = 4 := by omega
    subst e
    exact ⟨fun _ => ⟨4, Nat.le_refl _, law_80 hL hp 3 0 S ad A s 4 0 rfl ⟨I, hA, h00, hz, fun j hj => absurd hj (Nat.not_lt_zero _), Nat.le_refl _, Nat.le_refl _⟩⟩, fun z => absurd ((nI_leI (by omega) (by omega)).2 (Nat.le_refl _)) z⟩
  | succ f ih =>
    intro c S A s hc I hA h00 hz
    refine ⟨fun z => ?_, fun _ => wr_addContent I (by omega) (by omega) fun S' A' I' k' => ⟨fun y => absurd (congrArg nI h00) y, fun _ x309 e309 x310 e310 => ?_⟩⟩
    · rw [nI_leI (by omega) (by omega)] at z; omega
    rw [and11] at e309
    rw [nI_add] at e310
    subst e309 e310
    obtain ⟨L1, L2, L3, L4⟩ := hA
    refine ih (c + 1) S' A' _ (by omega) I' ⟨fun q hq => ?_, fun q hq => absurd hq (Nat.not_lt_zero _), fun q _ hq => absurd hq (Nat.not_lt_zero _), fun q hq => absurd hq (Nat.not_lt_zero _)⟩ ?_ ?_
    · rw [k' 18 (by decide) (by decide), s_fn (by decide)]
      exact L1 q hq
    · rw [up2_at, vu_at]; omega
    · rw [tots_same (s_fn (by decide)), up2_nk (by decide)]
      exact hz
theorem inv0 (k : Rel S ad (0, 0) A) (a : A0ok A) : Inv S ad (0, 0) A (fun _ _ => 0) 0 := by
  obtain ⟨a1, a2, a3, a4, a5, a6⟩ := a
  have z : ∀ t k, t ≠ 6 → t ≠ 8 → gI A t k = nI 0 := fun t k h6 h8 => by rw [a1 t h6 h8]; rfl
  have y : ∀ t k, gJ A t k = lN 0 := fun t k => by rw [a6]; rfl
  refine ⟨k, ?_, ?_, ?_⟩
  · exact ⟨⟨z _ _ (by decide) (by decide), z _ _ (by decide) (by decide), z _ _ (by decide) (by decide), z _ _ (by decide) (by decide), z _ _ (by decide) (by decide)⟩, ⟨y _ _, y _ _, y _ _, y _ _⟩, fun c _ => z _ _ (by decide) (by decide), fun c _ => z _ _ (by decide) (by decide), fun i hi => absurd hi (Nat.not_lt_zero _), fun j hj => absurd hj (Nat.not_lt_zero _), fun l hl => absurd hl (Nat.not_lt_zero _)⟩
  · exact ⟨⟨Nat.zero_le _, Nat.zero_le _, Nat.zero_le _, Nat.zero_le _, Nat.zero_le _, Nat.zero_le _, Nat.zero_le _, Nat.zero_le _⟩, fun c _ => ⟨Nat.zero_le _, Nat.zero_le _, rfl⟩, fun i hi => absurd hi (Nat.not_lt_zero _), fun j hj => absurd hj (Nat.not_lt_zero _), fun j _ => Nat.zero_le _, fun j _ k hk => absurd hk (Nat.not_lt_zero _), fun j _ => rfl, fun j _ i _ => ⟨Nat.zero_le _, fun _ => rfl⟩, fun l hl => absurd hl (Nat.not_lt_zero _)⟩
  · refine ⟨⟨Or.inl ⟨rfl, a2⟩, Or.inl ⟨rfl, a3⟩, a4, Or.inl rfl⟩, fun k hk => absurd hk (Nat.not_lt_zero _), fun p hp => Or.inl (a5 p hp), fun p hp => ⟨fun e => ?_, fun ⟨k, hk, _⟩ => absurd hk (Nat.not_lt_zero _)⟩⟩
    rw [a5 p hp] at e
    have b : pq p 0 0 < 1560000 := by unfold pq; omega
    have e2 : pq p (c1 (fun _ _ => 0) p) (c2 (fun _ _ => 0) p) = pq p 0 0 := by
      unfold c1 c2
      split <;> rfl
    rw [e2] at e
    exact absurd e (m1_ne (by omega))
theorem law_pure (L : Nat) (xs : Nat → Int32) (hL : L ≤ 260) : wpL_law M0 L xs (fun r _ => r = 1) :=
  law_init fun S ad A k a => ⟨5, Nat.le_refl _, law_46 hL (fun _ => rfl) 4 0 S A (fun _ _ => 0) rfl (inv0 k a) ⟨fun q _ => by rw [a.1 18 (by decide) (by decide)]; rfl, fun q hq => absurd hq (Nat.not_lt_zero _), fun q _ hq => absurd hq (Nat.not_lt_zero _), fun q hq => absurd hq (Nat.not_lt_zero _)⟩ rfl (by rw [tots3]; rfl)⟩
end
