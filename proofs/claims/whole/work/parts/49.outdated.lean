/-! ===== lacks, outdated ===== -/
section
variable {S S1 : Mem} {ad : Nat → Nat} {A A' A1 : AM} {n : Nat × Nat} {s : Sta} {m : Nat} {K P : Mem → Prop} {post : Int32 → Mem → Prop} {J : Int32 → Int32 → Mem → Prop} {p q r : Int32} {j l c md : Nat}
theorem Inv.st9 (I : Inv S ad n A s m) (hj : j < n.1) {i : Nat} (hi : i < 8) : s 6 (8 * j + i) ≤ 9999 := (I.vb.2.2.2.2.2.2.2.1 j (by have := I.h.2.2.1; omega) i hi).1
theorem Inv.st0 (I : Inv S ad n A s m) (hj : j < 4) {i : Nat} (hi : i < 8) (h : ¬ (j < n.1 ∧ whl (s 3 j) (s 4 j) ∧ i < cntf (s 3 j) (s 4 j))) : s 6 (8 * j + i) = 0 := (I.vb.2.2.2.2.2.2.2.1 j hj i hi).2 h
theorem Inv.m19 (I : Inv S ad n A s m) (x : RO A A1 md) {i : Nat} (hi : i < 32) : gI A1 19 i = nI (s 6 i) := by rw [x.1 19 (by decide)]; exact I.vm.2.2.2.2.2.2.2.1 _ hi
theorem in500 (h1 : ∀ c, 1 ≤ c → c ≤ 500 → p = nI c → post (nI 1) S) (h0 : ¬ (1 ≤ p.toInt ∧ p.toInt ≤ 500) → post (nI 0) S) : wpX7_in S p (nI 1) (nI 500) post := by
  refine mm_in (fun z => ?_) (fun z => h0 z)
  rw [nI_toInt (by decide), nI_toInt (by decide)] at z
  obtain ⟨c, hc, e, -⟩ := inr_of (p := p) (N := 501) ⟨by omega, by omega⟩
  rw [e, nI_toInt (by omega)] at z
  exact h1 c (by omega) (by omega) e
theorem n500 (hc : c ≤ 500) {Q : Prop} (h1 : 1 ≤ c) (z : ¬ (1 ≤ (nI c).toInt ∧ (nI c).toInt ≤ 500)) : Q := by
  rw [nI_toInt (by omega)] at z; omega
theorem ml_job (I : Inv S ad n A s m) (k1 : Rel S1 ad n A1) (x : RO A A1 md) (h1 : ∀ l, l < n.1 → p = nI l → post (nI 1) S1) (h0 : ¬ inr p n.1 → post (nI 0) S1) : wpX7_in S1 p (nI 0) ((mI S1 (ad 14) 2) - (nI 1)) post := by
  have hn := I.h.2.2.1
  rw [k1.i l14, I.mvs x]
  exact mm_inN (by omega) h1 h0
theorem op_lacks (I : Inv S ad n A s m) (hm : m < 512) (hK : nxt ad m K) (hp : ∀ x S1, mcJ (fun S g => wpX7_lacks S (ad 14) p q g) ad K P x S1 → post x S1) : wpL_lacks S (ad 0) p q (ad 29) post := by
  have hn := I.h.2.2.1
  refine ⟨I.h.k l0, I.h.k l0, sp_existingJob I.h I.cj (fun j hj e => ⟨_, rfl, sp_requireCount (fun c h1 h2 e2 => sp_requireComplete I.h (jt hj) (I.vj j hj) (fun w => ?_) (fun w => ⟨fun q => absurd q (by decide), fun _ => hp _ _ ?_, fun q => absurd q (by decide), Or.inr (Or.inl rfl)⟩)) (fun z => ⟨fun q => absurd q (by decide), fun q => absurd q (by decide), fun _ => hp _ _ ?_, Or.inr (Or.inr rfl)⟩)⟩) (fun z => ⟨fun _ => hp _ _ ?_, fun q => absurd q (by decide), fun q => absurd q (by decide), Or.inl rfl⟩)⟩
  · subst e
    subst e2
    refine ⟨I.h.jk (jt hj), sp_lackFor I.h (jt hj) (I.vj j hj) h2 (put_out I.h fun S1 k1 => hp _ _ ⟨k1.k l14, k1.k l14, ml_job I k1 (RO.out _ (s 0 2) _) (fun j' hj' e' => ⟨fun _ => in500 (fun c' _ _ e2 => ⟨fun _ => ⟨k1.k l14, mm_isWhole k1 (I.mjs (RO.out _ (s 0 2) _) j hj) (fun _ => ⟨fun _ => ⟨k1.k l14, ?_⟩, fun q => absurd q n10⟩) (fun z => absurd w z)⟩, fun q => absurd q n10⟩) (fun z => n500 h2 h1 z), fun q => absurd q n10⟩) (fun z => absurd ((inr_nI (by omega)).2 hj) z)⟩)⟩
    rintro S3 rfl
    have k3 := k1.sI l14 0 (nI 0)
    have x3 := (RO.out A (s 0 2) (nI (sm (fun k => c - s 6 (8 * j + k)) (cntf (s 3 j) (s 4 j)))).toInt64).tr (RO.thr _ _ (nI 0))
    refine mm_missing k3 (I.mjs x3 j hj) (sk := fun i => s 6 (8 * j + i)) (fun i hi => ⟨I.m19 x3 (by omega), I.st9 hj hi⟩) h2 ?_
    refine cmp_end k3 (x := 0) (by decide) (gI_aI _ _ _ _) (fun _ => ?_) (I.go hm hK k3 x3)
    rw [gJ_aI, gJ_aJ]
  · subst e
    subst e2
    exact ⟨I.h.k l14, I.h.k l14, ml_job I I.h (RO.rf _ (s 0 2)) (fun j' hj' e' => ⟨fun _ => in500 (fun c' _ _ e2 => ⟨fun _ => ⟨I.h.k l14, mm_isWhole I.h (I.mj j hj) (fun z => absurd z w) (fun _ => ⟨fun q => absurd t0 q, fun _ => ⟨I.h.k l14, mm_fails I.h fun S2 k2 => fail_end I hm hK (x := 3) (by decide) (by decide) k2 (RO.thr _ _ _) (gI_aI _ _ _ _)⟩⟩)⟩, fun q => absurd q n10⟩) (fun z => n500 h2 h1 z), fun q => absurd q n10⟩) (fun z => absurd ((inr_nI (by omega)).2 hj) z)⟩
  · subst e
    exact ⟨I.h.k l14, I.h.k l14, ml_job I I.h (RO.rf _ (s 0 2)) (fun j' hj' e' => ⟨fun _ => in500 (fun c' h1 h2 e2 => n500 h2 h1 (e2 ▸ z)) (fun _ => ⟨fun q => absurd t0 q, fun _ => ⟨I.h.k l14, mm_fails I.h fun S2 k2 => fail_end I hm hK (x := 2) (by decide) (by decide) k2 (RO.thr _ _ _) (gI_aI _ _ _ _)⟩⟩), fun q => absurd q n10⟩) (fun z => absurd ((inr_nI (by omega)).2 hj) z)⟩
  · exact ⟨I.h.k l14, I.h.k l14, ml_job I I.h (RO.rf _ (s 0 2)) (fun j' hj' e' => absurd ((inr_nI (by omega)).2 hj') (e' ▸ z)) (fun _ => ⟨fun q => absurd t0 q, fun _ => ⟨I.h.k l14, mm_fails I.h fun S2 k2 => fail_end I hm hK (x := 1) (by decide) (by decide) k2 (RO.thr _ _ _) (gI_aI _ _ _ _)⟩⟩)⟩
/-- lot l shows c in another state than the present one -/
def stale (s : Sta) (c l : Nat) : Prop := ∃ k, k < s 10 l ∧ s 5 (16 * s 8 l + k) = c ∧ s 11 (16 * l + k) ≠ s 1 c
theorem stale_f (n : Nat × Nat) (s : Sta) (c : Nat) : ∃ F : Nat → Nat, ∀ l, (l < n.2 ∧ stale s c l → F l = s 9 l) ∧ (¬ (l < n.2 ∧ stale s c l) → F l = 0) :=
  ⟨fun l => @ite _ (l < n.2 ∧ stale s c l) (Classical.propDecidable _) (s 9 l) 0, fun _ => ⟨fun h => if_pos h, fun h => if_neg h⟩⟩
theorem sm_zero {f : Nat → Nat} {a : Nat} : ∀ {b : Nat}, a ≤ b → (∀ k, a ≤ k → f k = 0) → sm f b = sm f a
  | 0, h, _ => by have : a = 0 := by omega
                  rw [this]
  | b + 1, h, hz => by
    by_cases c : a = b + 1
    · rw [c]
    · show sm f b + f b = _
      rw [hz b (by omega), Nat.add_zero]
      exact sm_zero (by omega) hz
theorem sp_od19 (I : Inv S ad n A s m) (hc : c < 12) {F : Nat → Nat} (hF : ∀ l, (l < n.2 ∧ stale s c l → F l = s 9 l) ∧ (¬ (l < n.2 ∧ stale s c l) → F l = 0)) {px : Nat → Mem → Prop} (hq : post (nI (sm F 100)) S) : ∃ m, wlX6_outdated_19 (ad 0) (nI c) (nI (s 1 c)) post px m (nI 0) (nI 0) S := by
  have hn := I.h.2.2.2
  have key : ∀ m l, l + m = 100 → wlX6_outdated_19 (ad 0) (nI c) (nI (s 1 c)) post px (m + 1) (nI (sm F l)) (nI l) S := by
    intro m
    induction m with
    | zero =>
      intro l hl
      have e : l = 100 := by omega
      subst e
      exact ⟨fun _ => hq, fun z => absurd ((nI_leI (by omega) (by omega)).2 (Nat.le_refl _)) z⟩
    | succ m ih =>
      intro l hl
      have e0 : sm F (l + 1) = sm F l + F l := rfl
      refine ⟨fun z => ?_, fun _ => ⟨I.h.k l0, sp_findLot I.h I.cl (fun l' hl' e => ⟨fun z => (nomatch z), fun o z => ?_⟩) (fun z => ⟨fun _ x14 e => ?_, fun o z => (nomatch z)⟩)⟩⟩
      · rw [nI_leI (by omega) (by omega)] at z; omega
      · cases z
        have e' := (nI_eq (by omega) (by omega)).1 e
        subst e'
        refine ⟨I.h.lk (ltt hl'), sp_showsInOtherState I.h (ltt hl') (I.lv hl') hc (I.s99 hc) (fun w => ⟨fun q => absurd q n10, fun _ => ⟨I.h.lk (ltt hl'), ?_⟩⟩) (fun w => ⟨fun _ x19 e => ?_, fun q => absurd t0 q⟩)⟩
        · rw [I.h.li (ltt hl'), (I.lv hl').1]
          rintro x21 rfl x22 rfl
          rw [nI_add, nI_add, ← (hF l).1 ⟨hl', w⟩, ← e0]
          exact ih (l + 1) (by omega)
        · subst e
          rw [nI_add]
          have := ih (l + 1) (by omega)
          rw [e0, (hF l).2 (fun y => w y.2), Nat.add_zero] at this
          exact this
      · subst e
        rw [nI_add]
        have := ih (l + 1) (by omega)
        rw [e0, (hF l).2 (fun y => z ((inr_nI (by omega)).2 y.1)), Nat.add_zero] at this
        exact this
  exact ⟨_, key 100 0 rfl⟩
theorem mm_od28 (I : Inv S ad n A s m) (k1 : Rel S1 ad n A1) (x : RO A A1 md) (hl : l < n.2) (hc : c < 12) {w : Int32} (h1 : stale s c l → J (w + nI (s 9 l)) (nI (l + 1)) S1) (h0 : ¬ stale s c l → J (w + nI 0) (nI (l + 1)) S1) : ∃ m, wlX7_outdated_28 (ad 14) (nI c) w (nI l) post J m (nI 0) (nI 0) S1 := by
  have hn := I.h.2.2.2
  have h16 := I.l16 hl
  obtain ⟨b1, b2, b3, b4, b5⟩ := lotB I hl
  have h4 : s 8 l < 4 := by have := I.h.2.2.1; omega
  have f27 := rd k1 (t := 27) (k := l) (by decide) (show l < 100 by omega)
  have v27 : mI S1 (ad 27) (nI l).toNatClampNeg = nI (s 10 l) := by rw [f27.2, x.1 27 (by decide), (I.lm hl).2.2.1]
  have f26 := rd k1 (t := 26) (k := l) (by decide) (show l < 100 by omega)
  have v26 : mI S1 (ad 26) (nI l).toNatClampNeg = nI (s 9 l) := by rw [f26.2, x.1 26 (by decide), (I.lm hl).2.1]
  have f25 := rd k1 (t := 25) (k := l) (by decide) (show l < 100 by omega)
  have v25 : mI S1 (ad 25) (nI l).toNatClampNeg = nI (s 8 l) := by rw [f25.2, x.1 25 (by decide), (I.lm hl).1]
  have f15 := rd k1 (t := 15) (k := c) (by decide) (show c < 12 by omega)
  have v15 : mI S1 (ad 15) (nI c).toNatClampNeg = nI (s 1 c) := by rw [f15.2, x.1 15 (by decide), I.vm.2.2.1 c hc]
  have h99 := I.s99 hc
  have hb1 := I.vb.1.2.1
  have hb2 := I.vb.1.2.2.2.2.2.2.2
  have keyT : ∀ m k, k + m = s 10 l → stale s c l → wlX7_outdated_28 (ad 14) (nI c) w (nI l) post J (m + 1) (nI 1) (nI k) S1 := by
    intro m
    induction m with
    | zero =>
      intro k hk hs
      refine ⟨k1.k l14, ad 27, k1.r l14 rfl, k1.k (t := 27) LM, f27.1, ?_⟩
      rw [v27]
      refine ⟨fun _ => ⟨fun q => absurd q n10, fun _ => ⟨ad 26, k1.r l14 rfl, k1.k (t := 26) LM, f26.1, ?_⟩⟩, fun z => absurd ((nI_leI (by omega) (by omega)).2 (by omega)) z⟩
      rw [v26]
      rintro x18 rfl x19 rfl
      rw [nI_add]
      exact h1 hs
    | succ m ih =>
      intro k hk hs
      refine ⟨k1.k l14, ad 27, k1.r l14 rfl, k1.k (t := 27) LM, f27.1, ?_⟩
      rw [v27]
      refine ⟨fun z => ?_, fun _ => ⟨fun _ x21 e => ?_, fun q => absurd q n10⟩⟩
      · rw [nI_leI (by omega) (by omega)] at z; omega
      · subst e
        rw [nI_add]
        exact ih (k + 1) (by omega) hs
  have keyF : ∀ m k, k + m = s 10 l → (∀ k', k' < k → ¬ (s 5 (16 * s 8 l + k') = c ∧ s 11 (16 * l + k') ≠ s 1 c)) → wlX7_outdated_28 (ad 14) (nI c) w (nI l) post J (m + 1) (nI 0) (nI k) S1 := by
    intro m
    induction m with
    | zero =>
      intro k hk hs
      refine ⟨k1.k l14, ad 27, k1.r l14 rfl, k1.k (t := 27) LM, f27.1, ?_⟩
      rw [v27]
      refine ⟨fun _ => ⟨fun _ x13 e13 x14 e14 => ?_, fun q => absurd t0 q⟩, fun z => absurd ((nI_leI (by omega) (by omega)).2 (by omega)) z⟩
      subst e13 e14
      rw [nI_add]
      exact h0 fun ⟨k', y1, y2⟩ => hs k' (by omega) y2
    | succ m ih =>
      intro k hk hs
      have f18 := rd k1 (t := 18) (k := 16 * s 8 l + k) (by decide) (show 16 * s 8 l + k < 64 by omega)
      have v18 : mI S1 (ad 18) (nI (16 * s 8 l + k)).toNatClampNeg = nI (s 5 (16 * s 8 l + k)) := by rw [f18.2, x.1 18 (by decide), I.vm.2.2.2.2.2.2.1 _ h4 k (by omega)]
      have f28 := rd k1 (t := 28) (k := 16 * l + k) (by decide) (show 16 * l + k < 1600 by omega)
      have v28 : mI S1 (ad 28) (nI (16 * l + k)).toNatClampNeg = nI (s 11 (16 * l + k)) := by rw [f28.2, x.1 28 (by decide), (I.lm hl).2.2.2 k (by omega)]
      refine ⟨k1.k l14, ad 27, k1.r l14 rfl, k1.k (t := 27) LM, f27.1, ?_⟩
      rw [v27]
      refine ⟨fun z => ?_, fun _ => ⟨fun q => absurd t0 q, fun _ => ⟨ad 18, k1.r l14 rfl, ad 25, k1.r l14 rfl, k1.k (t := 25) LM, f25.1, k1.k (t := 18) LM, ?_⟩⟩⟩
      · rw [nI_leI (by omega) (by omega)] at z; omega
      · rw [v25, pk_mul, nI_add]
        refine ⟨f18.1, ?_⟩
        rw [v18]
        have nx : ¬ (s 5 (16 * s 8 l + k) = c ∧ s 11 (16 * l + k) ≠ s 1 c) → wlX7_outdated_28 (ad 14) (nI c) w (nI l) post J (m + 1) (nI 0) (nI (k + 1)) S1 := by
          intro hk'
          refine ih (k + 1) (by omega) fun k' y => ?_
          by_cases d : k' = k
          · subst d; exact hk'
          · exact hs k' (by omega)
        refine ⟨fun z x29 e => ?_, fun z => ⟨ad 28, k1.r l14 rfl, k1.k (t := 28) LM, ?_⟩⟩
        · subst e
          rw [nI_add]
          exact nx fun y => z (by rw [y.1])
        · rw [pk_mul, nI_add]
          refine ⟨f28.1, ad 15, k1.r l14 rfl, k1.k (t := 15) LM, f15.1, ?_⟩
          rw [v28, v15]
          have hle : s 11 (16 * l + k) ≤ 1188 := by
            rw [b5 k (by omega)]
            have := cl_le (s 12) (s 5 (16 * s 8 l + k)) (s 13 l)
            omega
          have hc5 : s 5 (16 * s 8 l + k) < 12 := Nat.lt_of_lt_of_le (I.vb.2.2.2.2.2.1 _ h4 k (by omega)) I.nc
          refine ⟨fun z2 x37 e => ?_, fun z2 x38 e => ?_⟩
          · subst e
            rw [nI_add]
            exact nx fun y => y.2 ((nI_eq (by omega) (by omega)).1 z2)
          · subst e
            rw [nI_add]
            exact keyT m (k + 1) (by omega) ⟨k, by omega, (nI_eq (by omega) (by omega)).1 z, fun y => z2 (by rw [y])⟩
  exact ⟨_, keyF (s 10 l) 0 (by omega) fun k' y => absurd y (by omega)⟩
theorem op_outdated (I : Inv S ad n A s m) (hm : m < 512) (hK : nxt ad m K) (hp : ∀ x S1, mcJ (fun S g => wpX7_outdated S (ad 14) p g) ad K P x S1 → post x S1) : wpL_outdated S (ad 0) p (ad 29) post := by
  have hn := I.nc
  have hn2 := I.h.2.2.2
  refine ⟨I.h.k l0, I.h.k l0, sp_requireContent I.h I.vc.1.1 hn (fun c hc e => ?_) (fun z => ⟨fun _ => hp _ _ ?_, rfl⟩)⟩
  · subst e
    have h12 : c < 12 := by omega
    obtain ⟨F, hF⟩ := stale_f n s c
    refine ⟨I.h.k l0, ad 1, I.h.r l0 rfl, I.h.k (t := 1) LM, sp_stateOf I.h h12 ?_⟩
    rw [I.vc.co h12]
    refine sp_od19 I h12 hF (put_out I.h fun S1 k1 => hp _ _ ⟨k1.k l14, k1.k l14, mm_isContent k1 I.vm.1.1 hn (fun c' hc' e' S2 k2 => ⟨fun _ => ?_, fun z => absurd z n10⟩) (fun z => absurd ((inr_nI (by omega)).2 hc) z)⟩)
    have x2 := (RO.out A (s 0 2) (nI (sm F 100)).toInt64).tr (RO.thr _ _ (nI 0))
    have fin : isK S2 (ad 14) 7 ∧ wpX7_thrown S2 (ad 14) (cmpJ (ad 29) (nI 0) (nI (sm F n.2)) K P) := by
      refine cmp_end k2 (x := 0) (by decide) (gI_aI _ _ _ _) (fun _ => ?_) (I.go hm hK k2 x2)
      rw [gJ_aI, gJ_aJ, sm_zero hn2 fun k hk => (hF k).2 fun y => by omega]
    have key : ∀ m l, l + m = n.2 → wlX7_outdated_14 (ad 14) (nI c) (fun y S2 => isK S2 (ad 14) 7 ∧ wpX7_thrown S2 (ad 14) (cmpJ (ad 29) (nI 0) y K P)) (m + 1) (nI (sm F l)) (nI l) S2 := by
      intro m
      induction m with
      | zero =>
        intro l hl
        have e : l = n.2 := by omega
        subst e
        refine ⟨k2.k l14, ?_⟩
        rw [k2.i l14, x2.2.1 3 (by decide), I.vm.1.2.2.1]
        exact ⟨fun _ => fin, fun z => absurd ((nI_leI (by omega) (by omega)).2 (Nat.le_refl _)) z⟩
      | succ m ih =>
        intro l hl
        have e0 : sm F (l + 1) = sm F l + F l := rfl
        refine ⟨k2.k l14, ?_⟩
        rw [k2.i l14, x2.2.1 3 (by decide), I.vm.1.2.2.1]
        refine ⟨fun z => ?_, fun _ => mm_od28 I k2 x2 (by omega) h12 (fun w => ?_) (fun w => ?_)⟩
        · rw [nI_leI (by omega) (by omega)] at z; omega
        · rw [nI_add, ← (hF l).1 ⟨by omega, w⟩, ← e0]
          exact ih (l + 1) (by omega)
        · have e1 : sm F l + 0 = sm F (l + 1) := by rw [e0, (hF l).2 (fun y => w y.2)]
          rw [nI_add, e1]
          exact ih (l + 1) (by omega)
    exact ⟨_, key n.2 0 (by omega)⟩
  · refine ⟨I.h.k l14, I.h.k l14, mm_isContent I.h I.vm.1.1 hn (fun c' hc' e' S2 k2 => absurd ((inr_nI (by omega)).2 hc') (e' ▸ z)) (fun z S2 k2 => ⟨fun q => absurd t0 q, fun _ => ?_⟩)⟩
    exact fail_end I hm hK (x := 1) (by decide) (by decide) k2 (RO.thr _ _ _) (gI_aI _ _ _ _)
end
