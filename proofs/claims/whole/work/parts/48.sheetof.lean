/-! ===== sheetOf, lacks ===== -/
section
variable {S S1 : Mem} {ad : Nat → Nat} {A A' A1 : AM} {n : Nat × Nat} {s : Sta} {m : Nat} {K P : Mem → Prop} {post J : Int32 → Mem → Prop} {p q r : Int32} {j b np : Nat} {pg : Nat → Nat}
/-- each page is on a sheet -/
theorem pg_ex (hb : isB b) (w : whl b np) {c : Nat} (h1 : 1 ≤ c) (h2 : c ≤ np) : ∃ i, i < cntf b np ∧ ∃ p, p < plc b ∧ pgOn b np i p = c := by
  obtain ⟨w1, w2⟩ := w
  rcases hb with rfl | rfl | rfl
  · have w3 : np % 4 = 0 := w2
    by_cases c1 : c ≤ 2 * (np / 4)
    · by_cases c2 : c % 2 = 1
      · refine ⟨(c - 1) / 2, ?_, 1, by decide, ?_⟩
        · show (c - 1) / 2 < np / 4; omega
        · show 2 * ((c - 1) / 2) + 1 = c; omega
      · refine ⟨(c - 1) / 2, ?_, 2, by decide, ?_⟩
        · show (c - 1) / 2 < np / 4; omega
        · show 2 * ((c - 1) / 2) + 2 = c; omega
    · by_cases c2 : c % 2 = 0
      · refine ⟨(np - c) / 2, ?_, 0, by decide, ?_⟩
        · show (np - c) / 2 < np / 4; omega
        · show np - 2 * ((np - c) / 2) = c; omega
      · refine ⟨(np - c) / 2, ?_, 3, by decide, ?_⟩
        · show (np - c) / 2 < np / 4; omega
        · show np - 2 * ((np - c) / 2) - 1 = c; omega
  · have w3 : np % 4 = 0 := w2
    by_cases c1 : c % 4 = 0
    · refine ⟨c / 4 - 1, ?_, 0, by decide, ?_⟩
      · show c / 4 - 1 < np / 4; omega
      · show 4 * (c / 4 - 1) + 4 = c; omega
    · refine ⟨c / 4, ?_, c % 4, ?_, ?_⟩
      · show c / 4 < np / 4; omega
      · show c % 4 < 4; omega
      · show (if c % 4 = 0 then 4 * (c / 4) + 4 else 4 * (c / 4) + c % 4) = c
        rw [if_neg c1]; omega
  · have w3 : np % 2 = 0 := w2
    refine ⟨(c - 1) / 2, ?_, (c - 1) % 2, ?_, ?_⟩
    · show (c - 1) / 2 < np / 2; omega
    · show (c - 1) % 2 < 2; omega
    · show 2 * ((c - 1) / 2) + 1 + (c - 1) % 2 = c; omega
theorem mm_so24 (h : Rel S ad n A) (v : MJ A j b np pg) {i : Nat} (hi : i < cntf b np) (h1 : (∃ p, p < plc b ∧ nI (pgOn b np i p) = q) → post (nI i) S) (h0 : (¬ ∃ p, p < plc b ∧ nI (pgOn b np i p) = q) → J (nI (i + 1)) S) : ∃ m, wlX7_sheetOf_24 (ad 14) (nI j) q (nI i) post J m (nI 0) S := by
  have hpl := plc_pos b
  have key : ∀ m p, p + m = plc b → (∀ p', p' < p → nI (pgOn b np i p') ≠ q) → wlX7_sheetOf_24 (ad 14) (nI j) q (nI i) post J (m + 1) (nI p) S := by
    intro m
    induction m with
    | zero =>
      intro p hp hq
      refine ⟨h.k l14, mm_places h v ⟨fun _ x16 e => ?_, fun z => absurd ((nI_leI (by omega) (by omega)).2 (by omega)) z⟩⟩
      subst e
      rw [nI_add]
      exact h0 fun ⟨p', h1', h2'⟩ => hq p' (by omega) h2'
    | succ m ih =>
      intro p hp hq
      refine ⟨h.k l14, mm_places h v ⟨fun z => ?_, fun _ => ⟨h.k l14, mm_pageOn h v hi (by omega) ⟨fun z x21 e => ?_, fun z => h1 ⟨p, by omega, z⟩⟩⟩⟩⟩
      · rw [nI_leI (by omega) (by omega)] at z; omega
      · subst e
        rw [nI_add]
        refine ih (p + 1) (by omega) fun p' hp' => ?_
        by_cases c : p' = p
        · subst c; exact z
        · exact hq p' (by omega)
  exact ⟨_, key (plc b) 0 (by omega) fun p' hp' => absurd hp' (by omega)⟩
theorem mm_sheetOf (h : Rel S ad n A) (v : MJ A j b np pg) (h1 : ∀ i, i < cntf b np → (∃ p, p < plc b ∧ nI (pgOn b np i p) = q) → (∀ l, l < i → ¬ ∃ p, p < plc b ∧ nI (pgOn b np l p) = q) → post (nI i) S) (h0 : (∀ i, i < cntf b np → ¬ ∃ p, p < plc b ∧ nI (pgOn b np i p) = q) → ∀ S', Rel S' ad n (aI A 14 0 (nI 3)) → post (nI 0) S') : ∃ m, wlX7_sheetOf_12 (ad 14) (nI j) q post m (nI 0) S := by
  have hn : cntf b np ≤ np := Nat.div_le_self _ _
  have h16 := v.2.2.2.2.1
  have key : ∀ m i, i + m = cntf b np → (∀ l, l < i → ¬ ∃ p, p < plc b ∧ nI (pgOn b np l p) = q) → wlX7_sheetOf_12 (ad 14) (nI j) q post (m + 1) (nI i) S := by
    intro m
    induction m with
    | zero =>
      intro i hi hq
      refine ⟨h.k l14, mm_count h v ⟨fun _ => ⟨h.k l14, mm_fails h (h0 fun l hl => hq l (by omega))⟩, fun z => absurd ((nI_leI (by omega) (by omega)).2 (by omega)) z⟩⟩
    | succ m ih =>
      intro i hi hq
      refine ⟨h.k l14, mm_count h v ⟨fun z => ?_, fun _ => mm_so24 h v (by omega) (fun w => h1 i (by omega) w hq) (fun w => ih (i + 1) (by omega) fun l hl => ?_)⟩⟩
      · rw [nI_leI (by omega) (by omega)] at z; omega
      · by_cases c : l = i
        · subst c; exact w
        · exact hq l (by omega)
  exact ⟨_, key (cntf b np) 0 (by omega) fun l hl => absurd hl (by omega)⟩
theorem op_sheetOf (I : Inv S ad n A s m) (hm : m < 512) (hK : nxt ad m K) (hp : ∀ x S1, mcJ (fun S g => wpX7_sheetOf S (ad 14) p q g) ad K P x S1 → post x S1) : wpL_sheetOf S (ad 0) p q (ad 29) post := by
  have hn := I.h.2.2.1
  have m3 : ∀ j, j < n.1 → whl (s 3 j) (s 4 j) → ¬ (1 ≤ q.toInt ∧ q.toInt ≤ s 4 j) → mcJ (fun S g => wpX7_sheetOf S (ad 14) (nI j) q g) ad K P (nI 3) S := by
    intro j hj w z
    have h16 := (I.mj j hj).2.2.2.2.1
    refine ⟨I.h.k l14, I.h.k l14, mj_yes I I.h (RO.rf _ (s 0 2)) hj w fun S2 k2 => ⟨fun _ => mm_sheetOf k2 (I.mjs (RO.thr A (s 0 2) (nI 0)) j hj) (fun i hi ⟨p, hp, e⟩ _ => absurd ?_ z) (fun _ S3 k3 => fail_end I hm hK (x := 3) (by decide) (by decide) k3 (thr1 _ _ _ _) (gI_aI _ _ _ _)), fun w => absurd w n10⟩⟩
    have := pgOn_rng (I.mj j hj).2.2.1 hi hp
    rw [← e, nI_toInt (by omega)]
    omega
  refine ⟨I.h.k l0, I.h.k l0, sp_completeJob I.h I.cj I.vj (fun j hj e w => ⟨_, rfl, ?_⟩) (fun j hj e w => ⟨fun q => absurd q (by decide), fun _ => hp _ _ ?_, fun q => absurd q (by decide), Or.inr (Or.inl rfl)⟩) (fun z => ⟨fun _ => hp _ _ ?_, fun q => absurd q (by decide), fun q => absurd q (by decide), Or.inl rfl⟩)⟩
  · subst e
    have h16 := (I.mj j hj).2.2.2.2.1
    refine ⟨fun z => ⟨fun q => absurd q (by decide), fun q => absurd q (by decide), fun _ => hp _ _ (m3 j hj w ?_), Or.inr (Or.inr rfl)⟩, fun z => ⟨I.h.jk (jt hj), ?_⟩⟩
    · rw [ilt_iff, nI_toInt (by decide)] at z; omega
    rw [I.h.ji (jt hj), (I.vj j hj).2.2.1]
    rw [ilt_iff, nI_toInt (by decide)] at z
    refine ⟨fun z2 => ?_, fun z2 => ⟨fun q => absurd q (by decide), fun q => absurd q (by decide), fun _ => hp _ _ (m3 j hj w ?_), Or.inr (Or.inr rfl)⟩⟩
    · rw [ile_iff, nI_toInt (by omega)] at z2
      obtain ⟨c, hc, rfl, -⟩ := inr_of (p := q) (N := s 4 j + 1) ⟨by omega, by omega⟩
      rw [nI_toInt (by omega)] at z z2
      refine sp_sheetWith I.h (jt hj) (I.vj j hj) (c := c) (by omega) (fun i hi hx hmin => ?_) (fun hno => ?_)
      · refine put_out I.h fun S1 k1 => hp _ _ ⟨k1.k l14, k1.k l14, mj_yes I k1 (RO.out _ (s 0 2) _) hj w fun S2 k2 => ⟨fun _ => ?_, fun q => absurd q n10⟩⟩
        have x2 := (RO.out A (s 0 2) (nI i).toInt64).tr (RO.thr _ _ (nI 0))
        have hit : ∀ l, l < cntf (s 3 j) (s 4 j) → ((∃ p, p < plc (s 3 j) ∧ nI (pgOn (s 3 j) (s 4 j) l p) = nI c) ↔ ∃ p, p < plc (s 3 j) ∧ pgOn (s 3 j) (s 4 j) l p = c) := by
          intro l hl
          constructor
          · rintro ⟨p, h1, h2⟩
            have := pgOn_rng (I.mj j hj).2.2.1 hl h1
            exact ⟨p, h1, (nI_eq (by omega) (by omega)).1 h2⟩
          · rintro ⟨p, h1, h2⟩
            exact ⟨p, h1, by rw [h2]⟩
        refine mm_sheetOf k2 (I.mjs x2 j hj) (fun i' hi' hx' hmin' => ?_) (fun hno => absurd ((hit i hi).2 hx) (hno i hi))
        have e : i' = i := by
          rcases Nat.lt_trichotomy i' i with y | y | y
          · exact absurd ((hit i' hi').1 hx') (hmin i' y)
          · exact y
          · exact absurd ((hit i hi).2 hx) (hmin' i y)
        subst e
        refine cmp_end k2 (x := 0) (by decide) (gI_aI _ _ _ _) (fun _ => ?_) (I.go hm hK k2 x2)
        rw [gJ_aI, gJ_aJ]
      · obtain ⟨i, hi, hx⟩ := pg_ex (I.mj j hj).2.2.1 w (c := c) (by omega) (by omega)
        exact absurd hx (hno i hi)
    · rw [ile_iff, nI_toInt (by omega)] at z2; omega
  · subst e
    exact ⟨I.h.k l14, I.h.k l14, mj_inc I I.h (RO.rf _ (s 0 2)) hj w fun S2 k2 => ⟨fun q => absurd t0 q, fun _ => fail_end I hm hK (x := 2) (by decide) (by decide) k2 (RO.thr _ _ _) (gI_aI _ _ _ _)⟩⟩
  · exact ⟨I.h.k l14, I.h.k l14, mj_no I I.h (RO.rf _ (s 0 2)) z fun S2 k2 => ⟨fun q => absurd t0 q, fun _ => fail_end I hm hK (x := 1) (by decide) (by decide) k2 (RO.thr _ _ _) (gI_aI _ _ _ _)⟩⟩
end
