/-! ===== addJob ===== -/
section
variable {S S1 S' : Mem} {ad ad' : Nat → Nat} {A B A' A1 : AM} {n : Nat × Nat} {s : Sta} {m : Nat} {K P : Mem → Prop} {post : Int32 → Mem → Prop} {px : Nat → Mem → Prop} {p q r : Int32} {b : Nat}
theorem mcJ_ad {G : Mem → Nat → (Int32 → Mem → Prop) → Prop} (h14 : ad' 14 = ad 14) (h29 : ad' 29 = ad 29) {x : Int32} (h : mcJ (fun S g => G S (ad' 14) g) ad' K P x S) : mcJ (fun S g => G S (ad 14) g) ad K P x S := by
  unfold mcJ at h ⊢
  rw [h14, h29] at h
  exact h
theorem chr_b (hb : isB b) : vz_chr (nI b) := by
  rcases hb with rfl | rfl | rfl
  · exact ⟨rfl, rfl⟩
  · exact ⟨rfl, rfl⟩
  · exact ⟨rfl, rfl⟩
def ajb (S : Mem) (a0 : Nat) (p1 : Int32) (post : Int32 → Mem → Prop) (px : Nat → Mem → Prop) : Prop := isK S a0 6 ∧ (((mI S a0 6) < 0 → (px 2 S)) ∧ (¬ (mI S a0 6) < 0 → (∃ o4, mR S a0 1 = some o4 ∧ (isK S o4 10 ∧ (((mI S a0 6) < (nI (mN S o4)) → (∀ o7 : Nat, o7 ∉ mL S → (∀ S8 : Mem, S8 = (nA S o7 1 0) → (wpX1_init S8 o7 p1 (fun u10 S9 => isK S9 o4 10 ∧ (isK S9 o7 1 ∧ (vp_in (mI S a0 6) (mN S9 o4) ∧ (∀ S14 : Mem, S14 = (sR S9 o4 (mI S a0 6).toNatClampNeg (some o7)) → (isK S14 a0 6 ∧ (∀ x16 : Int32, x16 = ((mI S14 a0 6) + (nI 1)) → (∀ S17 : Mem, S17 = (sI S14 a0 6 x16) → (post ((mI S17 a0 6) - (nI 1)) S17)))))))))))) ∧ (¬ (mI S a0 6) < (nI (mN S o4)) → (px 2 S)))))))
def ajm (S : Mem) (a0 : Nat) (p1 : Int32) (post : Int32 → Mem → Prop) : Prop := isK S a0 7 ∧ ((¬ (mI S a0 2) = (nI 4) → (∀ S4 : Mem, S4 = (sI S a0 0 (nI 0)) → (∃ o5, mR S4 a0 13 = some o5 ∧ (isK S4 o5 8 ∧ (vp_in (mI S4 a0 2) (mN S4 o5) ∧ (∀ S8 : Mem, S8 = (sI S4 o5 (mI S4 a0 2).toNatClampNeg p1) → (∀ x9 : Int32, x9 = ((mI S8 a0 2) + (nI 1)) → (∀ S10 : Mem, S10 = (sI S8 a0 2 x9) → (post ((mI S10 a0 2) - (nI 1)) S10))))))))) ∧ ((mI S a0 2) = (nI 4) → (wpX7_fails S a0 (nI 2) (fun x12 S11 => post x12 S11))))
theorem sp_aj (I : Inv S ad n A s m) (hb : isB b) (h1 : n.1 = 4 → px 2 S) (hq : n.1 < 4 → ∀ S' ad', Rel S' ad' (n.1 + 1, n.2) (aI (AJ A (40 + 3 * n.1) (nI b)) 0 6 (nI (n.1 + 1))) → (∀ w, live n w → ad' w = ad w) → post (nI n.1) S') : ajb S (ad 0) (nI b) post px := by
  have h4 : n.1 ≤ 4 := I.h.2.2.1
  refine ⟨I.h.k l0, fun z => absurd z ?_, fun _ => ⟨ad 5, I.h.r l0 rfl, I.h.k (t := 5) LM, fun z => ?_, fun z => h1 ?_⟩⟩
  · rw [I.h.i l0, I.cj, lt0_iff, nI_toInt (by omega)]
    omega
  · rw [I.h.i l0, I.cj, I.h.len (t := 5) LM, nI_ltI (by omega) (by decide)] at z
    have z' : n.1 < 4 := z
    exact sp_newJob I.h z' I.cj (chr_b hb) (hq z')
  · rw [I.h.i l0, I.cj, I.h.len (t := 5) LM, nI_ltI (by omega) (by decide)] at z
    have z' : ¬ n.1 < 4 := z
    omega
/-- a job more -/
def sJn (s : Sta) (j b : Nat) : Sta := up2 s 3 j b
theorem inv_addJob (I : Inv S ad n A s m) (hm : m < 512) (hb : isB b) (hn : n.1 < 4) (k : Rel S1 ad' (n.1 + 1, n.2) A')
    (e0 : ∀ t, t ≠ 0 → t ≠ 14 → t ≠ 16 → t ≠ 40 + 3 * n.1 → t ≠ 40 + 3 * n.1 + 1 → t ≠ 40 + 3 * n.1 + 2 → gI A' t = gI A t)
    (e6 : gI A' 0 6 = nI (n.1 + 1)) (e7 : gI A' 0 7 = gI A 0 7) (em : ∀ k, k ≠ 0 → k ≠ 2 → gI A' 14 k = gI A 14 k) (em2 : gI A' 14 2 = nI (n.1 + 1))
    (e16 : ∀ k, gI A' 16 k = if k = n.1 then nI b else gI A 16 k) (eu0 : gI A' (40 + 3 * n.1) 0 = nI b) (eu3 : gI A' (40 + 3 * n.1) 3 = nI 0) (eu2 : ∀ k, gI A' (40 + 3 * n.1 + 2) k = nI 0)
    (ej : ∀ t, t = 0 ∨ t = 14 → gJ A' t = gJ A t) : Inv S1 ad' (n.1 + 1, n.2) A' (sJn s n.1 b) (m + 1) := by
  obtain ⟨⟨b1, b2, b3, b4, b5, b6, b7, b8⟩, b9, b10, b11, b12, b13, b14, b15, b16⟩ := I.vb
  have z4 : s 4 n.1 = 0 := b14 n.1 (Nat.le_refl _)
  have z6 : ∀ i, i < 8 → s 6 (8 * n.1 + i) = 0 := fun i hi => I.st0 hn hi fun y => by omega
  have E : ∀ t, (1 ≤ t ∧ t < 14) ∨ t = 15 ∨ (17 ≤ t ∧ t < 40) ∨ 60 ≤ t → gI A' t = gI A t := fun t h => e0 t (by omega) (by omega) (by omega) (by omega) (by omega) (by omega)
  have Ej : ∀ j d, j < n.1 → d < 3 → gI A' (40 + 3 * j + d) = gI A (40 + 3 * j + d) := fun j d hj hd => e0 _ (by omega) (by omega) (by omega) (by omega) (by omega) (by omega)
  have s3 : ∀ j, j ≠ n.1 → sJn s n.1 b 3 j = s 3 j := fun j h => up2_nk h
  have s3n : sJn s n.1 b 3 n.1 = b := up2_eq
  refine ⟨k, ?_, ?_, ?_, ?_⟩
  · obtain ⟨⟨a1, a2, a3, a4, a5⟩, ⟨f1, f2, f3, f4⟩, c2', c3', c4', cj, cl'⟩ := I.vc
    refine ⟨⟨?_, ?_, e6, e7.trans a4, ?_⟩, ⟨?_, ?_, ?_, ?_⟩, ?_, ?_, ?_, fun j hj => ?_, fun l hl => ?_⟩
    · rw [E 1 (by omega)]; exact a1
    · rw [E 1 (by omega)]; exact a2
    · rw [E 7 (by omega)]; exact a5
    · rw [ej 0 (by omega)]; exact f1
    · rw [ej 0 (by omega)]; exact f2
    · rw [ej 0 (by omega)]; exact f3
    · rw [ej 0 (by omega)]; exact f4
    · rw [E 2 (by omega)]; exact c2'
    · rw [E 3 (by omega)]; exact c3'
    · rw [E 4 (by omega)]; exact c4'
    · show VJ A' (40 + 3 * j) (sJn s n.1 b 3 j) (s 4 j) (fun k => s 5 (16 * j + k)) (fun i => s 6 (8 * j + i))
      by_cases w : j = n.1
      · subst w
        rw [s3n, z4]
        exact ⟨eu0, hb, eu3, by decide, fun k hk => absurd hk (by omega), fun k hk => ⟨by show _ = nI (s 6 (8 * n.1 + k)); rw [eu2, z6 k hk], by show s 6 (8 * n.1 + k) ≤ 9999; rw [z6 k hk]; decide⟩⟩
      · have hj' : j < n.1 + 1 := hj
        rw [s3 j w]
        exact (cj j (by omega)).ex (Ej j 0 (by omega) (by decide)) (Ej j 1 (by omega) (by decide)) (Ej j 2 (by omega) (by decide))
    · show VL A' (60 + 3 * l) (s 9 l) (s 10 l) (s 13 l) (fun k => s 5 (16 * s 8 l + k)) (fun k => s 11 (16 * l + k))
      have := cl' l hl
      unfold VL at this ⊢
      rw [E (60 + 3 * l) (by omega), E (60 + 3 * l + 1) (by omega), E (60 + 3 * l + 2) (by omega)]
      exact this
  · obtain ⟨⟨a1, a2, a3, a4, a5, a6, a7, a8, a9⟩, ⟨f1, f2⟩, d1, d2, d3, d4, d5, d6, d7, d8⟩ := I.vm
    refine ⟨⟨(em 1 (by decide) (by decide)).trans a1, em2, (em 3 (by decide) (by decide)).trans a3, (em 4 (by decide) (by decide)).trans a4, (em 5 (by decide) (by decide)).trans a5, (em 6 (by decide) (by decide)).trans a6, (em 7 (by decide) (by decide)).trans a7, (em 8 (by decide) (by decide)).trans a8, (em 9 (by decide) (by decide)).trans a9⟩, ⟨?_, ?_⟩, ?_, ?_, fun j hj => ?_, ?_, ?_, ?_, ?_, ?_⟩
    · rw [ej 14 (by omega)]; exact f1
    · rw [ej 14 (by omega)]; exact f2
    · rw [E 15 (by omega)]; exact d1
    · rw [E 20 (by omega)]; exact d2
    · show gI A' 16 j = nI (sJn s n.1 b 3 j)
      rw [e16]
      by_cases w : j = n.1
      · subst w; rw [if_pos rfl, s3n]
      · have hj' : j < n.1 + 1 := hj
        rw [if_neg w, s3 j w]; exact d3 j (by omega)
    · rw [E 17 (by omega)]; exact d4
    · rw [E 18 (by omega)]; exact d5
    · rw [E 19 (by omega)]; exact d6
    · rw [E 21 (by omega)]; exact d7
    · rw [E 25 (by omega), E 26 (by omega), E 27 (by omega), E 28 (by omega)]; exact d8
  · refine ⟨⟨b1, Nat.le_succ_of_le b2, b3, Nat.le_succ_of_le b4, ?_, ?_, ?_, by omega⟩, b9, b10, fun j hj => ?_, b12, b13, fun j hj => b14 j (by have hj' : n.1 + 1 ≤ j := hj; omega), fun j hj i hi => ⟨(b15 j hj i hi).1, fun w => ?_⟩, fun l hl => ?_⟩
    · show s 0 4 ≤ 55 * (m + 1); omega
    · show s 0 5 ≤ 320000 * (m + 1); omega
    · show s 0 6 ≤ 500 * (m + 1); omega
    · show isB (sJn s n.1 b 3 j)
      by_cases w : j = n.1
      · subst w; rw [s3n]; exact hb
      · have hj' : j < n.1 + 1 := hj
        rw [s3 j w]; exact b11 j (by omega)
    · show s 6 (8 * j + i) = 0
      by_cases y : j = n.1
      · subst y; exact z6 i hi
      · refine (b15 j hj i hi).2 fun v => w ⟨?_, ?_⟩
        · show j < n.1 + 1; omega
        · show whl (sJn s n.1 b 3 j) (s 4 j) ∧ i < cntf (sJn s n.1 b 3 j) (s 4 j)
          rw [s3 j y]; exact v.2
    · obtain ⟨g1, g2⟩ := b16 l hl
      exact ⟨Nat.lt_succ_of_lt g1, g2⟩
  · unfold VP
    rw [E 6 (by omega), E 8 (by omega)]
    exact I.vp
theorem mm_aj (I : Inv S ad n A s m) (hm : m < 512) (hK : nxt ad m K) (hb : isB b) (hn : n.1 < 4) (e : ∀ w, live n w → ad' w = ad w) {v : Int64} (hv : v = (nI n.1).toInt64) (k1 : Rel S1 ad' (n.1 + 1, n.2) (aJ (aI (AJ A (40 + 3 * n.1) (nI b)) 0 6 (nI (n.1 + 1))) 29 0 v)) : ajm S1 (ad' 14) (nI b) (fun y S2 => isK S2 (ad' 14) 7 ∧ wpX7_thrown S2 (ad' 14) (cmpJ (ad' 29) (nI 0) y K P)) := by
  have AE : ∀ t, t ≠ 0 → t ≠ 40 + 3 * n.1 → t ≠ 40 + 3 * n.1 + 1 → t ≠ 40 + 3 * n.1 + 2 → gI (aI (AJ A (40 + 3 * n.1) (nI b)) 0 6 (nI (n.1 + 1))) t = gI A t := by
    intro t g0 g1 g2 g3
    unfold AJ
    rw [gI_aIu _ _ _ _ _ g0, gI_aZ g3, gI_aZ g2, gI_aIu _ _ _ _ _ g1, gI_aZ g1]
  have AJJ : ∀ t, t ≠ 40 + 3 * n.1 → t ≠ 40 + 3 * n.1 + 1 → t ≠ 40 + 3 * n.1 + 2 → gJ (aI (AJ A (40 + 3 * n.1) (nI b)) 0 6 (nI (n.1 + 1))) t = gJ A t := by
    intro t g1 g2 g3
    unfold AJ
    rw [gJ_aI, gJ_aZ g3, gJ_aZ g2, gJ_aI, gJ_aZ g1]
  have A0 : ∀ k, k ≠ 6 → gI (aI (AJ A (40 + 3 * n.1) (nI b)) 0 6 (nI (n.1 + 1))) 0 k = gI A 0 k := by
    intro k hk
    unfold AJ
    rw [gI_aIk _ _ _ _ _ hk, gI_aZ (by omega), gI_aZ (by omega), gI_aIu _ _ _ _ _ (by omega), gI_aZ (by omega)]
  have Au0 : gI (aI (AJ A (40 + 3 * n.1) (nI b)) 0 6 (nI (n.1 + 1))) (40 + 3 * n.1) 0 = nI b := by
    unfold AJ
    rw [gI_aIu _ _ _ _ _ (by omega), gI_aZ (by omega), gI_aZ (by omega), gI_aI]
  have Au3 : gI (aI (AJ A (40 + 3 * n.1) (nI b)) 0 6 (nI (n.1 + 1))) (40 + 3 * n.1) 3 = nI 0 := by
    unfold AJ
    rw [gI_aIu _ _ _ _ _ (by omega), gI_aZ (by omega), gI_aZ (by omega), gI_aIk _ _ _ _ _ (by decide), gI_aZt]; rfl
  have Au2 : ∀ k, gI (aI (AJ A (40 + 3 * n.1) (nI b)) 0 6 (nI (n.1 + 1))) (40 + 3 * n.1 + 2) k = nI 0 := by
    intro k
    unfold AJ
    rw [gI_aIu _ _ _ _ _ (by omega), gI_aZt]; rfl
  have A06 : gI (aI (AJ A (40 + 3 * n.1) (nI b)) 0 6 (nI (n.1 + 1))) 0 6 = nI (n.1 + 1) := gI_aI _ _ _ _
  generalize (aI (AJ A (40 + 3 * n.1) (nI b)) 0 6 (nI (n.1 + 1))) = A1 at AE AJJ A0 Au0 Au3 Au2 A06 k1
  have g14 : gI (aJ A1 29 0 v) 14 = gI A 14 := by rw [gI_aJ, AE 14 (by decide) (by omega) (by omega) (by omega)]
  refine ⟨k1.k l14, ?_⟩
  rw [k1.i l14, g14, I.mv]
  refine ⟨fun _ => ?_, fun z => absurd ((nI_eq (by omega) (by decide)).1 z) (by omega)⟩
  rintro S4 rfl
  have k2 := k1.sI l14 0 (nI 0)
  obtain ⟨f16, -⟩ := rd k2 (t := 16) (k := n.1) (by decide) (show n.1 < 4 by omega)
  have i2 : mI (sI S1 (ad' 14) 0 (nI 0)) (ad' 14) 2 = nI n.1 := by rw [k2.i l14, gI_aIk _ _ _ _ _ (by decide), g14, I.mv]
  rw [i2]
  refine ⟨ad' 16, k2.r l14 rfl, k2.k (t := 16) LM, f16, ?_⟩
  rintro S8 rfl
  rw [nI_clamp (by omega)]
  have k3 := k2.sI (LM (t := 16)) n.1 (nI b)
  rintro x9 rfl
  have i3 : mI (sI (sI S1 (ad' 14) 0 (nI 0)) (ad' 16) n.1 (nI b)) (ad' 14) 2 = nI n.1 := by rw [k3.i l14, gI_aIu _ _ _ _ _ (by decide), gI_aIk _ _ _ _ _ (by decide), g14, I.mv]
  rw [i3, nI_add]
  rintro S10 rfl
  have k4 := k3.sI l14 2 (nI (n.1 + 1))
  rw [k4.i l14, gI_aI, pk_sub (by omega), Nat.add_sub_cancel]
  refine cmp_end k4 (x := 0) (by decide) ?_ (fun _ => ?_) (hK _ _ _ _ (sJn s n.1 b) (inv_addJob I hm hb hn k4 ?_ ?_ ?_ ?_ ?_ ?_ ?_ ?_ ?_ ?_) fun t ht => e t (live_lt ht))
  · rw [gI_aIk _ _ _ _ _ (by decide), gI_aIu _ _ _ _ _ (by decide), gI_aI]
  · rw [gJ_aI, gJ_aI, gJ_aI, gJ_aJ, hv]
  · intro t g0 g14 g16 g1 g2 g3
    rw [gI_aIu _ _ _ _ _ g14, gI_aIu _ _ _ _ _ g16, gI_aIu _ _ _ _ _ g14, gI_aJ]
    exact AE t g0 g1 g2 g3
  · rw [gI_aIu _ _ _ _ _ (by decide), gI_aIu _ _ _ _ _ (by decide), gI_aIu _ _ _ _ _ (by decide), gI_aJ]; exact A06
  · rw [gI_aIu _ _ _ _ _ (by decide), gI_aIu _ _ _ _ _ (by decide), gI_aIu _ _ _ _ _ (by decide), gI_aJ]; exact A0 7 (by decide)
  · intro k h0 h2
    rw [gI_aIk _ _ _ _ _ h2, gI_aIu _ _ _ _ _ (by decide), gI_aIk _ _ _ _ _ h0, g14]
  · exact gI_aI _ _ _ _
  · intro k
    rw [gI_aIu _ _ _ _ _ (by decide), gI_if, gI_aIu _ _ _ _ _ (by decide), gI_aJ, AE 16 (by decide) (by omega) (by omega) (by omega)]
    by_cases w : k = n.1
    · rw [if_pos ⟨rfl, w⟩, if_pos w]
    · rw [if_neg (fun y => w y.2), if_neg w]
  · rw [gI_aIu _ _ _ _ _ (by omega), gI_aIu _ _ _ _ _ (by omega), gI_aIu _ _ _ _ _ (by omega), gI_aJ]; exact Au0
  · rw [gI_aIu _ _ _ _ _ (by omega), gI_aIu _ _ _ _ _ (by omega), gI_aIu _ _ _ _ _ (by omega), gI_aJ]; exact Au3
  · intro k
    rw [gI_aIu _ _ _ _ _ (by omega), gI_aIu _ _ _ _ _ (by omega), gI_aIu _ _ _ _ _ (by omega), gI_aJ]; exact Au2 k
  · intro t ht
    rw [gJ_aI, gJ_aI, gJ_aI, gJ_aJu _ _ _ _ _ (by omega)]
    exact AJJ t (by omega) (by omega) (by omega)
theorem op_addJob (I : Inv S ad n A s m) (hm : m < 512) (hK : nxt ad m K) (hp : ∀ x S1, mcJ (fun S g => wpX7_addJob S (ad 14) p g) ad K P x S1 → post x S1) : wpL_addJob S (ad 0) p (ad 29) post := by
  have h4 : n.1 ≤ 4 := I.h.2.2.1
  have full : ∀ b, n.1 = 4 → ajm S (ad 14) (nI b) (fun y S2 => isK S2 (ad 14) 7 ∧ wpX7_thrown S2 (ad 14) (cmpJ (ad 29) (nI 2) y K P)) := by
    intro b h
    refine ⟨I.h.k l14, ?_⟩
    rw [I.h.i l14, I.mv, h]
    exact ⟨fun y => absurd rfl y, fun _ => mm_fails I.h fun S2 k2 => fail_end I hm hK (x := 2) (by decide) (by decide) k2 (RO.thr _ _ _) (gI_aI _ _ _ _)⟩
  have main : ∀ b, isB b → (∀ (a : Nat) S1 ps, ajm S1 a (nI b) ps → wpX7_addJob S1 a (nI b) ps) → p = nI b → ajb S (ad 0) (nI b) (fun x3 S1 => isK S1 (ad 29) 12 ∧ (vp_in (nI 0) (mN S1 (ad 29)) ∧ (∀ S8 : Mem, S8 = (sJ S1 (ad 29) (nI 0).toNatClampNeg x3.toInt64) → (post (nI 0) S8)))) (fun k4 S5 => (k4 = 2 → (post (nI 2) S5)) ∧ (k4 = 4 → (post (nI 1) S5)) ∧ (k4 = 2 ∨ k4 = 4)) := by
    intro b hb hw e
    subst e
    refine sp_aj I hb (fun h => ⟨fun _ => hp _ _ ⟨I.h.k l14, hw _ _ _ (full b h)⟩, fun q => absurd q (by decide), Or.inl rfl⟩) fun hn S' ad' k e => ?_
    have e29 := e 29 l29
    have e14 := e 14 l14
    have := put_out (post := fun S8 => post (nI 0) S8) (v := (nI n.1).toInt64) k fun S2 k2 => hp _ _ (mcJ_ad (G := fun S a g => wpX7_addJob S a (nI b) g) e14 e29 ⟨k2.k l14, hw _ _ _ (mm_aj I hm hK hb hn e rfl k2)⟩)
    rw [e29] at this
    exact this
  refine ⟨I.h.k l0, fun e => ?_, fun h1 => ⟨fun e => ?_, fun h2 => ⟨fun e => ?_, fun h3 => ⟨fun q => absurd q (by decide), fun _ => hp _ _ ?_, Or.inr rfl⟩⟩⟩⟩
  · have := main 115 (by unfold isB; omega) (fun a S1 ps h => ⟨fun _ => h, fun z => absurd rfl z⟩) e
    rw [← e] at this
    exact this
  · have := main 112 (by unfold isB; omega) (fun a S1 ps h => ⟨fun z => absurd z (by decide), fun _ => ⟨fun _ => h, fun z => absurd rfl z⟩⟩) e
    rw [← e] at this
    exact this
  · have := main 119 (by unfold isB; omega) (fun a S1 ps h => ⟨fun z => absurd z (by decide), fun _ => ⟨fun z => absurd z (by decide), fun _ => ⟨fun _ => h, fun z => absurd rfl z⟩⟩⟩) e
    rw [← e] at this
    exact this
  · exact ⟨I.h.k l14, fun z => absurd z h1, fun _ => ⟨fun z => absurd z h2, fun _ => ⟨fun z => absurd z h3, fun _ => ⟨I.h.k l14, mm_fails I.h fun S2 k2 => fail_end I hm hK (x := 1) (by decide) (by decide) k2 (RO.thr _ _ _) (gI_aI _ _ _ _)⟩⟩⟩⟩
end
