/-! ===== addJob, addPage ===== -/
section
variable {S S1 S' : Mem} {ad ad' : Nat → Nat} {A A' A1 : AM} {n : Nat × Nat} {s : Sta} {m b : Nat} {post : Int32 → Mem → Prop} {px : Nat → Mem → Prop} {p q r : Int32} {j i k l c : Nat}
theorem chr_b (hb : isB b) : vz_chr (nI b) := by
  rcases hb with rfl | rfl | rfl
  · exact ⟨rfl, rfl⟩
  · exact ⟨rfl, rfl⟩
  · exact ⟨rfl, rfl⟩
def ajb (S : Mem) (a0 : Nat) (p1 : Int32) (post : Int32 → Mem → Prop) (px : Nat → Mem → Prop) : Prop := isK S a0 6 ∧ (((mI S a0 6) < 0 → (px 2 S)) ∧ (¬ (mI S a0 6) < 0 → (∃ o4, mR S a0 1 = some o4 ∧ (isK S o4 10 ∧ (((mI S a0 6) < (nI (mN S o4)) → (∀ o7 : Nat, o7 ∉ mL S → (∀ S8 : Mem, S8 = (nA S o7 1 0) → (wpX1_init S8 o7 p1 (fun u10 S9 => isK S9 o4 10 ∧ (isK S9 o7 1 ∧ (vp_in (mI S a0 6) (mN S9 o4) ∧ (∀ S14 : Mem, S14 = (sR S9 o4 (mI S a0 6).toNatClampNeg (some o7)) → (isK S14 a0 6 ∧ (∀ x16 : Int32, x16 = ((mI S14 a0 6) + (nI 1)) → (∀ S17 : Mem, S17 = (sI S14 a0 6 x16) → (post ((mI S17 a0 6) - (nI 1)) S17)))))))))))) ∧ (¬ (mI S a0 6) < (nI (mN S o4)) → (px 2 S)))))))
theorem sp_aj (I : Inv S ad n A s m) (hb : isB b) (h1 : n.1 = 4 → px 2 S) (hq : n.1 < 4 → ∀ S' ad', Rel S' ad' (n.1 + 1, n.2) (aI (AJ A (40 + 3 * n.1) (nI b)) 0 6 (nI (n.1 + 1))) → (∀ w, live n w → ad' w = ad w) → post (nI n.1) S') : ajb S (ad 0) (nI b) post px := by
  have h4 : n.1 ≤ 4 := I.h.2.2.1
  refine ⟨I.h.k l0, fun z => absurd z ?_, fun _ => ⟨ad 5, I.h.r l0 rfl, I.h.k (t := 5) LM, fun z => ?_, fun z => h1 ?_⟩⟩
  · rw [I.h.i l0, I.cj, lt0_iff, nI_toInt (by omega)]
    omega
  · rw [I.h.i l0, I.cj, I.h.len (t := 5) LM, nI_ltI (by omega) (by decide)] at z
    have z' : n.1 < 4 := z
    exact sp_newJob I.h z' I.cj (chr_b hb) (hq z')
  · rw [I.h.i l0, I.cj, I.h.len (t := 5) LM, nI_ltI (by omega) (by decide)] at z
    have z' : ¬ n.1 < 4 := z
    omega
def sJn (s : Sta) (j b : Nat) : Sta := up2 s 3 j b
theorem inv_addJob (I : Inv S ad n A s m) (hm : m < 512) (hb : isB b) (hn : n.1 < 4) (k : Rel S1 ad' (n.1 + 1, n.2) A')
    (e0 : ∀ t, t ≠ 0 → t ≠ 40 + 3 * n.1 → t ≠ 40 + 3 * n.1 + 1 → t ≠ 40 + 3 * n.1 + 2 → gI A' t = gI A t)
    (e6 : gI A' 0 6 = nI (n.1 + 1)) (e7 : gI A' 0 7 = gI A 0 7)
    (eu0 : gI A' (40 + 3 * n.1) 0 = nI b) (eu3 : gI A' (40 + 3 * n.1) 3 = nI 0) (eu2 : ∀ k, gI A' (40 + 3 * n.1 + 2) k = nI 0)
    (ej : ∀ t, t = 0 → gJ A' t = gJ A t) : Inv S1 ad' (n.1 + 1, n.2) A' (sJn s n.1 b) (m + 1) := by
  obtain ⟨⟨b1, b2, b3, b4, b5, b6, b7, b8⟩, b9, b10, b11, b12, b13, b14, b15, b16⟩ := I.vb
  have z4 : s 4 n.1 = 0 := b14 n.1 (Nat.le_refl _)
  have z6 : ∀ i, i < 8 → s 6 (8 * n.1 + i) = 0 := fun i hi => I.st0 hn hi fun y => by omega
  have E : ∀ t, (1 ≤ t ∧ t < 40) ∨ 60 ≤ t → gI A' t = gI A t := fun t h => e0 t (by omega) (by omega) (by omega) (by omega)
  have Ej : ∀ j d, j < n.1 → d < 3 → gI A' (40 + 3 * j + d) = gI A (40 + 3 * j + d) := fun j d hj hd => e0 _ (by omega) (by omega) (by omega) (by omega)
  have s3 : ∀ j, j ≠ n.1 → sJn s n.1 b 3 j = s 3 j := fun j h => up2_nk h
  have s3n : sJn s n.1 b 3 n.1 = b := up2_eq
  refine ⟨k, ?_, ?_, ?_⟩
  · obtain ⟨⟨a1, a2, a3, a4, a5⟩, ⟨f1, f2, f3, f4⟩, c2', c3', c4', cj, cl'⟩ := I.vc
    refine ⟨⟨?_, ?_, e6, e7.trans a4, ?_⟩, ⟨?_, ?_, ?_, ?_⟩, ?_, ?_, ?_, fun j hj => ?_, fun l hl => ?_⟩
    · rw [E 1 (by omega)]; exact a1
    · rw [E 1 (by omega)]; exact a2
    · rw [E 7 (by omega)]; exact a5
    · rw [ej 0 rfl]; exact f1
    · rw [ej 0 rfl]; exact f2
    · rw [ej 0 rfl]; exact f3
    · rw [ej 0 rfl]; exact f4
    · rw [E 2 (by omega)]; exact c2'
    · rw [E 3 (by omega)]; exact c3'
    · rw [E 4 (by omega)]; exact c4'
    · show VJ A' (40 + 3 * j) (sJn s n.1 b 3 j) (s 4 j) (fun k => s 5 (16 * j + k)) (fun i => s 6 (8 * j + i))
      by_cases w : j = n.1
      · subst w
        rw [s3n, z4]
        exact ⟨eu0, hb, eu3, by decide, fun k hk => absurd hk (by omega), fun k hk => ⟨by show _ = nI (s 6 (8 * n.1 + k)); rw [eu2, z6 k hk], by show s 6 (8 * n.1 + k) ≤ 9999; rw [z6 k hk]; decide⟩⟩
      · have hj' : j < n.1 + 1 := hj
        rw [s3 j w]
        exact (cj j (by omega)).ex (Ej j 0 (by omega) (by decide)) (Ej j 1 (by omega) (by decide)) (Ej j 2 (by omega) (by decide))
    · show VL A' (60 + 3 * l) (s 9 l) (s 10 l) (s 13 l) (fun k => s 5 (16 * s 8 l + k)) (fun k => s 11 (16 * l + k))
      have := cl' l hl
      unfold VL at this ⊢
      rw [E (60 + 3 * l) (by omega), E (60 + 3 * l + 1) (by omega), E (60 + 3 * l + 2) (by omega)]
      exact this
  · refine ⟨⟨b1, Nat.le_succ_of_le b2, b3, Nat.le_succ_of_le b4, ?_, ?_, ?_, by omega⟩, b9, b10, fun j hj => ?_, b12, b13, fun j hj => b14 j (by have hj' : n.1 + 1 ≤ j := hj; omega), fun j hj i hi => ⟨(b15 j hj i hi).1, fun w => ?_⟩, fun l hl => ?_⟩
    · show s 0 4 ≤ 55 * (m + 1); omega
    · show s 0 5 ≤ 320000 * (m + 1); omega
    · show s 0 6 ≤ 500 * (m + 1); omega
    · show isB (sJn s n.1 b 3 j)
      by_cases w : j = n.1
      · subst w; rw [s3n]; exact hb
      · have hj' : j < n.1 + 1 := hj
        rw [s3 j w]; exact b11 j (by omega)
    · show s 6 (8 * j + i) = 0
      by_cases y : j = n.1
      · subst y; exact z6 i hi
      · refine (b15 j hj i hi).2 fun v => w ⟨?_, ?_⟩
        · show j < n.1 + 1; omega
        · show whl (sJn s n.1 b 3 j) (s 4 j) ∧ i < cntf (sJn s n.1 b 3 j) (s 4 j)
          rw [s3 j y]; exact v.2
    · obtain ⟨g1, g2⟩ := b16 l hl
      exact ⟨Nat.lt_succ_of_lt g1, g2⟩
  · unfold VP
    rw [E 6 (by omega), E 8 (by omega)]
    exact I.vp
theorem wr_addJob (I : Inv S ad n A s m) (hm : m < 512) (hb : isB b) (hn : n.1 < 4) (hp : ∀ S' ad' A', Inv S' ad' (n.1 + 1, n.2) A' (sJn s n.1 b) (m + 1) → LK A A' → (∀ t, t < 21 → ad' t = ad t) → post (nI n.1) S') : wpL_addJob S (ad 0) (nI b) post := by
  have main : ajb S (ad 0) (nI b) (fun x3 S1 => post x3 S1) (fun k4 S5 => (k4 = 2 → (post (-79 : Int32) S5)) ∧ (k4 = 4 → (post (-78 : Int32) S5)) ∧ (k4 = 2 ∨ k4 = 4)) := by
    refine sp_aj I hb (fun h => absurd h (by omega)) fun hn S' ad' k e => ?_
    have AE : ∀ t, t ≠ 0 → t ≠ 40 + 3 * n.1 → t ≠ 40 + 3 * n.1 + 1 → t ≠ 40 + 3 * n.1 + 2 → gI (aI (AJ A (40 + 3 * n.1) (nI b)) 0 6 (nI (n.1 + 1))) t = gI A t := by
      intro t g0 g1 g2 g3
      unfold AJ
      rw [gI_aIu _ _ _ _ _ g0, gI_aZ g3, gI_aZ g2, gI_aIu _ _ _ _ _ g1, gI_aZ g1]
    refine hp S' ad' _ (inv_addJob I hm hb hn k AE (gI_aI _ _ _ _) ?_ ?_ ?_ (fun k => ?_) (fun t ht => ?_)) (fun t h1 h2 => AE t (by omega) (by omega) (by omega) (by omega)) fun t ht => e t (live_lt ht)
    · unfold AJ
      rw [gI_aIk _ _ _ _ _ (by decide), gI_aZ (by omega), gI_aZ (by omega), gI_aIu _ _ _ _ _ (by omega), gI_aZ (by omega)]
    · unfold AJ
      rw [gI_aIu _ _ _ _ _ (by omega), gI_aZ (by omega), gI_aZ (by omega), gI_aI]
    · unfold AJ
      rw [gI_aIu _ _ _ _ _ (by omega), gI_aZ (by omega), gI_aZ (by omega), gI_aIk _ _ _ _ _ (by decide), gI_aZt]; rfl
    · unfold AJ
      rw [gI_aIu _ _ _ _ _ (by omega), gI_aZt]; rfl
    · subst ht
      unfold AJ
      rw [gJ_aI, gJ_aZ (by omega), gJ_aZ (by omega), gJ_aI, gJ_aZ (by omega)]
  refine ⟨I.h.k l0, ?_⟩
  rcases hb with rfl | rfl | rfl
  · exact ⟨fun _ => main, fun z => absurd rfl z⟩
  · exact ⟨fun z => absurd z (by decide), fun _ => ⟨fun _ => main, fun z => absurd rfl z⟩⟩
  · exact ⟨fun z => absurd z (by decide), fun _ => ⟨fun z => absurd z (by decide), fun _ => ⟨fun _ => main, fun z => absurd rfl z⟩⟩⟩
def stk (s : Sta) (j i : Nat) : Nat := sm (fun i => s 6 (8 * j + i)) i
def sP (s : Sta) (j c : Nat) : Sta := fun t k =>
  if t = 4 then (if k = j then s 4 j + 1 else s 4 k) else if t = 5 then (if k = 16 * j + s 4 j then c else s 5 k)
  else if t = 6 then (if k / 8 = j then 0 else s 6 k) else if t = 0 then (if k = 5 then s 0 5 + stk s j 8 else s 0 k) else s t k
theorem stk_le (I : Inv S ad n A s m) (hj : j < n.1) {i : Nat} (hi : i ≤ 8) : stk s j i ≤ 79992 := by
  have := sm_le (f := fun i => s 6 (8 * j + i)) (c := 9999) (N := i) fun k hk => I.st9 hj (by omega)
  unfold stk
  omega
theorem inv_addPage (I : Inv S ad n A s m) (hm : m < 512) (hj : j < n.1) (hc : c < s 0 0) (h16 : s 4 j < 16) (k : Rel S1 ad n A')
    (e0 : ∀ t, t ≠ 40 + 3 * j → t ≠ 40 + 3 * j + 1 → t ≠ 40 + 3 * j + 2 → gI A' t = gI A t)
    (eu0 : gI A' (40 + 3 * j) 0 = nI (s 3 j)) (eu3 : gI A' (40 + 3 * j) 3 = nI (s 4 j + 1))
    (eu1 : ∀ k, gI A' (40 + 3 * j + 1) k = if k = s 4 j then nI c else gI A (40 + 3 * j + 1) k) (eu2 : ∀ k, k < 8 → gI A' (40 + 3 * j + 2) k = nI 0)
    (j0 : ∀ k, k ≠ 8 → gJ A' 0 k = gJ A 0 k) (j8 : gJ A' 0 8 = lN (s 0 5 + stk s j 8)) : Inv S1 ad n A' (sP s j c) (m + 1) := by
  obtain ⟨⟨b1, b2, b3, b4, b5, b6, b7, b8⟩, b9, b10, b11, b12, b13, b14, b15, b16⟩ := I.vb
  have h4 : n.1 ≤ 4 := I.h.2.2.1
  have hv := stk_le I hj (Nat.le_refl 8)
  have E : ∀ t, t < 40 ∨ 60 ≤ t → gI A' t = gI A t := fun t h => e0 t (by omega) (by omega) (by omega)
  have Ej : ∀ i d, i ≠ j → d < 3 → gI A' (40 + 3 * i + d) = gI A (40 + 3 * i + d) := fun i d hi hd => e0 _ (by omega) (by omega) (by omega)
  have pgo : ∀ i k, k < s 4 i → s 4 i ≤ 16 → (if 16 * i + k = 16 * j + s 4 j then c else s 5 (16 * i + k)) = s 5 (16 * i + k) := by
    intro i k hk h
    refine if_neg fun e => ?_
    have : i = j := by omega
    subst this
    omega
  have lk : ∀ l k, l < n.2 → k < s 10 l → sP s j c 5 (16 * s 8 l + k) = s 5 (16 * s 8 l + k) := by
    intro l k hl hk
    obtain ⟨g1, g2, -⟩ := b16 l hl
    exact pgo _ _ (by omega) (b12 _ (by omega))
  refine ⟨k, ?_, ?_, ?_⟩
  · obtain ⟨⟨a1, a2, a3, a4, a5⟩, ⟨f1, f2, f3, f4⟩, c2', c3', c4', cj, cl'⟩ := I.vc
    refine ⟨⟨?_, ?_, ?_, ?_, ?_⟩, ⟨j8, (j0 9 (by decide)).trans f2, (j0 10 (by decide)).trans f3, (j0 11 (by decide)).trans f4⟩, ?_, ?_, ?_, fun i hi => ?_, fun l hl => ?_⟩
    · rw [E 1 (by omega)]; exact a1
    · rw [E 1 (by omega)]; exact a2
    · rw [E 0 (by omega)]; exact a3
    · rw [E 0 (by omega)]; exact a4
    · rw [E 7 (by omega)]; exact a5
    · rw [E 2 (by omega)]; exact c2'
    · rw [E 3 (by omega)]; exact c3'
    · rw [E 4 (by omega)]; exact c4'
    · show VJ A' (40 + 3 * i) (s 3 i) (if i = j then s 4 j + 1 else s 4 i) (fun k => if 16 * i + k = 16 * j + s 4 j then c else s 5 (16 * i + k)) (fun k => if (8 * i + k) / 8 = j then 0 else s 6 (8 * i + k))
      by_cases w : i = j
      · subst w
        rw [if_pos rfl]
        obtain ⟨h1, h2, h3, h4, h5, h6⟩ := cj i hi
        refine ⟨eu0, h2, eu3, by omega, fun k hk => ?_, fun k hk => ?_⟩
        · rw [eu1]
          by_cases y : k = s 4 i
          · subst y
            rw [if_pos rfl]
            simp only [if_true]
            exact ⟨trivial, by omega⟩
          · rw [if_neg y]
            have := h5 k (by omega)
            simp only [Nat.add_left_cancel_iff, if_neg y]
            exact this
        · have e8 : (8 * i + k) / 8 = i := by omega
          simp only [e8, if_true]
          exact ⟨eu2 k hk, by decide⟩
      · rw [if_neg w]
        have v := (cj i hi).ex (A' := A') (Ej i 0 w (by decide)) (Ej i 1 w (by decide)) (Ej i 2 w (by decide))
        obtain ⟨h1, h2, h3, h4, h5, h6⟩ := v
        refine ⟨h1, h2, h3, h4, fun k hk => ?_, fun k hk => ?_⟩
        · have := h5 k hk
          have e5 := pgo i k hk h4
          simp only [e5]
          exact this
        · have e8 : ¬ (8 * i + k) / 8 = j := by omega
          simp only [if_neg e8]
          exact h6 k hk
    · have v := cl' l hl
      have v2 : VL A' (60 + 3 * l) (s 9 l) (s 10 l) (s 13 l) (fun k => s 5 (16 * s 8 l + k)) (fun k => s 11 (16 * l + k)) := by
        unfold VL at v ⊢
        rw [E (60 + 3 * l) (by omega), E (60 + 3 * l + 1) (by omega), E (60 + 3 * l + 2) (by omega)]
        exact v
      show VL A' (60 + 3 * l) (s 9 l) (s 10 l) (s 13 l) (fun k => sP s j c 5 (16 * s 8 l + k)) (fun k => s 11 (16 * l + k))
      obtain ⟨h1, h2, h3, h4, h5, h6⟩ := v2
      refine ⟨h1, h2, h3, h4, h5, fun k hk => ?_⟩
      have := h6 k hk
      have e5 := lk l k hl hk
      simp only [e5]
      exact this
  · refine ⟨⟨b1, Nat.le_succ_of_le b2, b3, Nat.le_succ_of_le b4, ?_, ?_, ?_, by omega⟩, b9, b10, b11, fun i hi => ?_, fun i hi k hk => ?_, fun i hi => ?_, fun i hi k hk => ?_, fun l hl => ?_⟩
    · show s 0 4 ≤ 55 * (m + 1); omega
    · show s 0 5 + stk s j 8 ≤ 320000 * (m + 1); omega
    · show s 0 6 ≤ 500 * (m + 1); omega
    · show (if i = j then s 4 j + 1 else s 4 i) ≤ 16
      split
      · omega
      · exact b12 i hi
    · show (if 16 * i + k = 16 * j + s 4 j then c else s 5 (16 * i + k)) < s 0 0
      split
      · exact hc
      · rename_i w
        have hk' : k < if i = j then s 4 j + 1 else s 4 i := hk
        refine b13 i hi k ?_
        by_cases y : i = j
        · subst y; rw [if_pos rfl] at hk'; omega
        · rw [if_neg y] at hk'; exact hk'
    · show (if i = j then s 4 j + 1 else s 4 i) = 0
      rw [if_neg (by omega)]
      exact b14 i hi
    · show (if (8 * i + k) / 8 = j then 0 else s 6 (8 * i + k)) ≤ 9999 ∧ (¬ (i < n.1 ∧ whl (s 3 i) (if i = j then s 4 j + 1 else s 4 i) ∧ k < cntf (s 3 i) (if i = j then s 4 j + 1 else s 4 i)) → (if (8 * i + k) / 8 = j then 0 else s 6 (8 * i + k)) = 0)
      rw [show (8 * i + k) / 8 = i by omega]
      by_cases w : i = j
      · rw [if_pos w]; exact ⟨by decide, fun _ => rfl⟩
      · rw [if_neg w, if_neg w]; exact b15 i hi k hk
    · obtain ⟨g1, g2, g3, g4, g5⟩ := b16 l hl
      refine ⟨g1, ?_, g3, g4, fun k hk => ?_⟩
      · show s 10 l ≤ if s 8 l = j then s 4 j + 1 else s 4 (s 8 l)
        split
        · rename_i w; rw [w] at g2; omega
        · exact g2
      · show s 11 (16 * l + k) = cl (s 12) (sP s j c 5 (16 * s 8 l + k)) (s 13 l)
        rw [lk l k hl hk]
        exact g5 k hk
  · unfold VP
    rw [E 6 (by omega), E 8 (by omega)]
    exact I.vp
theorem wr_addPage (I : Inv S ad n A s m) (hm : m < 512) (h1 : ∀ j c S' A', j < n.1 → p = nI j → c < s 0 0 → q = nI c → s 4 j < 16 → Inv S' ad n A' (sP s j c) (m + 1) → LK A A' → post (nI (s 4 j + 1)) S') (h0 : ∀ v : Int32, v.toInt < 0 → ¬ (inr p n.1 ∧ inr q (s 0 0) ∧ s 4 p.toInt.toNat < 16) → post v S) : wpL_addPage S (ad 0) p q post := by
  have h4 : n.1 ≤ 4 := I.h.2.2.1
  have hn := I.nc
  have hb := I.vb.1
  refine ⟨I.h.k l0, I.h.k l0, sp_existingJob I.h I.cj (fun j hj e => ⟨_, rfl, I.h.k l0, sp_requireContent I.h I.vc.1.1 hn (fun c hc e2 => ⟨I.h.jk (jt hj), ?_⟩) (fun z => ⟨fun _ => h0 _ ng77 fun y => z y.2.1, fun q => absurd q (by decide), Or.inl rfl⟩)⟩) (fun z => ⟨fun _ => h0 _ ng77 fun y => z y.1, fun q => absurd q (by decide), Or.inl rfl⟩)⟩
  subst e
  subst e2
  have h16 := (I.vj j hj).2.2.2.1
  have hst := stk_le I hj (Nat.le_refl 8)
  rw [I.h.ji (jt hj), (I.vj j hj).2.2.1]
  refine ⟨fun z => ⟨I.h.k l0, ?_⟩, fun z => ⟨fun q => absurd q (by decide), fun _ => h0 _ ng79 fun y => z ?_, Or.inr rfl⟩⟩
  rotate_left
  · rw [nI_ltI (by omega) (by decide)]
    have := y.2.2
    rw [nI_toInt (by omega)] at this
    exact this
  rw [nI_ltI (by omega) (by decide)] at z
  refine sp_takeAllSheets I.h (jt hj) (I.vj j hj) fun S2 A2 k2 vs => ⟨k2.k l0, ?_⟩
  rintro S14 rfl
  have e8 : mJ S (ad 0) 8 + (nI (sm (fun i => s 6 (8 * j + i)) 8)).toInt64 = lN (s 0 5 + stk s j 8) := by
    show mJ S (ad 0) 8 + (nI (stk s j 8)).toInt64 = _
    rw [I.h.j l0, I.vc.2.1.1, i2l (by omega), lN_add]
  rw [e8]
  have k3 := k2.sJ l0 8 (lN (s 0 5 + stk s j 8))
  have v2 : VJ A2 (40 + 3 * j) (s 3 j) (s 4 j) (jpg s j) (fun _ => 0) := (I.vj j hj).put vs fun _ _ => by decide
  have v3 : VJ (aJ A2 0 8 (lN (s 0 5 + stk s j 8))) (40 + 3 * j) (s 3 j) (s 4 j) (jpg s j) (fun _ => 0) := v2
  refine ⟨k3.jk (jt hj), sp_append k3 (jt hj) v3 z fun S4 k4 => ⟨k4.jk (jt hj), ?_⟩⟩
  rw [k4.ji (jt hj), gI_aI]
  have E5 : ∀ t, t ≠ 40 + 3 * j → t ≠ 40 + 3 * j + 1 → t ≠ 40 + 3 * j + 2 → gI (aI (aI (aJ A2 0 8 (lN (s 0 5 + stk s j 8))) (40 + 3 * j + 1) (s 4 j) (nI c)) (40 + 3 * j) 3 (nI (s 4 j + 1))) t = gI A t := by
    intro t g1 g2 g3
    rw [gI_aIu _ _ _ _ _ g1, gI_aIu _ _ _ _ _ g2, gI_aJ]
    exact vs.1.1 t g3
  have J5 : ∀ t k, gJ (aI (aI (aJ A2 0 8 (lN (s 0 5 + stk s j 8))) (40 + 3 * j + 1) (s 4 j) (nI c)) (40 + 3 * j) 3 (nI (s 4 j + 1))) t k = if t = 0 ∧ k = 8 then lN (s 0 5 + stk s j 8) else gJ A t k := by
    intro t k
    rw [gJ_aI, gJ_aI, gJ_if, vs.1.2.1]
  refine h1 j c S4 _ hj rfl hc rfl z (inv_addPage I hm hj hc z k4 E5 ?_ (gI_aI _ _ _ _) (fun k => ?_) (fun k hk => ?_) (fun k hk => ?_) ?_) fun t g1 g2 => E5 t (by omega) (by omega) (by omega)
  · rw [gI_aIk _ _ _ _ _ (by decide), gI_aIu _ _ _ _ _ (by omega), gI_aJ]
    exact v3.1
  · rw [gI_aIu _ _ _ _ _ (by omega), gI_if, gI_aJ, vs.1.1 _ (by omega)]
    by_cases w : k = s 4 j
    · rw [if_pos ⟨rfl, w⟩, if_pos w]
    · rw [if_neg (fun y => w y.2), if_neg w]
  · rw [gI_aIu _ _ _ _ _ (by omega), gI_aIu _ _ _ _ _ (by omega), gI_aJ]
    exact vs.2 k hk
  · rw [J5, if_neg (fun y => hk y.2)]
  · rw [J5, if_pos ⟨rfl, rfl⟩]
end
