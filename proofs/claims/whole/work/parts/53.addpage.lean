/-! ===== addPage ===== -/
section
variable {S S1 S' : Mem} {ad ad' : Nat → Nat} {A B A' A1 : AM} {n : Nat × Nat} {s : Sta} {m : Nat} {K P : Mem → Prop} {post : Int32 → Mem → Prop} {p q r : Int32} {j c : Nat}
/-- what stands in stock of a job -/
def stk (s : Sta) (j i : Nat) : Nat := sm (fun i => s 6 (8 * j + i)) i
def sP (s : Sta) (j c : Nat) : Sta := fun t k =>
  if t = 4 then (if k = j then s 4 j + 1 else s 4 k) else if t = 5 then (if k = 16 * j + s 4 j then c else s 5 k)
  else if t = 6 then (if k / 8 = j then 0 else s 6 k) else if t = 0 then (if k = 5 then s 0 5 + stk s j 8 else s 0 k) else s t k
theorem stk_le (I : Inv S ad n A s m) (hj : j < n.1) {i : Nat} (hi : i ≤ 8) : stk s j i ≤ 79992 := by
  have := sm_le (f := fun i => s 6 (8 * j + i)) (c := 9999) (N := i) fun k hk => I.st9 hj (by omega)
  unfold stk
  omega
theorem inv_addPage (I : Inv S ad n A s m) (hm : m < 512) (hj : j < n.1) (hc : c < s 0 0) (h16 : s 4 j < 16) (k : Rel S1 ad n A')
    (e0 : ∀ t, t ≠ 14 → t ≠ 17 → t ≠ 18 → t ≠ 19 → t ≠ 40 + 3 * j → t ≠ 40 + 3 * j + 1 → t ≠ 40 + 3 * j + 2 → gI A' t = gI A t)
    (em : ∀ k, k ≠ 0 → gI A' 14 k = gI A 14 k) (e17 : ∀ k, gI A' 17 k = if k = j then nI (s 4 j + 1) else gI A 17 k) (e18 : ∀ k, gI A' 18 k = if k = 16 * j + s 4 j then nI c else gI A 18 k)
    (e19 : ∀ q, q < 32 → gI A' 19 q = nI (if q / 8 = j then 0 else s 6 q)) (eu0 : gI A' (40 + 3 * j) 0 = nI (s 3 j)) (eu3 : gI A' (40 + 3 * j) 3 = nI (s 4 j + 1))
    (eu1 : ∀ k, gI A' (40 + 3 * j + 1) k = if k = s 4 j then nI c else gI A (40 + 3 * j + 1) k) (eu2 : ∀ k, k < 8 → gI A' (40 + 3 * j + 2) k = nI 0)
    (j0 : ∀ k, k ≠ 8 → gJ A' 0 k = gJ A 0 k) (j8 : gJ A' 0 8 = lN (s 0 5 + stk s j 8)) (jm : ∀ k, k ≠ 10 → gJ A' 14 k = gJ A 14 k) (jm10 : gJ A' 14 10 = lN (s 0 5 + stk s j 8)) : Inv S1 ad n A' (sP s j c) (m + 1) := by
  obtain ⟨⟨b1, b2, b3, b4, b5, b6, b7, b8⟩, b9, b10, b11, b12, b13, b14, b15, b16⟩ := I.vb
  have h4 : n.1 ≤ 4 := I.h.2.2.1
  have hv := stk_le I hj (Nat.le_refl 8)
  have E : ∀ t, t < 14 ∨ (15 ≤ t ∧ t < 17) ∨ (20 ≤ t ∧ t < 40) ∨ 60 ≤ t → gI A' t = gI A t := fun t h => e0 t (by omega) (by omega) (by omega) (by omega) (by omega) (by omega) (by omega)
  have Ej : ∀ i d, i ≠ j → d < 3 → gI A' (40 + 3 * i + d) = gI A (40 + 3 * i + d) := fun i d hi hd => e0 _ (by omega) (by omega) (by omega) (by omega) (by omega) (by omega) (by omega)
  have pgo : ∀ i k, k < s 4 i → s 4 i ≤ 16 → (if 16 * i + k = 16 * j + s 4 j then c else s 5 (16 * i + k)) = s 5 (16 * i + k) := by
    intro i k hk h
    refine if_neg fun e => ?_
    have : i = j := by omega
    subst this
    omega
  have lk : ∀ l k, l < n.2 → k < s 10 l → sP s j c 5 (16 * s 8 l + k) = s 5 (16 * s 8 l + k) := by
    intro l k hl hk
    obtain ⟨g1, g2, -⟩ := b16 l hl
    exact pgo _ _ (by omega) (b12 _ (by omega))
  refine ⟨k, ?_, ?_, ?_, ?_⟩
  · obtain ⟨⟨a1, a2, a3, a4, a5⟩, ⟨f1, f2, f3, f4⟩, c2', c3', c4', cj, cl'⟩ := I.vc
    refine ⟨⟨?_, ?_, ?_, ?_, ?_⟩, ⟨j8, (j0 9 (by decide)).trans f2, (j0 10 (by decide)).trans f3, (j0 11 (by decide)).trans f4⟩, ?_, ?_, ?_, fun i hi => ?_, fun l hl => ?_⟩
    · rw [E 1 (by omega)]; exact a1
    · rw [E 1 (by omega)]; exact a2
    · rw [E 0 (by omega)]; exact a3
    · rw [E 0 (by omega)]; exact a4
    · rw [E 7 (by omega)]; exact a5
    · rw [E 2 (by omega)]; exact c2'
    · rw [E 3 (by omega)]; exact c3'
    · rw [E 4 (by omega)]; exact c4'
    · show VJ A' (40 + 3 * i) (s 3 i) (if i = j then s 4 j + 1 else s 4 i) (fun k => if 16 * i + k = 16 * j + s 4 j then c else s 5 (16 * i + k)) (fun k => if (8 * i + k) / 8 = j then 0 else s 6 (8 * i + k))
      by_cases w : i = j
      · subst w
        rw [if_pos rfl]
        obtain ⟨h1, h2, h3, h4, h5, h6⟩ := cj i hi
        refine ⟨eu0, h2, eu3, by omega, fun k hk => ?_, fun k hk => ?_⟩
        · rw [eu1]
          by_cases y : k = s 4 i
          · subst y
            rw [if_pos rfl]
            simp only [if_true]
            exact ⟨trivial, by omega⟩
          · rw [if_neg y]
            have := h5 k (by omega)
            simp only [Nat.add_left_cancel_iff, if_neg y]
            exact this
        · have e8 : (8 * i + k) / 8 = i := by omega
          simp only [e8, if_true]
          exact ⟨eu2 k hk, by decide⟩
      · rw [if_neg w]
        have v := (cj i hi).ex (A' := A') (Ej i 0 w (by decide)) (Ej i 1 w (by decide)) (Ej i 2 w (by decide))
        obtain ⟨h1, h2, h3, h4, h5, h6⟩ := v
        refine ⟨h1, h2, h3, h4, fun k hk => ?_, fun k hk => ?_⟩
        · have := h5 k hk
          have e5 := pgo i k hk h4
          simp only [e5]
          exact this
        · have e8 : ¬ (8 * i + k) / 8 = j := by omega
          simp only [if_neg e8]
          exact h6 k hk
    · have v := cl' l hl
      have v2 : VL A' (60 + 3 * l) (s 9 l) (s 10 l) (s 13 l) (fun k => s 5 (16 * s 8 l + k)) (fun k => s 11 (16 * l + k)) := by
        unfold VL at v ⊢
        rw [E (60 + 3 * l) (by omega), E (60 + 3 * l + 1) (by omega), E (60 + 3 * l + 2) (by omega)]
        exact v
      show VL A' (60 + 3 * l) (s 9 l) (s 10 l) (s 13 l) (fun k => sP s j c 5 (16 * s 8 l + k)) (fun k => s 11 (16 * l + k))
      obtain ⟨h1, h2, h3, h4, h5, h6⟩ := v2
      refine ⟨h1, h2, h3, h4, h5, fun k hk => ?_⟩
      have := h6 k hk
      have e5 := lk l k hl hk
      simp only [e5]
      exact this
  · obtain ⟨⟨a1, a2, a3, a4, a5, a6, a7, a8, a9⟩, ⟨f1, f2⟩, d1, d2, d3, d4, d5, d6, d7, d8⟩ := I.vm
    refine ⟨⟨(em 1 (by decide)).trans a1, (em 2 (by decide)).trans a2, (em 3 (by decide)).trans a3, (em 4 (by decide)).trans a4, (em 5 (by decide)).trans a5, (em 6 (by decide)).trans a6, (em 7 (by decide)).trans a7, (em 8 (by decide)).trans a8, (em 9 (by decide)).trans a9⟩, ⟨jm10, (jm 11 (by decide)).trans f2⟩, ?_, ?_, ?_, fun i hi => ?_, fun i hi k hk => ?_, e19, ?_, ?_⟩
    · rw [E 15 (by omega)]; exact d1
    · rw [E 20 (by omega)]; exact d2
    · rw [E 16 (by omega)]; exact d3
    · show gI A' 17 i = nI (if i = j then s 4 j + 1 else s 4 i)
      rw [e17]
      by_cases w : i = j
      · rw [if_pos w, if_pos w]
      · rw [if_neg w, if_neg w]; exact d4 i hi
    · show gI A' 18 (16 * i + k) = nI (if 16 * i + k = 16 * j + s 4 j then c else s 5 (16 * i + k))
      rw [e18]
      by_cases w : 16 * i + k = 16 * j + s 4 j
      · rw [if_pos w, if_pos w]
      · rw [if_neg w, if_neg w]
        have hk' : k < if i = j then s 4 j + 1 else s 4 i := hk
        refine d5 i hi k ?_
        by_cases y : i = j
        · subst y; rw [if_pos rfl] at hk'; omega
        · rw [if_neg y] at hk'; exact hk'
    · rw [E 21 (by omega)]; exact d7
    · rw [E 25 (by omega), E 26 (by omega), E 27 (by omega), E 28 (by omega)]; exact d8
  · refine ⟨⟨b1, Nat.le_succ_of_le b2, b3, Nat.le_succ_of_le b4, ?_, ?_, ?_, by omega⟩, b9, b10, b11, fun i hi => ?_, fun i hi k hk => ?_, fun i hi => ?_, fun i hi k hk => ?_, fun l hl => ?_⟩
    · show s 0 4 ≤ 55 * (m + 1); omega
    · show s 0 5 + stk s j 8 ≤ 320000 * (m + 1); omega
    · show s 0 6 ≤ 500 * (m + 1); omega
    · show (if i = j then s 4 j + 1 else s 4 i) ≤ 16
      split
      · omega
      · exact b12 i hi
    · show (if 16 * i + k = 16 * j + s 4 j then c else s 5 (16 * i + k)) < s 0 0
      split
      · exact hc
      · rename_i w
        have hk' : k < if i = j then s 4 j + 1 else s 4 i := hk
        refine b13 i hi k ?_
        by_cases y : i = j
        · subst y; rw [if_pos rfl] at hk'; omega
        · rw [if_neg y] at hk'; exact hk'
    · show (if i = j then s 4 j + 1 else s 4 i) = 0
      rw [if_neg (by omega)]
      exact b14 i hi
    · show (if (8 * i + k) / 8 = j then 0 else s 6 (8 * i + k)) ≤ 9999 ∧ (¬ (i < n.1 ∧ whl (s 3 i) (if i = j then s 4 j + 1 else s 4 i) ∧ k < cntf (s 3 i) (if i = j then s 4 j + 1 else s 4 i)) → (if (8 * i + k) / 8 = j then 0 else s 6 (8 * i + k)) = 0)
      rw [show (8 * i + k) / 8 = i by omega]
      by_cases w : i = j
      · rw [if_pos w]; exact ⟨by decide, fun _ => rfl⟩
      · rw [if_neg w, if_neg w]; exact b15 i hi k hk
    · obtain ⟨g1, g2, g3, g4, g5⟩ := b16 l hl
      refine ⟨g1, ?_, g3, g4, fun k hk => ?_⟩
      · show s 10 l ≤ if s 8 l = j then s 4 j + 1 else s 4 (s 8 l)
        split
        · rename_i w; rw [w] at g2; omega
        · exact g2
      · show s 11 (16 * l + k) = cl (s 12) (sP s j c 5 (16 * s 8 l + k)) (s 13 l)
        rw [lk l k hl hk]
        exact g5 k hk
  · unfold VP
    rw [E 6 (by omega), E 8 (by omega)]
    exact I.vp
def MV (B A' : AM) (s : Sta) (j i : Nat) : Prop := (∀ v, v ≠ 19 → gI A' v = gI B v) ∧ (∀ t k, ¬ (t = 14 ∧ k = 10) → gJ A' t k = gJ B t k) ∧ gJ A' 14 10 = lN (s 0 5 + stk s j i) ∧ ∀ q, q < 32 → gI A' 19 q = nI (if q / 8 = j ∧ q % 8 < i then 0 else s 6 q)
theorem mm_ap58 (I : Inv S ad n A s m) (hj : j < n.1) (h16 : s 4 j < 16) (hB : gI B 17 j = nI (s 4 j)) (k : Rel S' ad n A') (M : MV B A' s j 0) (hq : ∀ S2 A2, Rel S2 ad n (aI (aI A2 18 (16 * j + s 4 j) (nI c)) 17 j (nI (s 4 j + 1))) → MV B A2 s j 8 → post (nI (s 4 j + 1)) S2) : ∃ m, wlX7_addPage_58 (ad 14) (nI j) (nI c) post m (nI 0) S' := by
  have h4 : n.1 ≤ 4 := I.h.2.2.1
  have key : ∀ m' i S2 A2, i + m' = 8 → Rel S2 ad n A2 → MV B A2 s j i → wlX7_addPage_58 (ad 14) (nI j) (nI c) post (m' + 1) (nI i) S2 := by
    intro m'
    induction m' with
    | zero =>
      intro i S2 A2 hi k2 M2
      have e : i = 8 := by omega
      subst e
      obtain ⟨f17, v17⟩ := rd k2 (t := 17) (k := j) (by decide) (show j < 4 by omega)
      rw [M2.1 17 (by decide), hB] at v17
      obtain ⟨f18, -⟩ := rd k2 (t := 18) (k := 16 * j + s 4 j) (by decide) (show 16 * j + s 4 j < 64 by omega)
      refine ⟨fun _ => ⟨k2.k l14, ad 18, k2.r l14 rfl, ad 17, k2.r l14 rfl, k2.k (t := 17) LM, f17, k2.k (t := 18) LM, ?_⟩, fun z => absurd ((nI_leI (by omega) (by omega)).2 (Nat.le_refl _)) z⟩
      rw [v17, pk_mul, nI_add]
      refine ⟨f18, ?_⟩
      rintro S26 rfl
      rw [nI_clamp (by omega)]
      have k3 := k2.sI (LM (t := 18)) (16 * j + s 4 j) (nI c)
      obtain ⟨g17, w17⟩ := rd k3 (t := 17) (k := j) (by decide) (show j < 4 by omega)
      rw [gI_aIu _ _ _ _ _ (by decide), M2.1 17 (by decide), hB] at w17
      refine ⟨ad 17, k3.r l14 rfl, k3.k (t := 17) LM, g17, ?_⟩
      rw [w17, nI_add]
      rintro x30 rfl
      refine ⟨g17, ?_⟩
      rintro S32 rfl
      rw [nI_clamp (by omega)]
      have k4 := k3.sI (LM (t := 17)) j (nI (s 4 j + 1))
      obtain ⟨h17, u17⟩ := rd k4 (t := 17) (k := j) (by decide) (show j < 4 by omega)
      rw [gI_aI, nI_clamp (by omega)] at u17
      refine ⟨ad 17, k4.r l14 rfl, k4.k (t := 17) LM, h17, ?_⟩
      rw [u17]
      exact hq _ A2 k4 M2
    | succ m' ih =>
      intro i S2 A2 hi k2 M2
      refine ⟨fun z => ?_, fun _ => ⟨k2.k l14, ?_⟩⟩
      · rw [nI_leI (by omega) (by omega)] at z; omega
      · have ex : gI A2 19 (8 * j + i) = nI (s 6 (8 * j + i)) := by rw [M2.2.2.2 (8 * j + i) (by omega), if_neg (by omega)]
        have h9 := I.st9 hj (i := i) (by omega)
        refine mm_voids k2 (by omega) (by omega) ex fun S3 k3 => ?_
        rintro x39 rfl
        rw [nI_add]
        refine ih (i + 1) S3 _ (by omega) k3 ⟨fun v hv => ?_, fun t k hk => ?_, ?_, fun q hq => ?_⟩
        · rw [gI_aJ, gI_aIu _ _ _ _ _ hv]; exact M2.1 v hv
        · rw [gJ_if, if_neg hk, gJ_aI]; exact M2.2.1 t k hk
        · rw [gJ_aJ, M2.2.2.1, i2l (by omega), lN_add, Nat.add_assoc]; rfl
        · rw [gI_aJ, gI_if]
          by_cases d : q = 8 * j + i
          · subst d
            rw [if_pos ⟨rfl, rfl⟩, if_pos (by omega)]
          · rw [if_neg (fun y => d y.2), M2.2.2.2 q hq]
            by_cases g : q / 8 = j ∧ q % 8 < i
            · rw [if_pos g, if_pos (by omega)]
            · rw [if_neg g, if_neg (by omega)]
  exact ⟨_, key 8 0 S' A' rfl k M⟩
theorem ml_con (I : Inv S ad n A s m) {md : Nat} (k1 : Rel S1 ad n A1) (x : RO A A1 md) (h1 : ∀ l, l < s 0 0 → p = nI l → post (nI 1) S1) (h0 : ¬ inr p (s 0 0) → post (nI 0) S1) : wpX7_in S1 p (nI 0) ((mI S1 (ad 14) 1) - (nI 1)) post := by
  have hn := I.nc
  rw [k1.i l14, x.2.1 1 (by decide), I.vm.1.1]
  exact mm_inN (by omega) h1 h0
theorem op_addPage (I : Inv S ad n A s m) (hm : m < 512) (hK : nxt ad m K) (hp : ∀ x S1, mcJ (fun S g => wpX7_addPage S (ad 14) p q g) ad K P x S1 → post x S1) : wpL_addPage S (ad 0) p q (ad 29) post := by
  have h4 : n.1 ≤ 4 := I.h.2.2.1
  have hn := I.nc
  refine ⟨I.h.k l0, I.h.k l0, sp_existingJob I.h I.cj (fun j hj e => ⟨_, rfl, I.h.k l0, sp_requireContent I.h I.vc.1.1 hn (fun c hc e2 => ⟨I.h.jk (jt hj), ?_⟩) (fun z => ⟨fun _ => hp _ _ ?_, fun q => absurd q (by decide), Or.inl rfl⟩)⟩) (fun z => ⟨fun _ => hp _ _ ?_, fun q => absurd q (by decide), Or.inl rfl⟩)⟩
  · subst e
    subst e2
    have h16 := (I.mj j hj).2.2.2.2.1
    have hst := stk_le I hj (Nat.le_refl 8)
    have hb := I.vb.1
    rw [I.h.ji (jt hj), (I.vj j hj).2.2.1]
    refine ⟨fun z => ⟨I.h.k l0, ?_⟩, fun z => ⟨fun q => absurd q (by decide), fun _ => hp _ _ ?_, Or.inr rfl⟩⟩
    · rw [nI_ltI (by omega) (by decide)] at z
      refine sp_takeAllSheets I.h (jt hj) (I.vj j hj) fun S2 A2 k2 vs => ⟨k2.k l0, ?_⟩
      rintro S14 rfl
      have e8 : mJ S (ad 0) 8 + (nI (sm (fun i => s 6 (8 * j + i)) 8)).toInt64 = lN (s 0 5 + stk s j 8) := by
        show mJ S (ad 0) 8 + (nI (stk s j 8)).toInt64 = _
        rw [I.h.j l0, I.vc.2.1.1, i2l (by omega), lN_add]
      rw [e8]
      have k3 := k2.sJ l0 8 (lN (s 0 5 + stk s j 8))
      have v2 : VJ A2 (40 + 3 * j) (s 3 j) (s 4 j) (jpg s j) (fun _ => 0) := (I.vj j hj).put vs fun _ _ => by decide
      have v3 : VJ (aJ A2 0 8 (lN (s 0 5 + stk s j 8))) (40 + 3 * j) (s 3 j) (s 4 j) (jpg s j) (fun _ => 0) := v2
      refine ⟨k3.jk (jt hj), sp_append k3 (jt hj) v3 z fun S4 k4 => ⟨k4.jk (jt hj), ?_⟩⟩
      rw [k4.ji (jt hj), gI_aI]
      refine put_out k4 fun S5 k5 => hp _ _ ⟨k5.k l14, k5.k l14, ?_⟩
      have E5 : ∀ t, t ≠ 40 + 3 * j → t ≠ 40 + 3 * j + 1 → t ≠ 40 + 3 * j + 2 → gI (aJ (aI (aI (aJ A2 0 8 (lN (s 0 5 + stk s j 8))) (40 + 3 * j + 1) (s 4 j) (nI c)) (40 + 3 * j) 3 (nI (s 4 j + 1))) 29 0 (nI (s 4 j + 1)).toInt64) t = gI A t := by
        intro t g1 g2 g3
        rw [gI_aJ, gI_aIu _ _ _ _ _ g1, gI_aIu _ _ _ _ _ g2, gI_aJ]
        exact vs.1.1 t g3
      have J5 : ∀ t k, t ≠ 29 → gJ (aJ (aI (aI (aJ A2 0 8 (lN (s 0 5 + stk s j 8))) (40 + 3 * j + 1) (s 4 j) (nI c)) (40 + 3 * j) 3 (nI (s 4 j + 1))) 29 0 (nI (s 4 j + 1)).toInt64) t k = if t = 0 ∧ k = 8 then lN (s 0 5 + stk s j 8) else gJ A t k := by
        intro t k ht
        rw [gJ_aJu _ _ _ _ _ ht, gJ_aI, gJ_aI, gJ_if, vs.1.2.1]
      have J29 : gJ (aJ (aI (aI (aJ A2 0 8 (lN (s 0 5 + stk s j 8))) (40 + 3 * j + 1) (s 4 j) (nI c)) (40 + 3 * j) 3 (nI (s 4 j + 1))) 29 0 (nI (s 4 j + 1)).toInt64) 29 0 = (nI (s 4 j + 1)).toInt64 := gJ_aJ _ _ _ _
      have u0 : gI (aJ (aI (aI (aJ A2 0 8 (lN (s 0 5 + stk s j 8))) (40 + 3 * j + 1) (s 4 j) (nI c)) (40 + 3 * j) 3 (nI (s 4 j + 1))) 29 0 (nI (s 4 j + 1)).toInt64) (40 + 3 * j) 0 = nI (s 3 j) := by
        rw [gI_aJ, gI_aIk _ _ _ _ _ (by decide), gI_aIu _ _ _ _ _ (by omega), gI_aJ]
        exact v3.1
      have u3 : gI (aJ (aI (aI (aJ A2 0 8 (lN (s 0 5 + stk s j 8))) (40 + 3 * j + 1) (s 4 j) (nI c)) (40 + 3 * j) 3 (nI (s 4 j + 1))) 29 0 (nI (s 4 j + 1)).toInt64) (40 + 3 * j) 3 = nI (s 4 j + 1) := by
        rw [gI_aJ, gI_aI]
      have u1 : ∀ k, gI (aJ (aI (aI (aJ A2 0 8 (lN (s 0 5 + stk s j 8))) (40 + 3 * j + 1) (s 4 j) (nI c)) (40 + 3 * j) 3 (nI (s 4 j + 1))) 29 0 (nI (s 4 j + 1)).toInt64) (40 + 3 * j + 1) k = if k = s 4 j then nI c else gI A (40 + 3 * j + 1) k := by
        intro k
        rw [gI_aJ, gI_aIu _ _ _ _ _ (by omega), gI_if, gI_aJ, vs.1.1 _ (by omega)]
        by_cases w : k = s 4 j
        · rw [if_pos ⟨rfl, w⟩, if_pos w]
        · rw [if_neg (fun y => w y.2), if_neg w]
      have u2 : ∀ k, k < 8 → gI (aJ (aI (aI (aJ A2 0 8 (lN (s 0 5 + stk s j 8))) (40 + 3 * j + 1) (s 4 j) (nI c)) (40 + 3 * j) 3 (nI (s 4 j + 1))) 29 0 (nI (s 4 j + 1)).toInt64) (40 + 3 * j + 2) k = nI 0 := by
        intro k hk
        rw [gI_aJ, gI_aIu _ _ _ _ _ (by omega), gI_aIu _ _ _ _ _ (by omega), gI_aJ]
        exact vs.2 k hk
      generalize (aJ (aI (aI (aJ A2 0 8 (lN (s 0 5 + stk s j 8))) (40 + 3 * j + 1) (s 4 j) (nI c)) (40 + 3 * j) 3 (nI (s 4 j + 1))) 29 0 (nI (s 4 j + 1)).toInt64) = A5 at E5 J5 J29 u0 u3 u1 u2 k5
      have e14 : gI A5 14 = gI A 14 := E5 14 (by omega) (by omega) (by omega)
      rw [k5.i l14, e14, I.mv]
      refine mm_inN (by omega) (fun j' hj' _ => ⟨fun q => absurd q n10, fun _ => ⟨k5.k l14, ?_⟩⟩) (fun z => absurd ((inr_nI (by omega)).2 hj) z)
      rw [k5.i l14, e14, I.vm.1.1]
      refine mm_inN (by omega) (fun c' hc' _ => ⟨fun _ => ⟨k5.k l14, ?_⟩, fun q => absurd q n10⟩) (fun z => absurd ((inr_nI (by omega)).2 hc) z)
      obtain ⟨f17, v17⟩ := rd k5 (t := 17) (k := j) (by decide) (show j < 4 by omega)
      rw [E5 17 (by omega) (by omega) (by omega), (I.mj j hj).2.2.2.1] at v17
      refine ⟨ad 17, k5.r l14 rfl, k5.k (t := 17) LM, f17, ?_⟩
      rw [v17]
      refine ⟨fun _ => ?_, fun y => absurd ((nI_eq (by omega) (by decide)).1 y) (by omega)⟩
      rintro S17 rfl
      have k6 := k5.sI l14 0 (nI 0)
      refine mm_ap58 I hj z (B := aI A5 14 0 (nI 0)) ?_ k6 ⟨fun _ _ => rfl, fun _ _ _ => rfl, ?_, fun q hq => ?_⟩ fun S7 A7 k7 M => ?_
      · rw [gI_aIu _ _ _ _ _ (by decide), E5 17 (by omega) (by omega) (by omega)]; exact (I.mj j hj).2.2.2.1
      · rw [gJ_aI, J5 14 10 (by decide), if_neg (by decide)]; exact I.vm.2.1.1
      · rw [if_neg (by omega), gI_aIu _ _ _ _ _ (by decide), E5 19 (by omega) (by omega) (by omega)]
        exact I.vm.2.2.2.2.2.2.2.1 _ hq
      · obtain ⟨M1, M2, M3, M4⟩ := M
        refine cmp_end k7 (x := 0) (by decide) ?_ (fun _ => ?_) (hK _ _ n _ (sP s j c) (inv_addPage I hm hj hc z k7 ?_ ?_ ?_ ?_ ?_ ?_ ?_ ?_ ?_ ?_ ?_ ?_ ?_) fun _ _ => rfl)
        · rw [gI_aIu _ _ _ _ _ (by decide), gI_aIu _ _ _ _ _ (by decide), M1 14 (by decide), gI_aI]
        · rw [gJ_aI, gJ_aI, M2 29 0 (by decide), gJ_aI, J29]
        · intro t g14 g17 g18 g19 g0 g1 g2
          rw [gI_aIu _ _ _ _ _ g17, gI_aIu _ _ _ _ _ g18, M1 t g19, gI_aIu _ _ _ _ _ g14]
          exact E5 t g0 g1 g2
        · intro k hk
          rw [gI_aIu _ _ _ _ _ (by decide), gI_aIu _ _ _ _ _ (by decide), M1 14 (by decide), gI_aIk _ _ _ _ _ hk, e14]
        · intro k
          rw [gI_if, gI_aIu _ _ _ _ _ (by decide), M1 17 (by decide), gI_aIu _ _ _ _ _ (by decide), E5 17 (by omega) (by omega) (by omega)]
          by_cases w : k = j
          · rw [if_pos ⟨rfl, w⟩, if_pos w]
          · rw [if_neg (fun y => w y.2), if_neg w]
        · intro k
          rw [gI_aIu _ _ _ _ _ (by decide), gI_if, M1 18 (by decide), gI_aIu _ _ _ _ _ (by decide), E5 18 (by omega) (by omega) (by omega)]
          by_cases w : k = 16 * j + s 4 j
          · rw [if_pos ⟨rfl, w⟩, if_pos w]
          · rw [if_neg (fun y => w y.2), if_neg w]
        · intro q hq
          rw [gI_aIu _ _ _ _ _ (by decide), gI_aIu _ _ _ _ _ (by decide), M4 q hq]
          by_cases w : q / 8 = j
          · rw [if_pos (by omega), if_pos w]
          · rw [if_neg (by omega), if_neg w]
        · rw [gI_aIu _ _ _ _ _ (by omega), gI_aIu _ _ _ _ _ (by omega), M1 _ (by omega), gI_aIu _ _ _ _ _ (by omega)]; exact u0
        · rw [gI_aIu _ _ _ _ _ (by omega), gI_aIu _ _ _ _ _ (by omega), M1 _ (by omega), gI_aIu _ _ _ _ _ (by omega)]; exact u3
        · intro k
          rw [gI_aIu _ _ _ _ _ (by omega), gI_aIu _ _ _ _ _ (by omega), M1 _ (by omega), gI_aIu _ _ _ _ _ (by omega)]; exact u1 k
        · intro k hk
          rw [gI_aIu _ _ _ _ _ (by omega), gI_aIu _ _ _ _ _ (by omega), M1 _ (by omega), gI_aIu _ _ _ _ _ (by omega)]; exact u2 k hk
        · intro k hk
          rw [gJ_aI, gJ_aI, M2 0 k (by omega), gJ_aI, J5 0 k (by decide), if_neg (fun y => hk y.2)]
        · rw [gJ_aI, gJ_aI, M2 0 8 (by decide), gJ_aI, J5 0 8 (by decide), if_pos ⟨rfl, rfl⟩]
        · intro k hk
          rw [gJ_aI, gJ_aI, M2 14 k (fun y => hk y.2), gJ_aI, J5 14 k (by decide), if_neg (by omega)]
        · rw [gJ_aI, gJ_aI]; exact M3
    · have e16 : s 4 j = 16 := by rw [nI_ltI (by omega) (by decide)] at z; omega
      refine ⟨I.h.k l14, I.h.k l14, ml_job I I.h (RO.rf _ (s 0 2)) (fun j' hj' _ => ⟨fun q => absurd q n10, fun _ => ⟨I.h.k l14, ml_con I I.h (RO.rf _ (s 0 2)) (fun c' hc' _ => ⟨fun _ => ⟨I.h.k l14, ?_⟩, fun q => absurd q n10⟩) (fun z => absurd ((inr_nI (by omega)).2 hc) z)⟩⟩) (fun z => absurd ((inr_nI (by omega)).2 hj) z)⟩
      obtain ⟨f17, v17⟩ := rd I.h (t := 17) (k := j) (by decide) (show j < 4 by omega)
      rw [(I.mj j hj).2.2.2.1, e16] at v17
      refine ⟨ad 17, I.h.r l14 rfl, I.h.k (t := 17) LM, f17, ?_⟩
      rw [v17]
      exact ⟨fun y => absurd rfl y, fun _ => mm_fails I.h fun S8 k8 => fail_end I hm hK (x := 2) (by decide) (by decide) k8 (RO.thr _ _ _) (gI_aI _ _ _ _)⟩
  · subst e
    exact ⟨I.h.k l14, I.h.k l14, ml_job I I.h (RO.rf _ (s 0 2)) (fun j' hj' _ => ⟨fun q => absurd q n10, fun _ => ⟨I.h.k l14, ml_con I I.h (RO.rf _ (s 0 2)) (fun c' hc' e' => absurd ((inr_nI (by omega)).2 hc') (e' ▸ z)) (fun _ => ⟨fun q => absurd t0 q, fun _ => ⟨I.h.k l14, mm_fails I.h fun S2 k2 => fail_end I hm hK (x := 1) (by decide) (by decide) k2 (RO.thr _ _ _) (gI_aI _ _ _ _)⟩⟩)⟩⟩) (fun z => absurd ((inr_nI (by omega)).2 hj) z)⟩
  · exact ⟨I.h.k l14, I.h.k l14, ml_job I I.h (RO.rf _ (s 0 2)) (fun j' hj' e' => absurd ((inr_nI (by omega)).2 hj') (e' ▸ z)) (fun _ => ⟨fun _ => ⟨I.h.k l14, mm_fails I.h fun S2 k2 => fail_end I hm hK (x := 1) (by decide) (by decide) k2 (RO.thr _ _ _) (gI_aI _ _ _ _)⟩, fun q => absurd t0 q⟩)⟩
end
