/-! ===== correct ===== -/
section
variable {S S1 S' : Mem} {ad : Nat → Nat} {A B A' A1 : AM} {n : Nat × Nat} {s : Sta} {m : Nat} {K P : Mem → Prop} {c : Nat} {F : Nat → Nat → Nat} {post : Int32 → Mem → Prop} {J : Int32 → Int32 → Mem → Prop} {p q r : Int32}
def CI (A A' : AM) (n : Nat × Nat) (s : Sta) (F : Nat → Nat → Nat) (j : Nat) : Prop := (∀ v, (∀ i, i < j → i < n.1 → v ≠ 40 + 3 * i + 2) → gI A' v = gI A v) ∧ gJ A' = gJ A ∧ ∀ i, i < j → i < n.1 → ∀ k, k < 8 → gI A' (40 + 3 * i + 2) k = nI (ns s F (8 * i + k))
theorem sp_c32 (I : Inv S ad n A s m) (hc : c < 12) (hF : FF s c F) {px : Nat → Mem → Prop} (hq : ∀ S' A', Rel S' ad n (aJ (aI (aI (aI (aI A' 2 c (nI (s 1 c + 1))) 3 c (nI 0)) 4 (s 0 1) (nI c)) 1 4 (nI (s 0 1 + 1))) 0 8 (lN (s 0 5 + sm (vr s n F) 4))) → CI A A' n s F 4 → post (nI (sm (vr s n F) 4)) S') : ∃ m, wlX6_correct_32 (ad 0) (nI c) post px m (nI 0) (nI 0) S := by
  have h4 : n.1 ≤ 4 := I.h.2.2.1
  have hb := I.vb.1
  have hv : sm (vr s n F) 4 ≤ 4 * 79992 := sm_le fun j _ => vr_le I hF j
  have key : ∀ m' j S' A', j + m' = 4 → Rel S' ad n A' → CI A A' n s F j → wlX6_correct_32 (ad 0) (nI c) post px (m' + 1) (nI (sm (vr s n F) j)) (nI j) S' := by
    intro m'
    induction m' with
    | zero =>
      intro j S' A' hj k hC
      have e : j = 4 := by omega
      subst e
      refine ⟨fun _ => ⟨k.k l0, ad 1, k.r l0 rfl, k.k (t := 1) LM, sp_noteCorrection k hc (v := s 1 c) (k := s 0 1) ?_ ?_ (by omega) fun S2 k2 => ⟨k2.k l0, ?_⟩⟩, fun z => absurd ((nI_leI (by omega) (by omega)).2 (Nat.le_refl _)) z⟩
      · rw [hC.1 2 (fun i _ _ => by omega)]; exact I.vc.co hc
      · rw [hC.1 1 (fun i _ _ => by omega)]; exact I.vc.1.2.1
      · rintro S17 rfl
        have e8 : mJ S2 (ad 0) 8 + (nI (sm (vr s n F) 4)).toInt64 = lN (s 0 5 + sm (vr s n F) 4) := by
          rw [k2.j l0, gJ_aI, gJ_aI, gJ_aI, gJ_aI, hC.2.1, I.vc.2.1.1, i2l (by omega), lN_add]
        rw [e8]
        exact hq _ A' (k2.sJ l0 8 _) hC
    | succ m' ih =>
      intro j S' A' hj k hC
      refine ⟨fun z => ?_, fun _ => ⟨k.k l0, sp_findJob k (by rw [hC.1 0 (fun i _ _ => by omega)]; exact I.cj) (fun j' hj' e => ⟨fun z => (nomatch z), fun o z => ?_⟩) (fun z => ⟨fun _ x22 e => ?_, fun o z => (nomatch z)⟩)⟩⟩
      · rw [nI_leI (by omega) (by omega)] at z; omega
      · cases z
        have e' := (nI_eq (by omega) (by omega)).1 e
        subst e'
        have v : VJ A' (40 + 3 * j) (s 3 j) (s 4 j) (jpg s j) (fun i => s 6 (8 * j + i)) := (I.vj j hj').ex (hC.1 _ fun i _ _ => by omega) (hC.1 _ fun i _ _ => by omega) (hC.1 _ fun i _ _ => by omega)
        refine ⟨k.jk (jt hj'), sp_takeSheetsShowing k (jt hj') v hc (F j) (fun i _ w => (hF j i).1 w) (fun i _ w => (hF j i).2 w) fun S2 A2 k2 vs => ?_⟩
        rintro x26 rfl x27 rfl
        have e0 : sm (vr s n F) (j + 1) = sm (vr s n F) j + sm (F j) (cntf (s 3 j) (s 4 j)) := by
          show _ + vr s n F j = _
          rw [vr, if_pos hj']
        rw [nI_add, nI_add, ← e0]
        refine ih (j + 1) S2 A2 (by omega) k2 ⟨fun v hv => ?_, vs.1.2.1.trans hC.2.1, fun i hi hn k hk => ?_⟩
        · exact (vs.1.1 v (hv j (by omega) hj')).trans (hC.1 v fun i hi => hv i (by omega))
        · by_cases w : i = j
          · subst w
            rw [vs.2 k hk, ns_at hk]
            show nI (if k < cntf (s 3 i) (s 4 i) then s 6 (8 * i + k) - F i k else s 6 (8 * i + k)) = nI (s 6 (8 * i + k) - F i k)
            split
            · rfl
            · rename_i w2
              have := I.st0 (j := i) (i := k) (by omega) hk (fun z => w2 z.2.2)
              rw [this, Nat.zero_sub]
          · rw [vs.1.1 _ (by omega)]
            exact hC.2.2 i (by omega) hn k hk
      · subst e
        have hj' : ¬ j < n.1 := fun w => z ((inr_nI (by omega)).2 w)
        have e0 : sm (vr s n F) (j + 1) = sm (vr s n F) j := by
          show _ + vr s n F j = _
          rw [vr, if_neg hj', Nat.add_zero]
        rw [nI_add]
        have := ih (j + 1) S' A' (by omega) k ⟨fun v hv => hC.1 v fun i hi => hv i (by omega), hC.2.1, fun i hi hn => hC.2.2 i (by omega) hn⟩
        rw [e0] at this
        exact this
  exact ⟨_, key 4 0 S A rfl I.h ⟨fun _ _ => rfl, rfl, fun i hi => absurd hi (by omega)⟩⟩
def MI (B A' : AM) (s : Sta) (F : Nat → Nat → Nat) (j i T : Nat) : Prop := (∀ v, v ≠ 19 → gI A' v = gI B v) ∧ (∀ t k, ¬ (t = 14 ∧ k = 10) → gJ A' t k = gJ B t k) ∧ gJ A' 14 10 = lN (s 0 5 + T) ∧ ∀ j' i', j' < 4 → i' < 8 → gI A' 19 (8 * j' + i') = nI (if j' < j ∨ (j' = j ∧ i' < i) then ns s F (8 * j' + i') else s 6 (8 * j' + i'))
/-- a row is through -/
theorem MI.row (I : Inv S ad n A s m) {j i T : Nat} (hj : j < 4) (M : MI B A' s F j i T) (h : ∀ i', i' < 8 → i ≤ i' → s 6 (8 * j + i') = 0) : MI B A' s F (j + 1) 0 T := by
  refine ⟨M.1, M.2.1, M.2.2.1, fun j' i' hj' hi' => ?_⟩
  rw [M.2.2.2 j' i' hj' hi']
  by_cases c1 : j' < j ∨ (j' = j ∧ i' < i)
  · rw [if_pos c1, if_pos (by omega)]
  · by_cases c2 : j' = j
    · subst c2
      rw [if_neg c1, if_pos (by omega), ns_at hi', h i' hi' (by omega), Nat.zero_sub]
    · rw [if_neg c1, if_neg (by omega)]
theorem mm_c59 (I : Inv S ad n A s m) (hc : c < 12) (hF : FF s c F) {j : Nat} (hj : j < n.1) (hB : MJ B j (s 3 j) (s 4 j) (jpg s j)) (k : Rel S' ad n A') (M : MI B A' s F j 0 (sm (vr s n F) j)) (hJ : ∀ S2 A2, Rel S2 ad n A2 → MI B A2 s F (j + 1) 0 (sm (vr s n F) (j + 1)) → J (nI (sm (vr s n F) (j + 1))) (nI (j + 1)) S2) : ∃ m, wlX7_correct_59 (ad 14) (nI c) (nI j) post J m (nI (sm (vr s n F) j)) (nI 0) S' := by
  have h4 : n.1 ≤ 4 := I.h.2.2.1
  have h8 := i_lt I hj
  have e0 : sm (vr s n F) (j + 1) = sm (vr s n F) j + sm (F j) (cntf (s 3 j) (s 4 j)) := by
    show _ + vr s n F j = _
    rw [vr, if_pos hj]
  have hm : ∀ {A2 i T}, MI B A2 s F j i T → MJ A2 j (s 3 j) (s 4 j) (jpg s j) := fun M => hB.ex (M.1 16 (by decide)) (M.1 17 (by decide)) (M.1 18 (by decide))
  by_cases w : whl (s 3 j) (s 4 j)
  · have key : ∀ m' i S2 A2, i + m' = cntf (s 3 j) (s 4 j) → Rel S2 ad n A2 → MI B A2 s F j i (sm (vr s n F) j + sm (F j) i) → wlX7_correct_59 (ad 14) (nI c) (nI j) post J (m' + 1) (nI (sm (vr s n F) j + sm (F j) i)) (nI i) S2 := by
      intro m'
      induction m' with
      | zero =>
        intro i S2 A2 hi k2 M2
        have e : i = cntf (s 3 j) (s 4 j) := by omega
        refine ⟨k2.k l14, mm_isWhole k2 (hm M2) (fun _ => ⟨fun q => absurd q n10, fun _ => ⟨k2.k l14, mm_count k2 (hm M2) ⟨fun _ x29 e29 => ?_, fun z => absurd ((nI_leI (by omega) (by omega)).2 (by omega)) z⟩⟩⟩) (fun z => absurd w z)⟩
        subst e29
        rw [e, ← e0, nI_add]
        rw [e, ← e0] at M2
        exact hJ S2 A2 k2 (M2.row I (by omega) fun i' h1 h2 => I.st0 (by omega) h1 fun y => by omega)
      | succ m' ih =>
        intro i S2 A2 hi k2 M2
        refine ⟨k2.k l14, mm_isWhole k2 (hm M2) (fun _ => ⟨fun q => absurd q n10, fun _ => ⟨k2.k l14, mm_count k2 (hm M2) ⟨fun z => ?_, fun _ => ⟨k2.k l14, mm_isShown k2 (hm M2) (by omega) hc (fun y => ⟨fun q => absurd q n10, fun _ => ⟨k2.k l14, ?_⟩⟩) (fun y => ⟨fun _ x34 e34 x35 e35 => ?_, fun q => absurd t0 q⟩)⟩⟩⟩⟩) (fun z => absurd w z)⟩
        · rw [nI_leI (by omega) (by omega)] at z; omega
        · have ex : gI A2 19 (8 * j + i) = nI (s 6 (8 * j + i)) := by rw [M2.2.2.2 j i (by omega) (by omega), if_neg (by omega)]
          have hf := (hF j i).1 y
          have h9 := I.st9 hj (i := i) (by omega)
          refine mm_voids k2 (by omega) (by omega) ex fun S3 k3 => ?_
          rintro x39 rfl x40 rfl
          rw [nI_add, nI_add, ← hf, Nat.add_assoc]
          rw [← hf] at k3
          refine ih (i + 1) S3 _ (by omega) k3 ⟨fun v hv => ?_, fun t k hk => ?_, ?_, fun j' i' hj' hi' => ?_⟩
          · rw [gI_aJ, gI_aIu _ _ _ _ _ hv]; exact M2.1 v hv
          · rw [gJ_if, if_neg hk, gJ_aI]; exact M2.2.1 t k hk
          · rw [gJ_aJ, M2.2.2.1, i2l (by omega), lN_add, Nat.add_assoc, Nat.add_assoc]; rfl
          · rw [gI_aJ, gI_if]
            by_cases d : j' = j ∧ i' = i
            · obtain ⟨rfl, rfl⟩ := d
              rw [if_pos ⟨rfl, rfl⟩, if_pos (by omega), ns_at hi', hf, Nat.sub_self]
            · rw [if_neg (by omega), M2.2.2.2 j' i' hj' hi']
              by_cases g : j' < j ∨ (j' = j ∧ i' < i)
              · rw [if_pos g, if_pos (by omega)]
              · rw [if_neg g, if_neg (by omega)]
        · subst e34 e35
          have hf := (hF j i).2 y
          have e1 : sm (F j) i + 0 = sm (F j) (i + 1) := by
            show _ = sm (F j) i + F j i
            rw [hf]
          rw [nI_add, nI_add, Nat.add_assoc, e1]
          refine ih (i + 1) S2 A2 (by omega) k2 ⟨M2.1, M2.2.1, ?_, fun j' i' hj' hi' => ?_⟩
          · rw [← e1]; exact M2.2.2.1
          · rw [M2.2.2.2 j' i' hj' hi']
            by_cases g : j' < j ∨ (j' = j ∧ i' < i)
            · rw [if_pos g, if_pos (by omega)]
            · by_cases d : j' = j ∧ i' = i
              · obtain ⟨rfl, rfl⟩ := d
                rw [if_neg g, if_pos (by omega), ns_at hi', hf, Nat.sub_zero]
              · rw [if_neg g, if_neg (by omega)]
    exact ⟨_, key (cntf (s 3 j) (s 4 j)) 0 S' A' (by omega) k M⟩
  · have hz : ∀ i', i' < 8 → s 6 (8 * j + i') = 0 := fun i' h => I.st0 (by omega) h fun y => w y.2.1
    have e1 : sm (F j) (cntf (s 3 j) (s 4 j)) = 0 := by
      have := sm_le (f := F j) (c := 0) (N := cntf (s 3 j) (s 4 j)) fun i hi => by have := hF.le j i; rw [hz i (by omega)] at this; exact this
      omega
    rw [e1, Nat.add_zero] at e0
    refine ⟨0 + 1, k.k l14, mm_isWhole k (hm M) (fun z => absurd z w) (fun _ => ⟨fun _ x24 e24 => ?_, fun q => absurd t0 q⟩)⟩
    subst e24
    rw [nI_add]
    have := hJ S' A' k (by rw [e0]; exact M.row I (by omega) fun i' h1 h2 => hz i' h1)
    rw [e0] at this
    exact this
theorem mm_c48 (I : Inv S ad n A s m) (hc : c < 12) (hF : FF s c F) (hn : gI B 14 2 = nI n.1) (hB : ∀ j, j < n.1 → MJ B j (s 3 j) (s 4 j) (jpg s j)) (k : Rel S' ad n A') (M : MI B A' s F 0 0 0) (hq : ∀ S2 A2, Rel S2 ad n A2 → MI B A2 s F n.1 0 (sm (vr s n F) n.1) → post (nI (sm (vr s n F) n.1)) S2) : ∃ m, wlX7_correct_48 (ad 14) (nI c) post m (nI 0) (nI 0) S' := by
  have h4 : n.1 ≤ 4 := I.h.2.2.1
  have key : ∀ m' j S2 A2, j + m' = n.1 → Rel S2 ad n A2 → MI B A2 s F j 0 (sm (vr s n F) j) → wlX7_correct_48 (ad 14) (nI c) post (m' + 1) (nI (sm (vr s n F) j)) (nI j) S2 := by
    intro m'
    induction m' with
    | zero =>
      intro j S2 A2 hj k2 M2
      have e : j = n.1 := by omega
      subst e
      refine ⟨k2.k l14, ?_⟩
      rw [k2.i l14, M2.1 14 (by decide), hn]
      exact ⟨fun _ => hq S2 A2 k2 M2, fun z => absurd ((nI_leI (by omega) (by omega)).2 (Nat.le_refl _)) z⟩
    | succ m' ih =>
      intro j S2 A2 hj k2 M2
      refine ⟨k2.k l14, ?_⟩
      rw [k2.i l14, M2.1 14 (by decide), hn]
      refine ⟨fun z => ?_, fun _ => mm_c59 I hc hF (by omega) (hB j (by omega)) k2 M2 fun S3 A3 k3 M3 => ih (j + 1) S3 A3 (by omega) k3 M3⟩
      rw [nI_leI (by omega) (by omega)] at z; omega
  exact ⟨_, key n.1 0 S' A' (by omega) k M⟩
theorem op_correct (I : Inv S ad n A s m) (hm : m < 512) (hK : nxt ad m K) (hp : ∀ x S1, mcJ (fun S g => wpX7_correct S (ad 14) p g) ad K P x S1 → post x S1) : wpL_correct S (ad 0) p (ad 29) post := by
  have hn := I.nc
  have h4 : n.1 ≤ 4 := I.h.2.2.1
  refine ⟨I.h.k l0, I.h.k l0, sp_requireContent I.h I.vc.1.1 hn (fun c hc e => ?_) (fun z => ⟨fun _ => hp _ _ ?_, fun q => absurd q (by decide), Or.inl rfl⟩)⟩
  · subst e
    have h12 : c < 12 := by omega
    have h99 := I.s99 h12
    obtain ⟨F, hF⟩ := FF_ex s c
    refine ⟨I.h.k l0, ad 1, I.h.r l0 rfl, I.h.k (t := 1) LM, sp_stateOf I.h h12 ?_⟩
    rw [I.vc.co h12]
    refine ⟨fun z => ?_, fun z => ⟨fun q => absurd q (by decide), fun _ => hp _ _ ?_, Or.inr rfl⟩⟩
    · rw [nI_ltI (by omega) (by decide)] at z
      refine sp_c32 I h12 hF fun S5 A5 k5 hC => put_out k5 fun S6 k6 => hp _ _ ?_
      have hT : sm (vr s n F) 4 ≤ 4 * 79992 := sm_le fun j _ => vr_le I hF j
      have eT : sm (vr s n F) n.1 = sm (vr s n F) 4 := (sm_zero h4 fun j hj => by rw [vr, if_neg (by omega)]).symm
      refine ⟨k6.k l14, k6.k l14, mm_isContent k6 ?_ hn (fun c' hc' e' S7 k7 => ⟨fun _ => ⟨k7.k l14, ?_⟩, fun z => absurd z n10⟩) (fun z => absurd ((inr_nI (by omega)).2 hc) z)⟩
      · rw [gI_aJ, gI_aJ, gI_aIu _ _ _ _ _ (by decide), gI_aIu _ _ _ _ _ (by decide), gI_aIu _ _ _ _ _ (by decide), gI_aIu _ _ _ _ _ (by decide), hC.1 14 (fun i _ _ => by omega)]
        exact I.vm.1.1
      have E7 : ∀ t, t ≠ 1 → t ≠ 2 → t ≠ 3 → t ≠ 4 → t ≠ 14 → (∀ j, j < n.1 → t ≠ 40 + 3 * j + 2) → gI (aI (aJ (aJ (aI (aI (aI (aI A5 2 c (nI (s 1 c + 1))) 3 c (nI 0)) 4 (s 0 1) (nI c)) 1 4 (nI (s 0 1 + 1))) 0 8 (lN (s 0 5 + sm (vr s n F) 4))) 29 0 (nI (sm (vr s n F) 4)).toInt64) 14 0 (nI 0)) t = gI A t := by
        intro t g1 g2 g3 g4 g5 g6
        rw [gI_aIu _ _ _ _ _ g5, gI_aJ, gI_aJ, gI_aIu _ _ _ _ _ g1, gI_aIu _ _ _ _ _ g4, gI_aIu _ _ _ _ _ g3, gI_aIu _ _ _ _ _ g2]
        exact hC.1 t fun i _ hi => g6 i hi
      obtain ⟨f15, v15⟩ := rd k7 (t := 15) (k := c) (by decide) (show c < 12 by omega)
      rw [E7 15 (by decide) (by decide) (by decide) (by decide) (by decide) (fun j _ => by omega), I.vm.2.2.1 c h12] at v15
      refine ⟨ad 15, k7.r l14 rfl, k7.k (t := 15) LM, f15, ?_⟩
      rw [v15]
      refine ⟨fun _ => ⟨f15, ?_⟩, fun y => absurd ((nI_eq (by omega) (by decide)).1 y) (by omega)⟩
      rintro x11 rfl
      refine ⟨f15, ?_⟩
      rintro S13 rfl
      rw [nI_add, nI_clamp (by omega)]
      have k8 := k7.sI (LM (t := 15)) c (nI (s 1 c + 1))
      obtain ⟨f20, -⟩ := rd k8 (t := 20) (k := c) (by decide) (show c < 12 by omega)
      refine ⟨ad 20, k8.r l14 rfl, k8.k (t := 20) LM, f20, ?_⟩
      rintro S17 rfl
      rw [nb0]
      have k9 := k8.sI (LM (t := 20)) c (nI 0)
      generalize hA7 : (aI (aJ (aJ (aI (aI (aI (aI A5 2 c (nI (s 1 c + 1))) 3 c (nI 0)) 4 (s 0 1) (nI c)) 1 4 (nI (s 0 1 + 1))) 0 8 (lN (s 0 5 + sm (vr s n F) 4))) 29 0 (nI (sm (vr s n F) 4)).toInt64) 14 0 (nI 0)) = A7 at E7 k9
      have EB : ∀ t, t ≠ 15 → t ≠ 20 → gI (aI (aI A7 15 c (nI (s 1 c + 1))) 20 c (nI 0)) t = gI A7 t := fun t g1 g2 => by rw [gI_aIu _ _ _ _ _ g2, gI_aIu _ _ _ _ _ g1]
      have e14 : ∀ k, k ≠ 0 → gI A7 14 k = gI A 14 k := by
        intro k hk
        rw [← hA7, gI_aIk _ _ _ _ _ hk, gI_aJ, gI_aJ, gI_aIu _ _ _ _ _ (by decide), gI_aIu _ _ _ _ _ (by decide), gI_aIu _ _ _ _ _ (by decide), gI_aIu _ _ _ _ _ (by decide), hC.1 14 (fun i _ _ => by omega)]
      have e7j : ∀ t k, t ≠ 29 → gJ A7 t k = if t = 0 ∧ k = 8 then lN (s 0 5 + sm (vr s n F) 4) else gJ A t k := by
        intro t k ht
        rw [← hA7, gJ_aI, gJ_aJu _ _ _ _ _ ht, gJ_if, gJ_aI, gJ_aI, gJ_aI, gJ_aI, hC.2.1]
      refine mm_c48 I h12 hF (B := aI (aI A7 15 c (nI (s 1 c + 1))) 20 c (nI 0)) ?_ (fun j hj => (I.mj j hj).ex ?_ ?_ ?_) k9 ⟨fun _ _ => rfl, fun _ _ _ => rfl, ?_, fun j' i' h1 h2 => ?_⟩ fun S8 A8 k8 M => ?_
      · rw [EB 14 (by decide) (by decide), e14 2 (by decide)]; exact I.mv
      · rw [EB 16 (by decide) (by decide)]; exact E7 16 (by decide) (by decide) (by decide) (by decide) (by decide) (fun j _ => by omega)
      · rw [EB 17 (by decide) (by decide)]; exact E7 17 (by decide) (by decide) (by decide) (by decide) (by decide) (fun j _ => by omega)
      · rw [EB 18 (by decide) (by decide)]; exact E7 18 (by decide) (by decide) (by decide) (by decide) (by decide) (fun j _ => by omega)
      · rw [gJ_aI, gJ_aI, e7j 14 10 (by decide), if_neg (by decide), Nat.add_zero]; exact I.vm.2.1.1
      · rw [if_neg (by omega), EB 19 (by decide) (by decide), E7 19 (by decide) (by decide) (by decide) (by decide) (by decide) (fun j _ => by omega)]
        exact I.vm.2.2.2.2.2.2.2.1 _ (by omega)
      · obtain ⟨M1, M2, M3, M4⟩ := M
        rw [eT] at M3 ⊢
        refine cmp_end k8 (x := 0) (by decide) ?_ (fun _ => ?_) (hK _ _ n _ (sC s n c F) (inv_corr I hm hc z hF k8 ?_ ?_ ?_ ?_ ?_ ?_ ?_ ?_ ?_ ?_ ?_ ?_ ?_ ?_ M3) fun _ _ => rfl)
        · rw [M1 14 (by decide), EB 14 (by decide) (by decide), ← hA7, gI_aI]
        · rw [M2 29 0 (by decide), gJ_aI, gJ_aI, ← hA7, gJ_aI, gJ_aJ]
        · intro t g1 g2 g3 g4 g14 g15 g19 g20 gj
          rw [M1 t g19, EB t g15 g20]
          exact E7 t g1 g2 g3 g4 g14 gj
        · intro k hk
          rw [M1 1 (by decide), EB 1 (by decide) (by decide), ← hA7, gI_aIu _ _ _ _ _ (by decide), gI_aJ, gI_aJ, gI_aIk _ _ _ _ _ hk, gI_aIu _ _ _ _ _ (by decide), gI_aIu _ _ _ _ _ (by decide), gI_aIu _ _ _ _ _ (by decide), hC.1 1 (fun i _ _ => by omega)]
        · rw [M1 1 (by decide), EB 1 (by decide) (by decide), ← hA7, gI_aIu _ _ _ _ _ (by decide), gI_aJ, gI_aJ, gI_aI]
        · intro k hk
          rw [M1 2 (by decide), EB 2 (by decide) (by decide), ← hA7, gI_aIu _ _ _ _ _ (by decide), gI_aJ, gI_aJ, gI_aIu _ _ _ _ _ (by decide), gI_aIu _ _ _ _ _ (by decide), gI_aIu _ _ _ _ _ (by decide), gI_if, hC.1 2 (fun i _ _ => by omega)]
          by_cases w : k = c
          · rw [if_pos ⟨rfl, w⟩, if_pos w]
          · rw [if_neg (fun y => w y.2), if_neg w]; exact I.vc.co hk
        · intro k hk
          rw [M1 3 (by decide), EB 3 (by decide) (by decide), ← hA7, gI_aIu _ _ _ _ _ (by decide), gI_aJ, gI_aJ, gI_aIu _ _ _ _ _ (by decide), gI_aIu _ _ _ _ _ (by decide), gI_if, gI_aIu _ _ _ _ _ (by decide), hC.1 3 (fun i _ _ => by omega)]
          by_cases w : k = c
          · rw [if_pos ⟨rfl, w⟩, if_pos w]
          · rw [if_neg (fun y => w y.2), if_neg w]; exact I.vc.2.2.2.1 k hk
        · intro k hk
          rw [M1 4 (by decide), EB 4 (by decide) (by decide), ← hA7, gI_aIu _ _ _ _ _ (by decide), gI_aJ, gI_aJ, gI_aIu _ _ _ _ _ (by decide), gI_if, gI_aIu _ _ _ _ _ (by decide), gI_aIu _ _ _ _ _ (by decide), hC.1 4 (fun i _ _ => by omega)]
          by_cases w : k = s 0 1
          · rw [if_pos ⟨rfl, w⟩, if_pos w]
          · rw [if_neg (fun y => w y.2), if_neg w]; exact I.vc.2.2.2.2.1 k (by omega)
        · intro k hk
          rw [M1 14 (by decide), EB 14 (by decide) (by decide)]
          exact e14 k hk
        · intro k hk
          rw [M1 15 (by decide), gI_aIu _ _ _ _ _ (by decide), gI_if, E7 15 (by decide) (by decide) (by decide) (by decide) (by decide) (fun j _ => by omega)]
          by_cases w : k = c
          · rw [if_pos ⟨rfl, w⟩, if_pos w]
          · rw [if_neg (fun y => w y.2), if_neg w]; exact I.vm.2.2.1 k hk
        · intro k hk
          rw [M1 20 (by decide), gI_if, gI_aIu _ _ _ _ _ (by decide), E7 20 (by decide) (by decide) (by decide) (by decide) (by decide) (fun j _ => by omega)]
          by_cases w : k = c
          · rw [if_pos ⟨rfl, w⟩, if_pos w]
          · rw [if_neg (fun y => w y.2), if_neg w]; exact I.vm.2.2.2.1 k hk
        · intro q hq
          have := M4 (q / 8) (q % 8) (by omega) (by omega)
          rw [show 8 * (q / 8) + q % 8 = q by omega] at this
          rw [this]
          by_cases w : q / 8 < n.1 ∨ (q / 8 = n.1 ∧ q % 8 < 0)
          · rw [if_pos w]
          · rw [if_neg w]
            have e := I.st0 (j := q / 8) (i := q % 8) (by omega) (by omega) (fun y => w (Or.inl y.1))
            rw [show 8 * (q / 8) + q % 8 = q by omega] at e
            unfold ns
            rw [e, Nat.zero_sub]
        · intro j hj k hk
          rw [M1 _ (by omega), EB _ (by omega) (by omega), ← hA7, gI_aIu _ _ _ _ _ (by omega), gI_aJ, gI_aJ, gI_aIu _ _ _ _ _ (by omega), gI_aIu _ _ _ _ _ (by omega), gI_aIu _ _ _ _ _ (by omega), gI_aIu _ _ _ _ _ (by omega)]
          exact hC.2.2 j (by omega) hj k hk
        · intro k hk
          rw [M2 0 k (by omega), gJ_aI, gJ_aI, e7j 0 k (by decide), if_neg (fun y => hk y.2)]
        · rw [M2 0 8 (by decide), gJ_aI, gJ_aI, e7j 0 8 (by decide), if_pos ⟨rfl, rfl⟩]
        · intro k hk
          rw [M2 14 k (fun y => hk y.2), gJ_aI, gJ_aI, e7j 14 k (by decide), if_neg (by omega)]
    · have e99 : s 1 c = 99 := by rw [nI_ltI (by omega) (by decide)] at z; omega
      refine ⟨I.h.k l14, I.h.k l14, mm_isContent I.h I.vm.1.1 hn (fun c' hc' e' S7 k7 => ⟨fun _ => ⟨k7.k l14, ?_⟩, fun z => absurd z n10⟩) (fun z => absurd ((inr_nI (by omega)).2 hc) z)⟩
      obtain ⟨f15, v15⟩ := rd k7 (t := 15) (k := c) (by decide) (show c < 12 by omega)
      rw [gI_aIu _ _ _ _ _ (by decide), I.vm.2.2.1 c h12, e99] at v15
      refine ⟨ad 15, k7.r l14 rfl, k7.k (t := 15) LM, f15, ?_⟩
      rw [v15]
      exact ⟨fun y => absurd rfl y, fun _ => mm_fails k7 fun S8 k8 => fail_end I hm hK (x := 2) (by decide) (by decide) k8 (thr1 _ _ _ _) (gI_aI _ _ _ _)⟩
  · refine ⟨I.h.k l14, I.h.k l14, mm_isContent I.h I.vm.1.1 hn (fun c' hc' e' S2 k2 => absurd ((inr_nI (by omega)).2 hc') (e' ▸ z)) (fun z S2 k2 => ⟨fun q => absurd t0 q, fun _ => ?_⟩)⟩
    exact fail_end I hm hK (x := 1) (by decide) (by decide) k2 (RO.thr _ _ _) (gI_aI _ _ _ _)
end
