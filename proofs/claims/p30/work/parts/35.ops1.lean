/-! ===== addContent, approve, correct ===== -/
section
variable {S S1 S' : Mem} {ad : Nat → Nat} {A A' A1 : AM} {n : Nat × Nat} {s : Sta} {m : Nat} {post : Int32 → Mem → Prop} {p q r : Int32} {j i k l c : Nat} {F : Nat → Nat → Nat}
/-- the law's own arrays stay -/
def LK (A A' : AM) : Prop := ∀ t, 14 ≤ t → t < 21 → gI A' t = gI A t
theorem ng77 : ((-77 : Int32)).toInt < 0 := by decide
theorem ng79 : ((-79 : Int32)).toInt < 0 := by decide
theorem ng78 : ((-78 : Int32)).toInt < 0 := by decide
theorem ng76 : ((-76 : Int32)).toInt < 0 := by decide
theorem ng75 : ((-75 : Int32)).toInt < 0 := by decide
theorem wr_addContent (I : Inv S ad n A s m) (hm : m < 512) (hc : s 0 0 < 12) (hp : ∀ S' A', Inv S' ad n A' (up2 s 0 0 (s 0 0 + 1)) (m + 1) → LK A A' → post (nI (s 0 0)) S') : wpL_addContent S (ad 0) post := by
  refine ⟨I.h.k l0, I.h.k l0, ad 1, I.h.r l0 rfl, I.h.k (t := 1) LM, ?_⟩
  rw [I.h.i (t := 1) LM, I.vc.1.1]
  refine ⟨fun z => ⟨I.h.k (t := 1) LM, ?_⟩, fun z => ?_⟩
  · rw [I.h.i (t := 1) LM, I.vc.1.1]
    rintro x2 rfl S3 rfl
    rw [nI_add]
    have k3 := I.h.sI (LM (t := 1)) 3 (nI (s 0 0 + 1))
    rw [k3.i (t := 1) LM, gI_aI, pk_sub (by omega), Nat.add_sub_cancel]
    refine hp _ _ ⟨k3, ?_, ?_, ?_⟩ fun t h1 h2 => gI_aIu _ _ _ _ _ (by omega)
    · have vc := I.vc
      simp only [VC, VJ, VL, gI_if, gI_aJ, gJ_aI, gJ_if, s_if, Nat.reduceEqDiff, false_and, and_false, if_false, if_true, and_self, true_and, hj40, hl60, Nat.reduceLT] at vc ⊢
      exact ⟨vc.1.2, vc.2⟩
    · have vb := I.vb
      have e12 : up2 s 0 0 (s 0 0 + 1) 12 = s 12 := s_fn (by decide)
      simp only [VB, e12, s_if, Nat.reduceEqDiff, false_and, and_false, if_false, if_true, and_self, true_and, hj40, hl60, Nat.reduceLT] at vb ⊢
      obtain ⟨⟨b1, b2, b3, b4, b5, b6, b7, b8⟩, b9, b10, b11, b12, b13, b14⟩ := vb
      exact ⟨⟨by omega, by omega, b3, by omega, by omega, by omega, by omega, by omega⟩, b9, b10, b11, b12, fun j hj k hk => Nat.lt_succ_of_lt (b13 j hj k hk), b14⟩
    · have vp := I.vp
      simp only [VP, gI_if, gI_aJ, s_if, Nat.reduceEqDiff, false_and, and_false, if_false, if_true, and_self, true_and, hj40, hl60, Nat.reduceLT] at vp ⊢
      exact vp
  · rw [nI_ltI (by omega) (by decide)] at z; omega
theorem nar01 {a : Nat} (h : a ≤ 1) : vz_nar (nI a) := by
  rcases Nat.le_one_iff_eq_zero_or_eq_one.1 h with rfl | rfl
  · exact nar0
  · exact nar1
theorem wr_approve (I : Inv S ad n A s m) (hm : m < 512) (h1 : ∀ c S' A', c < s 0 0 → p = nI c → Inv S' ad n A' (up2 s 2 c 1) (m + 1) → LK A A' → post (nI (s 2 c)) S') (h0 : ¬ inr p (s 0 0) → post (-77) S) : wpL_approve S (ad 0) p post := by
  have hn := I.nc
  refine ⟨I.h.k l0, I.h.k l0, sp_requireContent I.h I.vc.1.1 hn (fun c hc e => ?_) (fun z => ⟨fun _ => h0 z, rfl⟩)⟩
  subst e
  have h12 : c < 12 := by omega
  have ha := I.vc.2.2.2.1 c h12
  have ha1 : s 2 c ≤ 1 := (I.vb.2.1 c h12).2.1
  refine ⟨I.h.k l0, ad 1, I.h.r l0 rfl, I.h.k (t := 1) LM, sp_isApproved I.h h12 ha ha1 ⟨I.h.k l0, ad 1, I.h.r l0 rfl, I.h.k (t := 1) LM, sp_setApproved I.h (a := 1) h12 (by decide) fun S1 k1 => ⟨nar01 ha1, ?_⟩⟩⟩
  have hI : Inv S1 ad n (aI A 3 c (nI 1)) (up2 s 2 c 1) (m + 1) := by
    refine ⟨k1, ?_, ?_, ?_⟩
    · have vc := I.vc
      simp only [VC, VJ, VL, gI_if, gI_aJ, gJ_aI, gJ_if, s_if, Nat.reduceEqDiff, false_and, and_false, if_false, if_true, and_self, true_and, hj40, hl60, Nat.reduceLT] at vc ⊢
      obtain ⟨v1, v2, v3, v4, v5⟩ := vc
      refine ⟨v1, v2, v3, fun c' hc' => ?_, v5⟩
      split
      · rfl
      · exact v4 c' hc'
    · have vb := I.vb
      have e12 : up2 s 2 c 1 12 = s 12 := s_fn (by decide)
      simp only [VB, e12, s_if, Nat.reduceEqDiff, false_and, and_false, if_false, if_true, and_self, true_and, hj40, hl60, Nat.reduceLT] at vb ⊢
      obtain ⟨⟨b1, b2, b3, b4, b5, b6, b7, b8⟩, b9, b10⟩ := vb
      refine ⟨⟨by omega, by omega, b3, by omega, by omega, by omega, by omega, by omega⟩, fun c' hc' => ⟨(b9 c' hc').1, ?_, (b9 c' hc').2.2⟩, b10⟩
      split
      · decide
      · exact (b9 c' hc').2.1
    · have vp := I.vp
      simp only [VP, gI_if, gI_aJ, s_if, Nat.reduceEqDiff, false_and, and_false, if_false, if_true, and_self, true_and, hj40, hl60, Nat.reduceLT] at vp ⊢
      exact vp
  have fin := h1 c S1 _ hc rfl hI fun t g1 g2 => gI_aIu _ _ _ _ _ (by omega)
  refine ⟨fun z => ?_, fun z => ?_⟩
  · have e0 : s 2 c = 0 := by
      rw [i0, nI_eq (by omega) (by decide)] at z; exact z
    rw [e0] at fin; exact fin
  · have e1 : s 2 c = 1 := by
      rw [i0, nI_eq (by omega) (by decide)] at z; omega
    rw [e1] at fin; exact fin
theorem i2l {a : Nat} (h : a < 2147483648) : (nI a).toInt64 = lN a := by
  apply Int64.toInt_inj.1
  rw [Int32.toInt_toInt64, nI_toInt h, lN_toInt h]
theorem m1_ne {x : Nat} (h : x < 2147483648) : (-1 : Int32) ≠ nI x := by
  intro e
  have := (ieq_iff _ _).1 e
  rw [nI_toInt h] at this
  have e2 : (-1 : Int32).toInt = -1 := rfl
  omega
def FF (s : Sta) (c : Nat) (F : Nat → Nat → Nat) : Prop := ∀ j i, (shows (s 3 j) (s 4 j) (jpg s j) i c → F j i = s 6 (8 * j + i)) ∧ (¬ shows (s 3 j) (s 4 j) (jpg s j) i c → F j i = 0)
theorem FF_ex (s : Sta) (c : Nat) : ∃ F, FF s c F :=
  ⟨fun j i => @ite _ (shows (s 3 j) (s 4 j) (jpg s j) i c) (Classical.propDecidable _) (s 6 (8 * j + i)) 0, fun _ _ => ⟨fun h => if_pos h, fun h => if_neg h⟩⟩
theorem FF.le (h : FF s c F) (j i : Nat) : F j i ≤ s 6 (8 * j + i) := by
  by_cases w : shows (s 3 j) (s 4 j) (jpg s j) i c
  · exact Nat.le_of_eq ((h j i).1 w)
  · rw [(h j i).2 w]; exact Nat.zero_le _
def ns (s : Sta) (F : Nat → Nat → Nat) (q : Nat) : Nat := s 6 q - F (q / 8) (q % 8)
theorem ns_at {j i : Nat} (hi : i < 8) : ns s F (8 * j + i) = s 6 (8 * j + i) - F j i := by
  unfold ns
  rw [show (8 * j + i) / 8 = j by omega, show (8 * j + i) % 8 = i by omega]
def vr (s : Sta) (n : Nat × Nat) (F : Nat → Nat → Nat) (j : Nat) : Nat := if j < n.1 then sm (F j) (cntf (s 3 j) (s 4 j)) else 0
def sC (s : Sta) (n : Nat × Nat) (c : Nat) (F : Nat → Nat → Nat) : Sta := fun t k =>
  if t = 6 then ns s F k else if t = 0 then (if k = 1 then s 0 1 + 1 else if k = 5 then s 0 5 + sm (vr s n F) 4 else s 0 k)
  else if t = 1 then (if k = c then s 1 c + 1 else s 1 k) else if t = 2 then (if k = c then 0 else s 2 k)
  else if t = 12 then (if k = s 0 1 then c else s 12 k) else s t k
theorem vr_le (I : Inv S ad n A s m) (hF : FF s c F) (j : Nat) : vr s n F j ≤ 79992 := by
  unfold vr
  split
  · rename_i hj
    have h8 := i_lt I hj
    have := sm_le (f := F j) (c := 9999) (N := cntf (s 3 j) (s 4 j)) fun i hi => Nat.le_trans (hF.le j i) (I.st9 hj (by omega))
    omega
  · omega
theorem cl_new (I : Inv S ad n A s m) (l : Nat) {k : Nat} (hk : k ≤ s 0 1) : cl (sC s n c F 12) l k = cl (s 12) l k := by
  refine cl_cong l fun i hi => ?_
  show (if i = s 0 1 then c else s 12 i) = s 12 i
  rw [if_neg (by omega)]
theorem inv_corr (I : Inv S ad n A s m) (hm : m < 512) (hc : c < s 0 0) (h99 : s 1 c < 99) (hF : FF s c F) (k : Rel S1 ad n A')
    (e0 : ∀ t, t ≠ 1 → t ≠ 2 → t ≠ 3 → t ≠ 4 → (∀ j, j < n.1 → t ≠ 40 + 3 * j + 2) → gI A' t = gI A t)
    (e1 : ∀ k, k ≠ 4 → gI A' 1 k = gI A 1 k) (e14 : gI A' 1 4 = nI (s 0 1 + 1))
    (e2 : ∀ k, k < 12 → gI A' 2 k = nI (if k = c then s 1 c + 1 else s 1 k)) (e3 : ∀ k, k < 12 → gI A' 3 k = nI (if k = c then 0 else s 2 k))
    (e4 : ∀ k, k < s 0 1 + 1 → gI A' 4 k = nI (if k = s 0 1 then c else s 12 k))
    (ej : ∀ j, j < n.1 → ∀ k, k < 8 → gI A' (40 + 3 * j + 2) k = nI (ns s F (8 * j + k)))
    (j0 : ∀ k, k ≠ 8 → gJ A' 0 k = gJ A 0 k) (j8 : gJ A' 0 8 = lN (s 0 5 + sm (vr s n F) 4)) : Inv S1 ad n A' (sC s n c F) (m + 1) := by
  have h4 : n.1 ≤ 4 := I.h.2.2.1
  have hnc := I.nc
  have E : ∀ t, (t = 0 ∨ (5 ≤ t ∧ t < 40) ∨ 60 ≤ t) → gI A' t = gI A t := fun t h => e0 t (by omega) (by omega) (by omega) (by omega) fun j hj => by omega
  have Ej : ∀ j, j < n.1 → gI A' (40 + 3 * j) = gI A (40 + 3 * j) ∧ gI A' (40 + 3 * j + 1) = gI A (40 + 3 * j + 1) := fun j hj =>
    ⟨e0 _ (by omega) (by omega) (by omega) (by omega) fun i hi => by omega, e0 _ (by omega) (by omega) (by omega) (by omega) fun i hi => by omega⟩
  have mono : ∀ k, s 1 k ≤ sC s n c F 1 k := by
    intro k
    show s 1 k ≤ if k = c then s 1 c + 1 else s 1 k
    split
    · rename_i w; rw [w]; omega
    · exact Nat.le_refl _
  have n99 : ∀ k, k < 12 → sC s n c F 1 k ≤ 99 := by
    intro k hk
    show (if k = c then s 1 c + 1 else s 1 k) ≤ 99
    split
    · omega
    · exact I.s99 hk
  have hsub : ∀ q, ns s F q ≤ s 6 q := fun q => Nat.sub_le _ _
  refine ⟨k, ?_, ?_, ?_⟩
  · obtain ⟨⟨a1, a2, a3, a4, a5⟩, ⟨b1, b2, b3, b4⟩, c2', c3', c4', cj, cl'⟩ := I.vc
    refine ⟨⟨(e1 3 (by decide)).trans a1, e14, ?_, ?_, ?_⟩, ⟨j8, (j0 9 (by decide)).trans b2, (j0 10 (by decide)).trans b3, (j0 11 (by decide)).trans b4⟩, e2, e3, e4, fun j hj => ?_, fun l hl => ?_⟩
    · rw [E 0 (by omega)]; exact a3
    · rw [E 0 (by omega)]; exact a4
    · rw [E 7 (by omega)]; exact a5
    · show VJ A' (40 + 3 * j) (s 3 j) (s 4 j) (fun k => s 5 (16 * j + k)) (fun i => ns s F (8 * j + i))
      obtain ⟨h1, h2, h3, h4, h5, h6⟩ := cj j hj
      exact ⟨(congrFun (Ej j hj).1 0).trans h1, h2, (congrFun (Ej j hj).1 3).trans h3, h4, fun k hk => ⟨(congrFun (Ej j hj).2 k).trans (h5 k hk).1, (h5 k hk).2⟩, fun k hk => ⟨ej j hj k hk, Nat.le_trans (hsub _) (h6 k hk).2⟩⟩
    · show VL A' (60 + 3 * l) (s 9 l) (s 10 l) (s 13 l) (fun k => s 5 (16 * s 8 l + k)) (fun k => s 11 (16 * l + k))
      have := cl' l hl
      unfold VL at this ⊢
      rw [E (60 + 3 * l) (by omega), E (60 + 3 * l + 1) (by omega), E (60 + 3 * l + 2) (by omega)]
      exact this
  · obtain ⟨⟨b1, b2, b3, b4, b5, b6, b7, b8⟩, b9, b10, b11, b12, b13, b14, b15, b16⟩ := I.vb
    have hv : sm (vr s n F) 4 ≤ 4 * 79992 := sm_le fun j _ => vr_le I hF j
    refine ⟨⟨b1, ?_, b3, ?_, ?_, ?_, ?_, by omega⟩, fun k hk => ⟨n99 k hk, ?_, ?_⟩, ?_, b11, b12, b13, b14, fun j hj i hi => ⟨Nat.le_trans (hsub _) (b15 j hj i hi).1, fun w => ?_⟩, fun l hl => ?_⟩
    · show s 0 1 + 1 ≤ m + 1; omega
    · show s 0 3 ≤ m + 1; omega
    · show s 0 4 ≤ 55 * (m + 1); omega
    · show s 0 5 + sm (vr s n F) 4 ≤ 320000 * (m + 1); omega
    · show s 0 6 ≤ 500 * (m + 1); omega
    · show (if k = c then 0 else s 2 k) ≤ 1
      split
      · decide
      · exact (b9 k hk).2.1
    · show (if k = c then s 1 c + 1 else s 1 k) = cl (sC s n c F 12) k (s 0 1) + if (if s 0 1 = s 0 1 then c else s 12 (s 0 1)) = k then 1 else 0
      rw [cl_new I k (Nat.le_refl _), ← (b9 k hk).2.2, if_pos rfl]
      by_cases w : k = c
      · subst w; rw [if_pos rfl, if_pos rfl]
      · rw [if_neg w, if_neg (fun z => w z.symm)]; rfl
    · intro i hi
      show (if i = s 0 1 then c else s 12 i) < 12
      split
      · omega
      · have hi' : i < s 0 1 + 1 := hi
        exact b10 i (by omega)
    · have w0 := (b15 j hj i hi).2 w
      have := hsub (8 * j + i)
      show ns s F (8 * j + i) = 0
      omega
    · obtain ⟨f1, f2, f3, f4, f5⟩ := b16 l hl
      refine ⟨f1, f2, f3, Nat.le_succ_of_le f4, fun k hk => ?_⟩
      show s 11 (16 * l + k) = cl (sC s n c F 12) (s 5 (16 * s 8 l + k)) (s 13 l)
      rw [cl_new I _ f4]
      exact f5 k hk
  · obtain ⟨p1, p2, p3, p4⟩ := I.vp
    unfold VP
    rw [E 6 (by omega), E 8 (by omega)]
    have up : ∀ {p a r}, lep s p a r → lep (sC s n c F) p a r := fun l => ⟨Nat.le_trans l.1 (mono _), fun q => Nat.le_trans (l.2 q) (mono _)⟩
    refine ⟨p1, fun k hk => ?_, fun p hp => ?_, fun p hp => ?_⟩
    · obtain ⟨p, a, r, o, e, l⟩ := p2 k hk
      exact ⟨p, a, r, o, e, up l⟩
    · rcases p3 p hp with w | ⟨a, r, o, e, l⟩
      · exact Or.inl w
      · exact Or.inr ⟨a, r, o, e, up l⟩
    · show gI A 8 p = nI (pq p (c1 (sC s n c F) p) (c2 (sC s n c F) p)) ↔ made (s 7) (s 0 2) (mq p (c1 (sC s n c F) p) (c2 (sC s n c F) p))
      by_cases d : p / 13 = c ∨ (p % 13 ≠ 0 ∧ p % 13 - 1 = c)
      · have ok : okp p (c1 (sC s n c F) p) (c2 (sC s n c F) p) := by
          refine ⟨hp, n99 _ (by omega), ?_, ?_⟩
          · unfold c2
            split
            · decide
            · exact n99 _ (by omega)
          · intro w
            unfold c2
            rw [if_pos w]
        have nl : ¬ lep s p (c1 (sC s n c F) p) (c2 (sC s n c F) p) := by
          rintro ⟨l1, l2⟩
          rcases d with d | ⟨d0, d1⟩
          · have e : c1 (sC s n c F) p = s 1 c + 1 := by
              show (if p / 13 = c then s 1 c + 1 else s 1 (p / 13)) = _
              rw [if_pos d]
            rw [e, d] at l1
            omega
          · have e : c2 (sC s n c F) p = s 1 c + 1 := by
              show (if p % 13 = 0 then 0 else if p % 13 - 1 = c then s 1 c + 1 else s 1 (p % 13 - 1)) = _
              rw [if_neg d0, if_pos d1]
            have := l2 d0
            rw [e, d1] at this
            omega
        have b := (pq_lt ok).1
        constructor
        · intro e
          rcases p3 p hp with w | ⟨a, r, o, e2, l⟩
          · exact absurd (w.symm.trans e) (m1_ne (by omega))
          · have b2 := (pq_lt o).1
            rw [e2, nI_eq (by omega) (by omega), pq_inj o ok] at e
            obtain ⟨-, ea, er⟩ := e
            subst ea er
            exact absurd l nl
        · rintro ⟨k, hk, e⟩
          obtain ⟨p', a, r, o, e2, l⟩ := p2 k hk
          rw [e2, mq_inj o ok] at e
          obtain ⟨ep, ea, er⟩ := e
          subst ep ea er
          exact absurd l nl
      · have d1 : p / 13 ≠ c := fun w => d (Or.inl w)
        have e1 : c1 (sC s n c F) p = c1 s p := by
          show (if p / 13 = c then s 1 c + 1 else s 1 (p / 13)) = s 1 (p / 13)
          rw [if_neg d1]
        have e2 : c2 (sC s n c F) p = c2 s p := by
          show (if p % 13 = 0 then 0 else if p % 13 - 1 = c then s 1 c + 1 else s 1 (p % 13 - 1)) = if p % 13 = 0 then 0 else s 1 (p % 13 - 1)
          by_cases w : p % 13 = 0
          · rw [if_pos w, if_pos w]
          · rw [if_neg w, if_neg w, if_neg (fun z => d (Or.inr ⟨w, z⟩))]
        rw [e1, e2]
        exact p4 p hp
def CI (A A' : AM) (n : Nat × Nat) (s : Sta) (F : Nat → Nat → Nat) (j : Nat) : Prop := (∀ v, (∀ i, i < j → i < n.1 → v ≠ 40 + 3 * i + 2) → gI A' v = gI A v) ∧ gJ A' = gJ A ∧ ∀ i, i < j → i < n.1 → ∀ k, k < 8 → gI A' (40 + 3 * i + 2) k = nI (ns s F (8 * i + k))
theorem sp_c32 (I : Inv S ad n A s m) (hc : c < 12) (hF : FF s c F) {px : Nat → Mem → Prop} (hq : ∀ S' A', Rel S' ad n (aJ (aI (aI (aI (aI A' 2 c (nI (s 1 c + 1))) 3 c (nI 0)) 4 (s 0 1) (nI c)) 1 4 (nI (s 0 1 + 1))) 0 8 (lN (s 0 5 + sm (vr s n F) 4))) → CI A A' n s F 4 → post (nI (sm (vr s n F) 4)) S') : ∃ m, wlX6_correct_32 (ad 0) (nI c) post px m (nI 0) (nI 0) S := by
  have h4 : n.1 ≤ 4 := I.h.2.2.1
  have hb := I.vb.1
  have hv : sm (vr s n F) 4 ≤ 4 * 79992 := sm_le fun j _ => vr_le I hF j
  have key : ∀ m' j S' A', j + m' = 4 → Rel S' ad n A' → CI A A' n s F j → wlX6_correct_32 (ad 0) (nI c) post px (m' + 1) (nI (sm (vr s n F) j)) (nI j) S' := by
    intro m'
    induction m' with
    | zero =>
      intro j S' A' hj k hC
      have e : j = 4 := by omega
      subst e
      refine ⟨fun _ => ⟨k.k l0, ad 1, k.r l0 rfl, k.k (t := 1) LM, sp_noteCorrection k hc (v := s 1 c) (k := s 0 1) ?_ ?_ (by omega) fun S2 k2 => ⟨k2.k l0, ?_⟩⟩, fun z => absurd ((nI_leI (by omega) (by omega)).2 (Nat.le_refl _)) z⟩
      · rw [hC.1 2 (fun i _ _ => by omega)]; exact I.vc.co hc
      · rw [hC.1 1 (fun i _ _ => by omega)]; exact I.vc.1.2.1
      · rintro S17 rfl
        have e8 : mJ S2 (ad 0) 8 + (nI (sm (vr s n F) 4)).toInt64 = lN (s 0 5 + sm (vr s n F) 4) := by
          rw [k2.j l0, gJ_aI, gJ_aI, gJ_aI, gJ_aI, hC.2.1, I.vc.2.1.1, i2l (by omega), lN_add]
        rw [e8]
        exact hq _ A' (k2.sJ l0 8 _) hC
    | succ m' ih =>
      intro j S' A' hj k hC
      refine ⟨fun z => ?_, fun _ => ⟨k.k l0, sp_findJob k (by rw [hC.1 0 (fun i _ _ => by omega)]; exact I.cj) (fun j' hj' e => ⟨fun z => (nomatch z), fun o z => ?_⟩) (fun z => ⟨fun _ x22 e => ?_, fun o z => (nomatch z)⟩)⟩⟩
      · rw [nI_leI (by omega) (by omega)] at z; omega
      · cases z
        have e' := (nI_eq (by omega) (by omega)).1 e
        subst e'
        have v : VJ A' (40 + 3 * j) (s 3 j) (s 4 j) (jpg s j) (fun i => s 6 (8 * j + i)) := (I.vj j hj').ex (hC.1 _ fun i _ _ => by omega) (hC.1 _ fun i _ _ => by omega) (hC.1 _ fun i _ _ => by omega)
        refine ⟨k.jk (jt hj'), sp_takeSheetsShowing k (jt hj') v hc (F j) (fun i _ w => (hF j i).1 w) (fun i _ w => (hF j i).2 w) fun S2 A2 k2 vs => ?_⟩
        rintro x26 rfl x27 rfl
        have e0 : sm (vr s n F) (j + 1) = sm (vr s n F) j + sm (F j) (cntf (s 3 j) (s 4 j)) := by
          show _ + vr s n F j = _
          rw [vr, if_pos hj']
        rw [nI_add, nI_add, ← e0]
        refine ih (j + 1) S2 A2 (by omega) k2 ⟨fun v hv => ?_, vs.1.2.1.trans hC.2.1, fun i hi hn k hk => ?_⟩
        · exact (vs.1.1 v (hv j (by omega) hj')).trans (hC.1 v fun i hi => hv i (by omega))
        · by_cases w : i = j
          · subst w
            rw [vs.2 k hk, ns_at hk]
            show nI (if k < cntf (s 3 i) (s 4 i) then s 6 (8 * i + k) - F i k else s 6 (8 * i + k)) = nI (s 6 (8 * i + k) - F i k)
            split
            · rfl
            · rename_i w2
              have := I.st0 (j := i) (i := k) (by omega) hk (fun z => w2 z.2.2)
              rw [this, Nat.zero_sub]
          · rw [vs.1.1 _ (by omega)]
            exact hC.2.2 i (by omega) hn k hk
      · subst e
        have hj' : ¬ j < n.1 := fun w => z ((inr_nI (by omega)).2 w)
        have e0 : sm (vr s n F) (j + 1) = sm (vr s n F) j := by
          show _ + vr s n F j = _
          rw [vr, if_neg hj', Nat.add_zero]
        rw [nI_add]
        have := ih (j + 1) S' A' (by omega) k ⟨fun v hv => hC.1 v fun i hi => hv i (by omega), hC.2.1, fun i hi hn => hC.2.2 i (by omega) hn⟩
        rw [e0] at this
        exact this
  exact ⟨_, key 4 0 S A rfl I.h ⟨fun _ _ => rfl, rfl, fun i hi => absurd hi (by omega)⟩⟩
theorem wr_correct (I : Inv S ad n A s m) (hm : m < 512) (h1 : ∀ c F S' A', c < s 0 0 → p = nI c → s 1 c < 99 → FF s c F → Inv S' ad n A' (sC s n c F) (m + 1) → LK A A' → post (nI (sm (vr s n F) 4)) S') (h0 : ∀ v : Int32, v.toInt < 0 → post v S) : wpL_correct S (ad 0) p post := by
  have hn := I.nc
  have h4 : n.1 ≤ 4 := I.h.2.2.1
  refine ⟨I.h.k l0, I.h.k l0, sp_requireContent I.h I.vc.1.1 hn (fun c hc e => ?_) (fun z => ⟨fun _ => h0 _ ng77, fun q => absurd q (by decide), Or.inl rfl⟩)⟩
  subst e
  have h12 : c < 12 := by omega
  have h99 := I.s99 h12
  obtain ⟨F, hF⟩ := FF_ex s c
  refine ⟨I.h.k l0, ad 1, I.h.r l0 rfl, I.h.k (t := 1) LM, sp_stateOf I.h h12 ?_⟩
  rw [I.vc.co h12]
  refine ⟨fun z => ?_, fun z => ⟨fun q => absurd q (by decide), fun _ => h0 _ ng79, Or.inr rfl⟩⟩
  rw [nI_ltI (by omega) (by decide)] at z
  refine sp_c32 I h12 hF fun S' A' k hC => ?_
  have o : ∀ t, t ≠ 1 → t ≠ 2 → t ≠ 3 → t ≠ 4 → gI (aJ (aI (aI (aI (aI A' 2 c (nI (s 1 c + 1))) 3 c (nI 0)) 4 (s 0 1) (nI c)) 1 4 (nI (s 0 1 + 1))) 0 8 (lN (s 0 5 + sm (vr s n F) 4))) t = gI A' t := fun t g1 g2 g3 g4 => by
    rw [gI_aJ, gI_aIu _ _ _ _ _ g1, gI_aIu _ _ _ _ _ g4, gI_aIu _ _ _ _ _ g3, gI_aIu _ _ _ _ _ g2]
  refine h1 c F S' _ hc rfl z hF (inv_corr I hm hc z hF k (fun t g1 g2 g3 g4 gj => ?_) (fun k hk => ?_) ?_ (fun k hk => ?_) (fun k hk => ?_) (fun k hk => ?_) (fun j hj k hk => ?_) (fun k hk => ?_) ?_) fun t g1 g2 => ?_
  · rw [o t g1 g2 g3 g4]
    exact hC.1 t fun i _ hi => gj i hi
  · rw [gI_aJ, gI_aIk _ _ _ _ _ hk, gI_aIu _ _ _ _ _ (by decide), gI_aIu _ _ _ _ _ (by decide), gI_aIu _ _ _ _ _ (by decide), hC.1 1 (fun i _ _ => by omega)]
  · rw [gI_aJ, gI_aI]
  · rw [gI_aJ, gI_aIu _ _ _ _ _ (by decide), gI_aIu _ _ _ _ _ (by decide), gI_aIu _ _ _ _ _ (by decide), gI_if, hC.1 2 (fun i _ _ => by omega)]
    by_cases w : k = c
    · rw [if_pos ⟨rfl, w⟩, if_pos w]
    · rw [if_neg (fun y => w y.2), if_neg w]; exact I.vc.co hk
  · rw [gI_aJ, gI_aIu _ _ _ _ _ (by decide), gI_aIu _ _ _ _ _ (by decide), gI_if, gI_aIu _ _ _ _ _ (by decide), hC.1 3 (fun i _ _ => by omega)]
    by_cases w : k = c
    · rw [if_pos ⟨rfl, w⟩, if_pos w]
    · rw [if_neg (fun y => w y.2), if_neg w]; exact I.vc.2.2.2.1 k hk
  · rw [gI_aJ, gI_aIu _ _ _ _ _ (by decide), gI_if, gI_aIu _ _ _ _ _ (by decide), gI_aIu _ _ _ _ _ (by decide), hC.1 4 (fun i _ _ => by omega)]
    by_cases w : k = s 0 1
    · rw [if_pos ⟨rfl, w⟩, if_pos w]
    · rw [if_neg (fun y => w y.2), if_neg w]; exact I.vc.2.2.2.2.1 k (by omega)
  · rw [o _ (by omega) (by omega) (by omega) (by omega)]
    exact hC.2.2 j (by omega) hj k hk
  · rw [gJ_if, if_neg (fun y => hk y.2), gJ_aI, gJ_aI, gJ_aI, gJ_aI, hC.2.1]
  · exact gJ_aJ _ _ _ _
  · rw [o t (by omega) (by omega) (by omega) (by omega)]
    exact hC.1 t fun i hi hn => by omega
end
