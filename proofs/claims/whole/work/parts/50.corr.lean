/-! ===== correct: what it leaves ===== -/
section
variable {S S1 : Mem} {ad : Nat → Nat} {A A' A1 : AM} {n : Nat × Nat} {s : Sta} {m : Nat} {K P : Mem → Prop} {c : Nat} {F : Nat → Nat → Nat}
theorem i2l {a : Nat} (h : a < 2147483648) : (nI a).toInt64 = lN a := by
  apply Int64.toInt_inj.1
  rw [Int32.toInt_toInt64, nI_toInt h, lN_toInt h]
theorem m1_ne {x : Nat} (h : x < 2147483648) : (-1 : Int32) ≠ nI x := by
  intro e
  have := (ieq_iff _ _).1 e
  rw [nI_toInt h] at this
  have e2 : (-1 : Int32).toInt = -1 := rfl
  omega
/-- what a correction of c takes from each stack -/
def FF (s : Sta) (c : Nat) (F : Nat → Nat → Nat) : Prop := ∀ j i, (shows (s 3 j) (s 4 j) (jpg s j) i c → F j i = s 6 (8 * j + i)) ∧ (¬ shows (s 3 j) (s 4 j) (jpg s j) i c → F j i = 0)
theorem FF_ex (s : Sta) (c : Nat) : ∃ F, FF s c F :=
  ⟨fun j i => @ite _ (shows (s 3 j) (s 4 j) (jpg s j) i c) (Classical.propDecidable _) (s 6 (8 * j + i)) 0, fun _ _ => ⟨fun h => if_pos h, fun h => if_neg h⟩⟩
theorem FF.le (h : FF s c F) (j i : Nat) : F j i ≤ s 6 (8 * j + i) := by
  by_cases w : shows (s 3 j) (s 4 j) (jpg s j) i c
  · exact Nat.le_of_eq ((h j i).1 w)
  · rw [(h j i).2 w]; exact Nat.zero_le _
def ns (s : Sta) (F : Nat → Nat → Nat) (q : Nat) : Nat := s 6 q - F (q / 8) (q % 8)
theorem ns_at {j i : Nat} (hi : i < 8) : ns s F (8 * j + i) = s 6 (8 * j + i) - F j i := by
  unfold ns
  rw [show (8 * j + i) / 8 = j by omega, show (8 * j + i) % 8 = i by omega]
def vr (s : Sta) (n : Nat × Nat) (F : Nat → Nat → Nat) (j : Nat) : Nat := if j < n.1 then sm (F j) (cntf (s 3 j) (s 4 j)) else 0
def sC (s : Sta) (n : Nat × Nat) (c : Nat) (F : Nat → Nat → Nat) : Sta := fun t k =>
  if t = 6 then ns s F k else if t = 0 then (if k = 1 then s 0 1 + 1 else if k = 5 then s 0 5 + sm (vr s n F) 4 else s 0 k)
  else if t = 1 then (if k = c then s 1 c + 1 else s 1 k) else if t = 2 then (if k = c then 0 else s 2 k)
  else if t = 12 then (if k = s 0 1 then c else s 12 k) else s t k
theorem vr_le (I : Inv S ad n A s m) (hF : FF s c F) (j : Nat) : vr s n F j ≤ 79992 := by
  unfold vr
  split
  · rename_i hj
    have h8 := i_lt I hj
    have := sm_le (f := F j) (c := 9999) (N := cntf (s 3 j) (s 4 j)) fun i hi => Nat.le_trans (hF.le j i) (I.st9 hj (by omega))
    omega
  · omega
theorem cl_new (I : Inv S ad n A s m) (l : Nat) {k : Nat} (hk : k ≤ s 0 1) : cl (sC s n c F 12) l k = cl (s 12) l k := by
  refine cl_cong l fun i hi => ?_
  show (if i = s 0 1 then c else s 12 i) = s 12 i
  rw [if_neg (by omega)]
theorem inv_corr (I : Inv S ad n A s m) (hm : m < 512) (hc : c < s 0 0) (h99 : s 1 c < 99) (hF : FF s c F) (k : Rel S1 ad n A')
    (e0 : ∀ t, t ≠ 1 → t ≠ 2 → t ≠ 3 → t ≠ 4 → t ≠ 14 → t ≠ 15 → t ≠ 19 → t ≠ 20 → (∀ j, j < n.1 → t ≠ 40 + 3 * j + 2) → gI A' t = gI A t)
    (e1 : ∀ k, k ≠ 4 → gI A' 1 k = gI A 1 k) (e14 : gI A' 1 4 = nI (s 0 1 + 1))
    (e2 : ∀ k, k < 12 → gI A' 2 k = nI (if k = c then s 1 c + 1 else s 1 k)) (e3 : ∀ k, k < 12 → gI A' 3 k = nI (if k = c then 0 else s 2 k))
    (e4 : ∀ k, k < s 0 1 + 1 → gI A' 4 k = nI (if k = s 0 1 then c else s 12 k)) (em : ∀ k, k ≠ 0 → gI A' 14 k = gI A 14 k)
    (e15 : ∀ k, k < 12 → gI A' 15 k = nI (if k = c then s 1 c + 1 else s 1 k)) (e20 : ∀ k, k < 12 → gI A' 20 k = nI (if k = c then 0 else s 2 k))
    (e19 : ∀ q, q < 32 → gI A' 19 q = nI (ns s F q)) (ej : ∀ j, j < n.1 → ∀ k, k < 8 → gI A' (40 + 3 * j + 2) k = nI (ns s F (8 * j + k)))
    (j0 : ∀ k, k ≠ 8 → gJ A' 0 k = gJ A 0 k) (j8 : gJ A' 0 8 = lN (s 0 5 + sm (vr s n F) 4)) (jm : ∀ k, k ≠ 10 → gJ A' 14 k = gJ A 14 k) (jm10 : gJ A' 14 10 = lN (s 0 5 + sm (vr s n F) 4)) : Inv S1 ad n A' (sC s n c F) (m + 1) := by
  have h4 : n.1 ≤ 4 := I.h.2.2.1
  have hnc := I.nc
  have E : ∀ t, (t = 0 ∨ (5 ≤ t ∧ t < 14) ∨ (16 ≤ t ∧ t < 19) ∨ (21 ≤ t ∧ t < 40) ∨ 60 ≤ t) → gI A' t = gI A t := fun t h => e0 t (by omega) (by omega) (by omega) (by omega) (by omega) (by omega) (by omega) (by omega) fun j hj => by omega
  have Ej : ∀ j, j < n.1 → gI A' (40 + 3 * j) = gI A (40 + 3 * j) ∧ gI A' (40 + 3 * j + 1) = gI A (40 + 3 * j + 1) := fun j hj =>
    ⟨e0 _ (by omega) (by omega) (by omega) (by omega) (by omega) (by omega) (by omega) (by omega) fun i hi => by omega, e0 _ (by omega) (by omega) (by omega) (by omega) (by omega) (by omega) (by omega) (by omega) fun i hi => by omega⟩
  have mono : ∀ k, s 1 k ≤ sC s n c F 1 k := by
    intro k
    show s 1 k ≤ if k = c then s 1 c + 1 else s 1 k
    split
    · rename_i w; rw [w]; omega
    · exact Nat.le_refl _
  have n99 : ∀ k, k < 12 → sC s n c F 1 k ≤ 99 := by
    intro k hk
    show (if k = c then s 1 c + 1 else s 1 k) ≤ 99
    split
    · omega
    · exact I.s99 hk
  have hsub : ∀ q, ns s F q ≤ s 6 q := fun q => Nat.sub_le _ _
  refine ⟨k, ?_, ?_, ?_, ?_⟩
  · obtain ⟨⟨a1, a2, a3, a4, a5⟩, ⟨b1, b2, b3, b4⟩, c2', c3', c4', cj, cl'⟩ := I.vc
    refine ⟨⟨(e1 3 (by decide)).trans a1, e14, ?_, ?_, ?_⟩, ⟨j8, (j0 9 (by decide)).trans b2, (j0 10 (by decide)).trans b3, (j0 11 (by decide)).trans b4⟩, e2, e3, e4, fun j hj => ?_, fun l hl => ?_⟩
    · rw [E 0 (by omega)]; exact a3
    · rw [E 0 (by omega)]; exact a4
    · rw [E 7 (by omega)]; exact a5
    · show VJ A' (40 + 3 * j) (s 3 j) (s 4 j) (fun k => s 5 (16 * j + k)) (fun i => ns s F (8 * j + i))
      obtain ⟨h1, h2, h3, h4, h5, h6⟩ := cj j hj
      exact ⟨(congrFun (Ej j hj).1 0).trans h1, h2, (congrFun (Ej j hj).1 3).trans h3, h4, fun k hk => ⟨(congrFun (Ej j hj).2 k).trans (h5 k hk).1, (h5 k hk).2⟩, fun k hk => ⟨ej j hj k hk, Nat.le_trans (hsub _) (h6 k hk).2⟩⟩
    · show VL A' (60 + 3 * l) (s 9 l) (s 10 l) (s 13 l) (fun k => s 5 (16 * s 8 l + k)) (fun k => s 11 (16 * l + k))
      have := cl' l hl
      unfold VL at this ⊢
      rw [E (60 + 3 * l) (by omega), E (60 + 3 * l + 1) (by omega), E (60 + 3 * l + 2) (by omega)]
      exact this
  · obtain ⟨⟨a1, a2, a3, a4, a5, a6, a7, a8, a9⟩, ⟨b1, b2⟩, d1, d2, d3, d4, d5, d6, d7, d8⟩ := I.vm
    refine ⟨⟨(em 1 (by decide)).trans a1, (em 2 (by decide)).trans a2, (em 3 (by decide)).trans a3, (em 4 (by decide)).trans a4, (em 5 (by decide)).trans a5, (em 6 (by decide)).trans a6, (em 7 (by decide)).trans a7, (em 8 (by decide)).trans a8, (em 9 (by decide)).trans a9⟩, ⟨jm10, (jm 11 (by decide)).trans b2⟩, e15, e20, ?_, ?_, ?_, e19, ?_, ?_⟩
    · rw [E 16 (by omega)]; exact d3
    · rw [E 17 (by omega)]; exact d4
    · rw [E 18 (by omega)]; exact d5
    · rw [E 21 (by omega)]; exact d7
    · rw [E 25 (by omega), E 26 (by omega), E 27 (by omega), E 28 (by omega)]; exact d8
  · obtain ⟨⟨b1, b2, b3, b4, b5, b6, b7, b8⟩, b9, b10, b11, b12, b13, b14, b15, b16⟩ := I.vb
    have hv : sm (vr s n F) 4 ≤ 4 * 79992 := sm_le fun j _ => vr_le I hF j
    refine ⟨⟨b1, ?_, b3, ?_, ?_, ?_, ?_, by omega⟩, fun k hk => ⟨n99 k hk, ?_, ?_⟩, ?_, b11, b12, b13, b14, fun j hj i hi => ⟨Nat.le_trans (hsub _) (b15 j hj i hi).1, fun w => ?_⟩, fun l hl => ?_⟩
    · show s 0 1 + 1 ≤ m + 1; omega
    · show s 0 3 ≤ m + 1; omega
    · show s 0 4 ≤ 55 * (m + 1); omega
    · show s 0 5 + sm (vr s n F) 4 ≤ 320000 * (m + 1); omega
    · show s 0 6 ≤ 500 * (m + 1); omega
    · show (if k = c then 0 else s 2 k) ≤ 1
      split
      · decide
      · exact (b9 k hk).2.1
    · show (if k = c then s 1 c + 1 else s 1 k) = cl (sC s n c F 12) k (s 0 1) + if (if s 0 1 = s 0 1 then c else s 12 (s 0 1)) = k then 1 else 0
      rw [cl_new I k (Nat.le_refl _), ← (b9 k hk).2.2, if_pos rfl]
      by_cases w : k = c
      · subst w; rw [if_pos rfl, if_pos rfl]
      · rw [if_neg w, if_neg (fun z => w z.symm)]; rfl
    · intro i hi
      show (if i = s 0 1 then c else s 12 i) < 12
      split
      · omega
      · have hi' : i < s 0 1 + 1 := hi
        exact b10 i (by omega)
    · have w0 := (b15 j hj i hi).2 w
      have := hsub (8 * j + i)
      show ns s F (8 * j + i) = 0
      omega
    · obtain ⟨f1, f2, f3, f4, f5⟩ := b16 l hl
      refine ⟨f1, f2, f3, Nat.le_succ_of_le f4, fun k hk => ?_⟩
      show s 11 (16 * l + k) = cl (sC s n c F 12) (s 5 (16 * s 8 l + k)) (s 13 l)
      rw [cl_new I _ f4]
      exact f5 k hk
  · obtain ⟨p1, p2, p3, p4⟩ := I.vp
    unfold VP
    rw [E 6 (by omega), E 8 (by omega)]
    have up : ∀ {p a r}, lep s p a r → lep (sC s n c F) p a r := fun l => ⟨Nat.le_trans l.1 (mono _), fun q => Nat.le_trans (l.2 q) (mono _)⟩
    refine ⟨p1, fun k hk => ?_, fun p hp => ?_, fun p hp => ?_⟩
    · obtain ⟨p, a, r, o, e, l⟩ := p2 k hk
      exact ⟨p, a, r, o, e, up l⟩
    · rcases p3 p hp with w | ⟨a, r, o, e, l⟩
      · exact Or.inl w
      · exact Or.inr ⟨a, r, o, e, up l⟩
    · show gI A 8 p = nI (pq p (c1 (sC s n c F) p) (c2 (sC s n c F) p)) ↔ made (s 7) (s 0 2) (mq p (c1 (sC s n c F) p) (c2 (sC s n c F) p))
      by_cases d : p / 13 = c ∨ (p % 13 ≠ 0 ∧ p % 13 - 1 = c)
      · have ok : okp p (c1 (sC s n c F) p) (c2 (sC s n c F) p) := by
          refine ⟨hp, n99 _ (by omega), ?_, ?_⟩
          · unfold c2
            split
            · decide
            · exact n99 _ (by omega)
          · intro w
            unfold c2
            rw [if_pos w]
        have nl : ¬ lep s p (c1 (sC s n c F) p) (c2 (sC s n c F) p) := by
          rintro ⟨l1, l2⟩
          rcases d with d | ⟨d0, d1⟩
          · have e : c1 (sC s n c F) p = s 1 c + 1 := by
              show (if p / 13 = c then s 1 c + 1 else s 1 (p / 13)) = _
              rw [if_pos d]
            rw [e, d] at l1
            omega
          · have e : c2 (sC s n c F) p = s 1 c + 1 := by
              show (if p % 13 = 0 then 0 else if p % 13 - 1 = c then s 1 c + 1 else s 1 (p % 13 - 1)) = _
              rw [if_neg d0, if_pos d1]
            have := l2 d0
            rw [e, d1] at this
            omega
        have b := (pq_lt ok).1
        constructor
        · intro e
          rcases p3 p hp with w | ⟨a, r, o, e2, l⟩
          · exact absurd (w.symm.trans e) (m1_ne (by omega))
          · have b2 := (pq_lt o).1
            rw [e2, nI_eq (by omega) (by omega), pq_inj o ok] at e
            obtain ⟨-, ea, er⟩ := e
            subst ea er
            exact absurd l nl
        · rintro ⟨k, hk, e⟩
          obtain ⟨p', a, r, o, e2, l⟩ := p2 k hk
          rw [e2, mq_inj o ok] at e
          obtain ⟨ep, ea, er⟩ := e
          subst ep ea er
          exact absurd l nl
      · have d1 : p / 13 ≠ c := fun w => d (Or.inl w)
        have e1 : c1 (sC s n c F) p = c1 s p := by
          show (if p / 13 = c then s 1 c + 1 else s 1 (p / 13)) = s 1 (p / 13)
          rw [if_neg d1]
        have e2 : c2 (sC s n c F) p = c2 s p := by
          show (if p % 13 = 0 then 0 else if p % 13 - 1 = c then s 1 c + 1 else s 1 (p % 13 - 1)) = if p % 13 = 0 then 0 else s 1 (p % 13 - 1)
          by_cases w : p % 13 = 0
          · rw [if_pos w, if_pos w]
          · rw [if_neg w, if_neg w, if_neg (fun z => d (Or.inr ⟨w, z⟩))]
        rw [e1, e2]
        exact p4 p hp
end
