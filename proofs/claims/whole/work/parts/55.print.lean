/-! ===== print ===== -/
section
variable {S S1 S' : Mem} {ad : Nat → Nat} {A B A' A1 : AM} {n : Nat × Nat} {s : Sta} {m : Nat} {K P : Mem → Prop} {post : Int32 → Mem → Prop} {p q r : Int32} {j i c b np : Nat} {pg ap : Nat → Nat} {T : TT}
/-- the reference's print, behind its checks -/
def prD (S13 : Mem) (a0 : Nat) (p1 : Int32) (p2 : Int32) (p3 : Int32) (post : Int32 → Mem → Prop) : Prop := isK S13 a0 7 ∧ (wpX7_ready S13 a0 p1 p2 (fun x20 S18 => isK S18 a0 7 ∧ (wpX7_plateOf S18 a0 p1 p2 (nI 1) (fun x23 S21 => isK S21 a0 7 ∧ (∀ S25 : Mem, S25 = (sI S21 a0 7 x23) → (wpX7_plateOf S25 a0 p1 p2 (nI 0) (fun x27 S26 => isK S26 a0 7 ∧ (∀ S29 : Mem, S29 = (sI S26 a0 8 x27) → (∃ o30, mR S29 a0 13 = some o30 ∧ (isK S29 o30 8 ∧ (vp_in p1 (mN S29 o30) ∧ (∀ x33 : Int32, x33 = (mI S29 o30 p1.toNatClampNeg) → (∀ S34 : Mem, S34 = (sI S29 a0 9 x33) → (wpX7_makes S34 a0 (mI S34 a0 7) (fun u36 S35 => isK S35 a0 7 ∧ (wpX7_makes S35 a0 (mI S35 a0 8) (fun u39 S38 => isK S38 a0 7 ∧ (∃ o41, mR S38 a0 16 = some o41 ∧ (isK S38 o41 8 ∧ (vp_in (((nI 8) * p1) + p2) (mN S38 o41) ∧ (∀ x44 : Int32, x44 = ((mI S38 o41 (((nI 8) * p1) + p2).toNatClampNeg) + p3) → (vp_in (((nI 8) * p1) + p2) (mN S38 o41) ∧ (∀ S46 : Mem, S46 = (sI S38 o41 (((nI 8) * p1) + p2).toNatClampNeg x44) → (∀ S47 : Mem, S47 = (sJ S46 a0 11 ((mJ S46 a0 11) + p3.toInt64)) → (∀ x48 : Int32, x48 = ((mI S47 a0 5) + (nI 1)) → (∀ S49 : Mem, S49 = (sI S47 a0 5 x48) → (∀ x50 : Int32, x50 = ((mI S49 a0 6) + x20) → (∀ S51 : Mem, S51 = (sI S49 a0 6 x50) → (post x20 S51)))))))))))))))))))))))))))))
theorem mm_pr57 (k : Rel S ad n A) (v : MJ A j b np pg) (hi : i < cntf b np) (ha : ∀ c, c < 12 → gI A 20 c = nI (ap c) ∧ ap c ≤ 1) {f : Nat} (hf : f ≤ 1) (h1 : f = 1 → (∀ p, p < plc b → ap (conOn b np pg i p) = 1) → prD S (ad 14) (nI j) (nI i) r post) (h0 : ¬ (f = 1 ∧ ∀ p, p < plc b → ap (conOn b np pg i p) = 1) → ∀ S', Rel S' ad n (aI A 14 0 (nI 5)) → post (nI 0) S') : ∃ m, wlX7_print_57 (ad 14) (nI j) (nI i) r post m (nI f) (nI 0) S := by
  have hpl := plc_pos b
  have key0 : ¬ (f = 1 ∧ ∀ p, p < plc b → ap (conOn b np pg i p) = 1) → ∀ m p, p + m = plc b → wlX7_print_57 (ad 14) (nI j) (nI i) r post (m + 1) (nI 0) (nI p) S := by
    intro hN m
    induction m with
    | zero =>
      intro p hp
      exact ⟨k.k l14, mm_places k v ⟨fun _ => ⟨fun q => absurd t0 q, fun _ => ⟨k.k l14, mm_fails k (h0 hN)⟩⟩, fun z => absurd ((nI_leI (by omega) (by omega)).2 (by omega)) z⟩⟩
    | succ m ih =>
      intro p hp
      refine ⟨k.k l14, mm_places k v ⟨fun z => ?_, fun _ => ⟨fun _ x56 e => ?_, fun q => absurd t0 q⟩⟩⟩
      · rw [nI_leI (by omega) (by omega)] at z; omega
      · subst e
        rw [nI_add]
        exact ih (p + 1) (by omega)
  have key1 : f = 1 → ∀ m p, p + m = plc b → (∀ p', p' < p → ap (conOn b np pg i p') = 1) → wlX7_print_57 (ad 14) (nI j) (nI i) r post (m + 1) (nI 1) (nI p) S := by
    intro hf1 m
    induction m with
    | zero =>
      intro p hp hq
      exact ⟨k.k l14, mm_places k v ⟨fun _ => ⟨fun _ => h1 hf1 (fun p' hp' => hq p' (by omega)), fun q => absurd q n10⟩, fun z => absurd ((nI_leI (by omega) (by omega)).2 (by omega)) z⟩⟩
    | succ m ih =>
      intro p hp hq
      have hc := conOn_ltM v hi (show p < plc b by omega)
      obtain ⟨f20, v20⟩ := rd k (t := 20) (k := conOn b np pg i p) (by decide) (show conOn b np pg i p < 12 from hc)
      rw [(ha _ hc).1] at v20
      have ha1 := (ha _ hc).2
      refine ⟨k.k l14, mm_places k v ⟨fun z => ?_, fun _ => ⟨fun q => absurd q n10, fun _ => ⟨k.k l14, ad 20, k.r l14 rfl, mm_contentOn k v hi (by omega) ⟨k.k (t := 20) LM, f20, ?_⟩⟩⟩⟩⟩
      · rw [nI_leI (by omega) (by omega)] at z; omega
      · rw [v20]
        refine ⟨fun z x64 e => ?_, fun z x65 e => ?_⟩
        · subst e
          rw [nI_add]
          have z' : ap (conOn b np pg i p) = 0 := (nI_eq (by omega) (by decide)).1 z
          exact key0 (fun y => by have := y.2 p (by omega); omega) m (p + 1) (by omega)
        · subst e
          rw [nI_add]
          refine ih (p + 1) (by omega) fun p' hp' => ?_
          by_cases y : p' = p
          · subst y
            have : ap (conOn b np pg i p') ≠ 0 := fun y => z (by rw [y]; rfl)
            omega
          · exact hq p' (by omega)
  have hf2 : f = 0 ∨ f = 1 := by omega
  rcases hf2 with e | e
  · subst e
    exact ⟨_, key0 (fun y => absurd y.1 (by decide)) (plc b) 0 (by omega)⟩
  · subst e
    exact ⟨_, key1 rfl (plc b) 0 (by omega) fun p' hp' => absurd hp' (by omega)⟩
/-- what a print leaves -/
def sPr (s : Sta) (j i c mn : Nat) (T : TT) : Sta := fun t k =>
  if t = 0 then (if k = 2 then T.2.2 else if k = 3 then s 0 3 + 1 else if k = 4 then s 0 4 + mn else if k = 6 then s 0 6 + c else if k = 7 then jm s j i 0 else if k = 8 then jm s j i 1 else if k = 9 then s 3 j else s 0 k)
  else if t = 6 then (if k = 8 * j + i then s 6 k + c else s 6 k) else if t = 7 then T.2.1 k else s t k
theorem inv_print (I : Inv S ad n A s m) (hm : m < 512) (hj : j < n.1) (w : whl (s 3 j) (s 4 j)) (hi : i < cntf (s 3 j) (s 4 j)) (hc : c ≤ 500) (hst : s 6 (8 * j + i) + c ≤ 9999) {mn : Nat} (hmn : mn ≤ 55) (hT : PLt T s) (hT2 : T.2.2 ≤ s 0 2 + 2) (k : Rel S1 ad n A')
    (e0 : ∀ t, t ≠ 6 → t ≠ 7 → t ≠ 8 → t ≠ 14 → t ≠ 19 → t ≠ 21 → t ≠ 40 + 3 * j + 2 → gI A' t = gI A t)
    (e60 : gI A' 6 0 = nI (jk s j i 0)) (e61 : gI A' 6 1 = nI (jk s j i 1)) (e62 : gI A' 6 2 = nI (s 3 j)) (e71 : gI A' 7 1 = nI T.2.2) (e8 : gI A' 8 = T.1)
    (em : ∀ k, 1 ≤ k → k < 4 → gI A' 14 k = gI A 14 k) (em4 : gI A' 14 4 = nI T.2.2) (em5 : gI A' 14 5 = nI (s 0 3 + 1)) (em6 : gI A' 14 6 = nI (s 0 4 + mn)) (em7 : gI A' 14 7 = nI (jm s j i 0)) (em8 : gI A' 14 8 = nI (jm s j i 1)) (em9 : gI A' 14 9 = nI (s 3 j))
    (e21 : ∀ k, k < T.2.2 → gI A' 21 k = nI (T.2.1 k)) (e19 : ∀ q, q < 32 → gI A' 19 q = nI (if q = 8 * j + i then s 6 q + c else s 6 q)) (eu2 : ∀ k, k < 8 → gI A' (40 + 3 * j + 2) k = nI (if k = i then s 6 (8 * j + k) + c else s 6 (8 * j + k)))
    (j8 : gJ A' 0 8 = gJ A 0 8) (j9 : gJ A' 0 9 = lN (s 0 6 + c)) (j10 : gJ A' 0 10 = lN (s 0 3 + 1)) (j11 : gJ A' 0 11 = lN (s 0 4 + mn)) (jm10 : gJ A' 14 10 = gJ A 14 10) (jm11 : gJ A' 14 11 = lN (s 0 6 + c)) : Inv S1 ad n A' (sPr s j i c mn T) (m + 1) := by
  obtain ⟨⟨b1, b2, b3, b4, b5, b6, b7, b8⟩, b9, b10, b11, b12, b13, b14, b15, b16⟩ := I.vb
  have h4 : n.1 ≤ 4 := I.h.2.2.1
  have h8 := i_lt I hj
  have E : ∀ t, t < 6 ∨ (9 ≤ t ∧ t < 14) ∨ (15 ≤ t ∧ t < 19) ∨ t = 20 ∨ (22 ≤ t ∧ t < 40) ∨ 60 ≤ t → gI A' t = gI A t := fun t h => e0 t (by omega) (by omega) (by omega) (by omega) (by omega) (by omega) (by omega)
  refine ⟨k, ?_, ?_, ?_, ?_⟩
  · obtain ⟨⟨a1, a2, a3, a4, a5⟩, ⟨f1, f2, f3, f4⟩, c2', c3', c4', cj, cl'⟩ := I.vc
    refine ⟨⟨?_, ?_, ?_, ?_, e71⟩, ⟨j8.trans f1, j9, j10, j11⟩, ?_, ?_, ?_, fun l hl => ?_, fun l hl => ?_⟩
    · rw [E 1 (by omega)]; exact a1
    · rw [E 1 (by omega)]; exact a2
    · rw [E 0 (by omega)]; exact a3
    · rw [E 0 (by omega)]; exact a4
    · rw [E 2 (by omega)]; exact c2'
    · rw [E 3 (by omega)]; exact c3'
    · rw [E 4 (by omega)]; exact c4'
    · show VJ A' (40 + 3 * l) (s 3 l) (s 4 l) (fun k => s 5 (16 * l + k)) (fun k => if 8 * l + k = 8 * j + i then s 6 (8 * l + k) + c else s 6 (8 * l + k))
      obtain ⟨h1, h2, h3, h4', h5, h6⟩ := cj l hl
      have E1 : gI A' (40 + 3 * l) = gI A (40 + 3 * l) := e0 _ (by omega) (by omega) (by omega) (by omega) (by omega) (by omega) (by omega)
      have E2 : gI A' (40 + 3 * l + 1) = gI A (40 + 3 * l + 1) := e0 _ (by omega) (by omega) (by omega) (by omega) (by omega) (by omega) (by omega)
      refine ⟨by rw [E1]; exact h1, h2, by rw [E1]; exact h3, h4', by rw [E2]; exact h5, fun k hk => ?_⟩
      show gI A' (40 + 3 * l + 2) k = nI (if 8 * l + k = 8 * j + i then s 6 (8 * l + k) + c else s 6 (8 * l + k)) ∧ (if 8 * l + k = 8 * j + i then s 6 (8 * l + k) + c else s 6 (8 * l + k)) ≤ 9999
      by_cases y : l = j
      · subst y
        by_cases g : k = i
        · have := eu2 k hk
          rw [if_pos g] at this
          subst g
          rw [if_pos rfl]
          exact ⟨this, hst⟩
        · have := eu2 k hk
          rw [if_neg g] at this
          rw [if_neg (by omega)]
          exact ⟨this, (h6 k hk).2⟩
      · rw [if_neg (by omega), e0 _ (by omega) (by omega) (by omega) (by omega) (by omega) (by omega) (by omega)]
        exact h6 k hk
    · show VL A' (60 + 3 * l) (s 9 l) (s 10 l) (s 13 l) (fun k => s 5 (16 * s 8 l + k)) (fun k => s 11 (16 * l + k))
      have := cl' l hl
      unfold VL at this ⊢
      rw [E (60 + 3 * l) (by omega), E (60 + 3 * l + 1) (by omega), E (60 + 3 * l + 2) (by omega)]
      exact this
  · obtain ⟨⟨a1, a2, a3, a4, a5, a6, a7, a8, a9⟩, ⟨f1, f2⟩, d1, d2, d3, d4, d5, d6, d7, d8⟩ := I.vm
    refine ⟨⟨(em 1 (by decide) (by decide)).trans a1, (em 2 (by decide) (by decide)).trans a2, (em 3 (by decide) (by decide)).trans a3, em4, em5, em6, em7, em8, em9⟩, ⟨jm10.trans f1, jm11⟩, ?_, ?_, ?_, ?_, ?_, e19, e21, ?_⟩
    · rw [E 15 (by omega)]; exact d1
    · rw [E 20 (by omega)]; exact d2
    · rw [E 16 (by omega)]; exact d3
    · rw [E 17 (by omega)]; exact d4
    · rw [E 18 (by omega)]; exact d5
    · rw [E 25 (by omega), E 26 (by omega), E 27 (by omega), E 28 (by omega)]; exact d8
  · refine ⟨⟨b1, Nat.le_succ_of_le b2, ?_, Nat.succ_le_succ b4, ?_, ?_, ?_, by omega⟩, b9, b10, b11, b12, b13, b14, fun l hl k hk => ?_, b16⟩
    · show T.2.2 ≤ 2 * (s 0 3 + 1); omega
    · show s 0 4 + mn ≤ 55 * (m + 1); omega
    · show s 0 5 ≤ 320000 * (m + 1); omega
    · show s 0 6 + c ≤ 500 * (m + 1); omega
    · show (if 8 * l + k = 8 * j + i then s 6 (8 * l + k) + c else s 6 (8 * l + k)) ≤ 9999 ∧ (¬ (l < n.1 ∧ whl (s 3 l) (s 4 l) ∧ k < cntf (s 3 l) (s 4 l)) → (if 8 * l + k = 8 * j + i then s 6 (8 * l + k) + c else s 6 (8 * l + k)) = 0)
      by_cases y : 8 * l + k = 8 * j + i
      · have e1 : l = j := by omega
        have e2 : k = i := by omega
        subst e1 e2
        rw [if_pos rfl]
        exact ⟨hst, fun z => absurd ⟨hj, w, hi⟩ z⟩
      · rw [if_neg y]; exact b15 l hl k hk
  · have hb := b11 j hj
    have hs9 : ∀ c, c < 12 → s 1 c ≤ 99 := fun c hc => (b9 c hc).1
    obtain ⟨o0, k0, m0⟩ := I.side hj hi (t := 0) (by decide)
    obtain ⟨o1, k1, m1⟩ := I.side hj hi (t := 1) (by decide)
    unfold VP
    rw [e8, e60, e61, e62]
    refine ⟨⟨Or.inr ⟨jp s j i 0, _, _, o0, m0, by rw [k0]⟩, Or.inr ⟨jp s j i 1, _, _, o1, m1, by rw [k1]⟩, ?_, Or.inr hb⟩, hT.1, hT.2.1, hT.2.2⟩
    show nI (s 3 j) = nI (if s 3 j = 0 then 32 else s 3 j)
    rw [if_neg]
    rcases hb with e | e | e <;> omega
theorem mm_prD (k : Rel S ad n A) (v : MJ A j b np pg) {st : Nat → Nat} (hst : ∀ c, c < 12 → gI A 15 c = nI (st c)) (hsl : ∀ c, c < 12 → st c < 100) {f g o : Nat} (hf : gI A 14 7 = nI f) (hf2 : f < 1500000) (hg : gI A 14 8 = nI g) (hg2 : g < 1500000) (ho : gI A 14 9 = nI o) (ho2 : o < 200) (hi : i < cntf b np) (hi8 : i < 8)
    (hm : gI A 14 4 = nI T.2.2) (hm2 : T.2.2 < 1099) (hpl : ∀ k, k < T.2.2 → gI A 21 k = nI (T.2.1 k) ∧ T.2.1 k < 1500000) {p0 q0 p1 q1 : Nat} (hs0 : T.1 p0 = nI q0 ↔ made T.2.1 T.2.2 (mpl st b np pg i 0)) (hs1 : (tst T p0 q0 (mpl st b np pg i 0)).1 p1 = nI q1 ↔ made (tst T p0 q0 (mpl st b np pg i 0)).2.1 (tst T p0 q0 (mpl st b np pg i 0)).2.2 (mpl st b np pg i 1))
    {u pr mi pd mn : Nat} (hu : gI A 19 (8 * j + i) = nI u) (hpr : gI A 14 5 = nI pr) (hmi : gI A 14 6 = nI mi) (hpd : gJ A 14 11 = lN pd) (hc : c < 2147483648) (hmn : rdy f g o (mpl st b np pg i 0) (mpl st b np pg i 1) b = mn)
    (hq : ∀ S2 A2, Rel S2 ad n A2 → (∀ t, t ≠ 14 → t ≠ 19 → t ≠ 21 → gI A2 t = gI A t) → (∀ k, k < 4 → gI A2 14 k = gI A 14 k) → gI A2 14 4 = nI (tst (tst T p0 q0 (mpl st b np pg i 0)) p1 q1 (mpl st b np pg i 1)).2.2 → gI A2 14 5 = nI (pr + 1) → gI A2 14 6 = nI (mi + mn) → gI A2 14 7 = nI (mpl st b np pg i 0) → gI A2 14 8 = nI (mpl st b np pg i 1) → gI A2 14 9 = nI b →
      (∀ k, k < (tst (tst T p0 q0 (mpl st b np pg i 0)) p1 q1 (mpl st b np pg i 1)).2.2 → gI A2 21 k = nI ((tst (tst T p0 q0 (mpl st b np pg i 0)) p1 q1 (mpl st b np pg i 1)).2.1 k)) → (∀ q, gI A2 19 q = if q = 8 * j + i then nI (u + c) else gI A 19 q) → (∀ t k, gJ A2 t k = if t = 14 ∧ k = 11 then lN (pd + c) else gJ A t k) → post (nI mn) S2) : prD S (ad 14) (nI j) (nI i) (nI c) post := by
  have hj := v.1
  have x0 := mpl_lt v hsl hi (s := 0) (by decide)
  have x1 := mpl_lt v hsl hi (s := 1) (by decide)
  refine ⟨k.k l14, mm_ready k v hst hsl hf hf2 hg hg2 ho ho2 hi ?_⟩
  rw [hmn]
  refine ⟨k.k l14, mm_plateOf k v hst (s := 0) hi (Or.inl ⟨rfl, n10⟩) ⟨k.k l14, ?_⟩⟩
  rintro S25 rfl
  have k1 := k.sI l14 7 (nI (mpl st b np pg i 0))
  have v1 : MJ (aI A 14 7 (nI (mpl st b np pg i 0))) j b np pg := v.st (by decide) (by decide) (by decide)
  refine mm_plateOf k1 v1 (s := 1) (st := st) (fun c hc => by rw [gI_aIu _ _ _ _ _ (by decide)]; exact hst c hc) hi (Or.inr ⟨rfl, t0⟩) ⟨k1.k l14, ?_⟩
  rintro S29 rfl
  have k2 := k1.sI l14 8 (nI (mpl st b np pg i 1))
  obtain ⟨f16, v16⟩ := rd k2 (t := 16) (k := j) (by decide) (show j < 4 by omega)
  rw [gI_aIu _ _ _ _ _ (by decide), gI_aIu _ _ _ _ _ (by decide), v.2.1] at v16
  refine ⟨ad 16, k2.r l14 rfl, k2.k (t := 16) LM, f16, ?_⟩
  rw [v16]
  rintro x33 rfl S34 rfl
  have k3 := k2.sI l14 9 (nI b)
  rw [k3.i l14, gI_aIk _ _ _ _ _ (by decide), gI_aIk _ _ _ _ _ (by decide), gI_aI]
  refine mm_mkT k3 T (by rw [gI_aIk _ _ _ _ _ (by decide), gI_aIk _ _ _ _ _ (by decide), gI_aIk _ _ _ _ _ (by decide)]; exact hm) (by omega) (fun k hk => by rw [gI_aIu _ _ _ _ _ (by decide), gI_aIu _ _ _ _ _ (by decide), gI_aIu _ _ _ _ _ (by decide)]; exact hpl k hk) x0.2 hs0 fun S4 A4 k4 y4 y21 yo y14 yJ => ⟨k4.k l14, ?_⟩
  rw [k4.i l14, y14 8 (by decide), gI_aIk _ _ _ _ _ (by decide), gI_aI]
  have hle := tst_le (T := T) (p := p0) (q := q0) (x := mpl st b np pg i 0)
  refine mm_mkT k4 _ y4 (by omega) y21 x1.2 hs1 fun S5 A5 k5 z4 z21 zo z14 zJ => ⟨k5.k l14, ?_⟩
  have g19 : ∀ q, gI A5 19 q = gI A 19 q := by
    intro q
    rw [zo 19 (by decide) (by decide), yo 19 (by decide) (by decide), gI_aIu _ _ _ _ _ (by decide), gI_aIu _ _ _ _ _ (by decide), gI_aIu _ _ _ _ _ (by decide)]
  have g14 : ∀ k, k ≠ 4 → gI A5 14 k = if k = 9 then nI b else if k = 8 then nI (mpl st b np pg i 1) else if k = 7 then nI (mpl st b np pg i 0) else gI A 14 k := by
    intro k hk
    rw [z14 k hk, y14 k hk, gI_if, gI_if, gI_if]
    by_cases w9 : k = 9
    · rw [if_pos ⟨rfl, w9⟩, if_pos w9]
    · rw [if_neg (fun y => w9 y.2), if_neg w9]
      by_cases w8 : k = 8
      · rw [if_pos ⟨rfl, w8⟩, if_pos w8]
      · rw [if_neg (fun y => w8 y.2), if_neg w8]
        by_cases w7 : k = 7
        · rw [if_pos ⟨rfl, w7⟩, if_pos w7]
        · rw [if_neg (fun y => w7 y.2), if_neg w7]
  have gJ5 : gJ A5 = gJ A := by rw [zJ, yJ, gJ_aI, gJ_aI, gJ_aI]
  obtain ⟨f19, v19⟩ := rd k5 (t := 19) (k := 8 * j + i) (by decide) (show 8 * j + i < 32 by omega)
  rw [g19, hu] at v19
  refine ⟨ad 19, k5.r l14 rfl, k5.k (t := 19) LM, ?_⟩
  rw [pk_mul, nI_add]
  refine ⟨f19, ?_⟩
  rw [v19, nI_add]
  rintro x44 rfl
  refine ⟨f19, ?_⟩
  rintro S46 rfl
  rw [nI_clamp (by omega)]
  have k6 := k5.sI (LM (t := 19)) (8 * j + i) (nI (u + c))
  intro S47 e47
  have e11 : mJ (sI S5 (ad 19) (8 * j + i) (nI (u + c))) (ad 14) 11 + (nI c).toInt64 = lN (pd + c) := by rw [k6.j l14, gJ_aI, gJ5, hpd, i2l hc, lN_add]
  rw [e11] at e47
  subst e47
  have k7 := k6.sJ l14 11 (lN (pd + c))
  intro x48 e48
  rw [k7.i l14, gI_aJ, gI_aIu _ _ _ _ _ (by decide), g14 5 (by decide), if_neg (by decide), if_neg (by decide), if_neg (by decide), hpr, nI_add] at e48
  subst e48
  rintro S49 rfl
  have k8 := k7.sI l14 5 (nI (pr + 1))
  intro x50 e50
  rw [k8.i l14, gI_aIk _ _ _ _ _ (by decide), gI_aJ, gI_aIu _ _ _ _ _ (by decide), g14 6 (by decide), if_neg (by decide), if_neg (by decide), if_neg (by decide), hmi, nI_add] at e50
  subst e50
  rintro S51 rfl
  have k9 := k8.sI l14 6 (nI (mi + mn))
  have F14 : ∀ k, k ≠ 5 → k ≠ 6 → gI (aI (aI (aJ (aI A5 19 (8 * j + i) (nI (u + c))) 14 11 (lN (pd + c))) 14 5 (nI (pr + 1))) 14 6 (nI (mi + mn))) 14 k = gI A5 14 k := by
    intro k h5 h6
    rw [gI_aIk _ _ _ _ _ h6, gI_aIk _ _ _ _ _ h5, gI_aJ, gI_aIu _ _ _ _ _ (by decide)]
  refine hq _ _ k9 ?_ ?_ ?_ ?_ ?_ ?_ ?_ ?_ ?_ ?_ ?_
  · intro t h14 h19 h21
    rw [gI_aIu _ _ _ _ _ h14, gI_aIu _ _ _ _ _ h14, gI_aJ, gI_aIu _ _ _ _ _ h19, zo t h14 h21, yo t h14 h21, gI_aIu _ _ _ _ _ h14, gI_aIu _ _ _ _ _ h14, gI_aIu _ _ _ _ _ h14]
  · intro k hk
    rw [F14 k (by omega) (by omega), g14 k (by omega), if_neg (by omega), if_neg (by omega), if_neg (by omega)]
  · rw [F14 4 (by decide) (by decide)]; exact z4
  · rw [gI_aIk _ _ _ _ _ (by decide), gI_aI]
  · rw [gI_aI]
  · rw [F14 7 (by decide) (by decide), g14 7 (by decide), if_neg (by decide), if_neg (by decide), if_pos rfl]
  · rw [F14 8 (by decide) (by decide), g14 8 (by decide), if_neg (by decide), if_pos rfl]
  · rw [F14 9 (by decide) (by decide), g14 9 (by decide), if_pos rfl]
  · intro k hk
    rw [gI_aIu _ _ _ _ _ (by decide), gI_aIu _ _ _ _ _ (by decide), gI_aJ, gI_aIu _ _ _ _ _ (by decide)]
    exact (z21 k hk).1
  · intro q
    rw [gI_aIu _ _ _ _ _ (by decide), gI_aIu _ _ _ _ _ (by decide), gI_aJ, gI_if, g19]
    by_cases w : q = 8 * j + i
    · rw [if_pos ⟨rfl, w⟩, if_pos w]
    · rw [if_neg (fun y => w y.2), if_neg w]
  · intro t k
    rw [gJ_aI, gJ_aI, gJ_if, gJ_aI, gJ5]
end
