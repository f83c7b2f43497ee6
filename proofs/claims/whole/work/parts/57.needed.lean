/-! ===== platesNeeded ===== -/
section
variable {S S1 S' : Mem} {ad : Nat → Nat} {A B A' A1 : AM} {n : Nat × Nat} {s : Sta} {m : Nat} {K P : Mem → Prop} {post : Int32 → Mem → Prop} {p q r : Int32} {j i c md : Nat}
/-- the plates behind the first k sides of a job -/
def tk (A : AM) (s : Sta) (j : Nat) : Nat → TT
  | 0 => (gI A 8, s 7, s 0 2)
  | k + 1 => tst (tk A s j k) (jp s j (k / 2) (k % 2)) (jk s j (k / 2) (k % 2)) (jm s j (k / 2) (k % 2))
theorem tst_ge (T : TT) {p q x : Nat} : T.2.2 ≤ (tst T p q x).2.2 := by
  by_cases w : T.1 p = nI q
  · rw [tst_y w]; exact Nat.le_refl _
  · rw [tst_n w]; exact Nat.le_succ _
theorem tk_rng (A : AM) (s : Sta) (j : Nat) : ∀ k, s 0 2 ≤ (tk A s j k).2.2 ∧ (tk A s j k).2.2 ≤ s 0 2 + k
  | 0 => ⟨Nat.le_refl _, Nat.le_refl _⟩
  | k + 1 => by
    have h := tk_rng A s j k
    have h1 := tst_ge (tk A s j k) (p := jp s j (k / 2) (k % 2)) (q := jk s j (k / 2) (k % 2)) (x := jm s j (k / 2) (k % 2))
    have h2 := tst_le (T := tk A s j k) (p := jp s j (k / 2) (k % 2)) (q := jk s j (k / 2) (k % 2)) (x := jm s j (k / 2) (k % 2))
    show s 0 2 ≤ (tst (tk A s j k) (jp s j (k / 2) (k % 2)) (jk s j (k / 2) (k % 2)) (jm s j (k / 2) (k % 2))).2.2 ∧ (tst (tk A s j k) (jp s j (k / 2) (k % 2)) (jk s j (k / 2) (k % 2)) (jm s j (k / 2) (k % 2))).2.2 ≤ s 0 2 + (k + 1)
    omega
theorem tk_old (A : AM) (s : Sta) (j : Nat) : ∀ k i, i < s 0 2 → (tk A s j k).2.1 i = s 7 i
  | 0, _, _ => rfl
  | k + 1, i, hi => by
    have h := tk_rng A s j k
    show (tst (tk A s j k) (jp s j (k / 2) (k % 2)) (jk s j (k / 2) (k % 2)) (jm s j (k / 2) (k % 2))).2.1 i = s 7 i
    by_cases w : (tk A s j k).1 (jp s j (k / 2) (k % 2)) = nI (jk s j (k / 2) (k % 2))
    · rw [tst_y w]; exact tk_old A s j k i hi
    · rw [tst_n w]
      show (if i = (tk A s j k).2.2 then jm s j (k / 2) (k % 2) else (tk A s j k).2.1 i) = s 7 i
      rw [if_neg (by omega)]
      exact tk_old A s j k i hi
theorem tk_pl (I : Inv S ad n A s m) (hj : j < n.1) : ∀ k, k ≤ 2 * cntf (s 3 j) (s 4 j) → PLt (tk A s j k) s
  | 0, _ => ⟨I.vp.2.1, I.vp.2.2.1, I.vp.2.2.2⟩
  | k + 1, hk => by
    obtain ⟨o, e, e2⟩ := I.side hj (i := k / 2) (t := k % 2) (by omega) (by omega)
    show PLt (tst (tk A s j k) (jp s j (k / 2) (k % 2)) (jk s j (k / 2) (k % 2)) (jm s j (k / 2) (k % 2))) s
    rw [e, e2]
    exact (tk_pl I hj k (by omega)).st (fun c hc => I.s99 hc) o.1
theorem tk_has (I : Inv S ad n A s m) (hj : j < n.1) : ∀ k, k ≤ 2 * cntf (s 3 j) (s 4 j) → ∀ p, p < 156 → ((tk A s j k).1 p = nI (pq p (c1 s p) (c2 s p)) ↔ (gI A 8 p = nI (pq p (c1 s p) (c2 s p)) ∨ ∃ i, i < k ∧ jp s j (i / 2) (i % 2) = p))
  | 0, _, p, _ => ⟨fun h => Or.inl h, fun h => by
      rcases h with h | ⟨i, hi, -⟩
      · exact h
      · exact absurd hi (by omega)⟩
  | k + 1, hk, p, hp => by
    obtain ⟨o, e, e2⟩ := I.side hj (i := k / 2) (t := k % 2) (by omega) (by omega)
    have ih := tk_has I hj k (by omega)
    show (tst (tk A s j k) (jp s j (k / 2) (k % 2)) (jk s j (k / 2) (k % 2)) (jm s j (k / 2) (k % 2))).1 p = nI (pq p (c1 s p) (c2 s p)) ↔ _
    by_cases w : (tk A s j k).1 (jp s j (k / 2) (k % 2)) = nI (jk s j (k / 2) (k % 2))
    · rw [tst_y w, ih p hp]
      constructor
      · rintro (h | ⟨i, hi, h⟩)
        · exact Or.inl h
        · exact Or.inr ⟨i, by omega, h⟩
      · rintro (h | ⟨i, hi, h⟩)
        · exact Or.inl h
        · by_cases y : i = k
          · subst y
            rw [e] at w
            rw [← h]
            exact (ih _ o.1).1 w
          · exact Or.inr ⟨i, by omega, h⟩
    · rw [tst_n w]
      show (if p = jp s j (k / 2) (k % 2) then nI (jk s j (k / 2) (k % 2)) else (tk A s j k).1 p) = nI (pq p (c1 s p) (c2 s p)) ↔ _
      by_cases y : p = jp s j (k / 2) (k % 2)
      · rw [if_pos y, e, y]
        exact ⟨fun _ => Or.inr ⟨k, by omega, rfl⟩, fun _ => rfl⟩
      · rw [if_neg y, ih p hp]
        constructor
        · rintro (h | ⟨i, hi, h⟩)
          · exact Or.inl h
          · exact Or.inr ⟨i, by omega, h⟩
        · rintro (h | ⟨i, hi, h⟩)
          · exact Or.inl h
          · by_cases z : i = k
            · subst z; exact absurd h.symm y
            · exact Or.inr ⟨i, by omega, h⟩
theorem sp_pn19 (I : Inv S ad n A s m) (hj : j < n.1) {x : Int32} {px : Nat → Mem → Prop} (hq : post (nI ((tk A s j (2 * cntf (s 3 j) (s 4 j))).2.2 - s 0 2)) S) : ∃ m, wlX6_platesNeeded_19 (ad 0) x (ad (40 + 3 * j)) (nI (2 * cntf (s 3 j) (s 4 j))) post px m (nI 0) (nI 0) S := by
  have h8 := i_lt I hj
  have hs9 : ∀ c, c < 12 → s 1 c ≤ 99 := fun c hc => I.s99 hc
  have key : ∀ m' k, k + m' = 2 * cntf (s 3 j) (s 4 j) → wlX6_platesNeeded_19 (ad 0) x (ad (40 + 3 * j)) (nI (2 * cntf (s 3 j) (s 4 j))) post px (m' + 1) (nI ((tk A s j k).2.2 - s 0 2)) (nI k) S := by
    intro m'
    induction m' with
    | zero =>
      intro k hk
      have e : k = 2 * cntf (s 3 j) (s 4 j) := by omega
      rw [e]
      exact ⟨fun _ => hq, fun z => absurd ((nI_leI (by omega) (by omega)).2 (Nat.le_refl _)) z⟩
    | succ m' ih =>
      intro k hk
      obtain ⟨o, e, e2⟩ := I.side hj (i := k / 2) (t := k % 2) (by omega) (by omega)
      have b := pq_lt o
      have hh := tk_has I hj k (by omega) _ o.1
      have hr := tk_rng A s j k
      have qd : ∀ i, i < k → (ksd (s 1) (s 3 j) (s 4 j) (jpg s j) i = jk s j (k / 2) (k % 2) ↔ jp s j (i / 2) (i % 2) = jp s j (k / 2) (k % 2)) := by
        intro i hi
        obtain ⟨o', e', -⟩ := I.side hj (i := i / 2) (t := i % 2) (by omega) (by omega)
        show jk s j (i / 2) (i % 2) = _ ↔ _
        rw [e', e, pq_inj o' o]
        exact ⟨fun y => y.1, fun y => ⟨y, by rw [y], by rw [y]⟩⟩
      have skip : (gI A 8 (jp s j (k / 2) (k % 2)) = nI (jk s j (k / 2) (k % 2)) ∨ ∃ i, i < k ∧ jp s j (i / 2) (i % 2) = jp s j (k / 2) (k % 2)) → tk A s j (k + 1) = tk A s j k := by
        intro y
        rw [e] at y
        have := hh.2 y
        rw [← e] at this
        exact tst_y this
      refine ⟨fun z => ?_, fun _ => ⟨I.h.k l0, sp_plateSide I.h (jt hj) (I.vj j hj) (st := s 1) (fun c hc => I.vc.co hc) (by omega) ⟨I.h.k l0, ad 7, I.h.r l0 rfl, I.h.k (t := 7) LM, ?_⟩⟩⟩
      · rw [nI_leI (by omega) (by omega)] at z; omega
      · have ek : ksd (s 1) (s 3 j) (s 4 j) (jpg s j) k = jk s j (k / 2) (k % 2) := rfl
        show wpX4_has S (ad 7) (nI (ksd (s 1) (s 3 j) (s 4 j) (jpg s j) k)) _
        rw [ek]
        have hlt : jk s j (k / 2) (k % 2) < 1560000 := by rw [e]; exact b.1
        have hdv : jk s j (k / 2) (k % 2) / 10000 = jp s j (k / 2) (k % 2) := by rw [e]; exact b.2
        refine sp_has I.h hlt (fun y => ⟨fun _ x19 ex => ?_, fun q => absurd q n10⟩) (fun y => ⟨fun q => absurd t0 q, fun _ => ⟨I.h.k l0, sp_isOnEarlierSide I.h (jt hj) (I.vj j hj) (st := s 1) (fun c hc => I.vc.co hc) hs9 (by omega) hlt (fun y2 => ⟨fun _ x24 ex => ?_, fun q => absurd q n10⟩) (fun y2 => ⟨fun q => absurd t0 q, fun _ x25 ex25 x26 ex26 => ?_⟩)⟩⟩)
        · subst ex
          rw [nI_add]
          rw [hdv] at y
          have := ih (k + 1) (by omega)
          rw [skip (Or.inl y)] at this
          exact this
        · subst ex
          rw [nI_add]
          obtain ⟨i, hi, y2⟩ := y2
          have := ih (k + 1) (by omega)
          rw [skip (Or.inr ⟨i, hi, (qd i hi).1 y2⟩)] at this
          exact this
        · subst ex25 ex26
          rw [nI_add, nI_add]
          rw [hdv] at y
          have nh : ¬ (tk A s j k).1 (jp s j (k / 2) (k % 2)) = nI (jk s j (k / 2) (k % 2)) := by
            intro z
            rw [e] at z
            rcases hh.1 z with w | ⟨i, hi, w⟩
            · rw [← e] at w; exact y w
            · exact y2 ⟨i, hi, (qd i hi).2 w⟩
          have e1 : (tk A s j (k + 1)).2.2 = (tk A s j k).2.2 + 1 := by
            show (tst (tk A s j k) (jp s j (k / 2) (k % 2)) (jk s j (k / 2) (k % 2)) (jm s j (k / 2) (k % 2))).2.2 = _
            rw [tst_n nh]
          have := ih (k + 1) (by omega)
          rw [e1, Nat.sub_add_comm hr.1] at this
          exact this
  have := key (2 * cntf (s 3 j) (s 4 j)) 0 (by omega)
  have e0 : (tk A s j 0).2.2 - s 0 2 = 0 := Nat.sub_self _
  rw [e0] at this
  exact ⟨_, this⟩
def MN (A B A' : AM) (s : Sta) (j k : Nat) : Prop := (∀ t, t ≠ 14 → t ≠ 21 → gI A' t = gI B t) ∧ (∀ k, k ≠ 4 → gI A' 14 k = gI B 14 k) ∧ gJ A' = gJ B ∧ gI A' 14 4 = nI (tk A s j k).2.2 ∧ ∀ i, i < (tk A s j k).2.2 → gI A' 21 i = nI ((tk A s j k).2.1 i) ∧ (tk A s j k).2.1 i < 1500000
theorem mm_pn17 (I : Inv S ad n A s m) (hj : j < n.1) (hB : MJ B j (s 3 j) (s 4 j) (jpg s j)) (h15 : ∀ c, c < 12 → gI B 15 c = nI (s 1 c)) (k0 : Rel S' ad n A') (M0 : MN A B A' s j 0) (hq : ∀ S2 A2, Rel S2 ad n (aI A2 14 4 (nI (s 0 2))) → MN A B A2 s j (2 * cntf (s 3 j) (s 4 j)) → post (nI ((tk A s j (2 * cntf (s 3 j) (s 4 j))).2.2 - s 0 2)) S2) : ∃ m, wlX7_platesNeeded_17 (ad 14) (nI j) (nI (s 0 2)) post m (nI 0) S' := by
  have h8 := i_lt I hj
  have hb := I.vb.1
  have key : ∀ m' i S2 A2, i + m' = cntf (s 3 j) (s 4 j) → Rel S2 ad n A2 → MN A B A2 s j (2 * i) → wlX7_platesNeeded_17 (ad 14) (nI j) (nI (s 0 2)) post (m' + 1) (nI i) S2 := by
    intro m'
    induction m' with
    | zero =>
      intro i S2 A2 hi k2 M2
      have e : i = cntf (s 3 j) (s 4 j) := by omega
      subst e
      have hr := tk_rng A s j (2 * cntf (s 3 j) (s 4 j))
      have v : MJ A2 j (s 3 j) (s 4 j) (jpg s j) := hB.ex (M2.1 16 (by decide) (by decide)) (M2.1 17 (by decide) (by decide)) (M2.1 18 (by decide) (by decide))
      refine ⟨k2.k l14, mm_count k2 v ⟨fun _ => ⟨k2.k l14, ?_⟩, fun z => absurd ((nI_leI (by omega) (by omega)).2 (by omega)) z⟩⟩
      rw [k2.i l14, M2.2.2.2.1, pk_sub hr.1]
      rintro x12 rfl S13 rfl
      exact hq _ A2 (k2.sI l14 4 _) M2
    | succ m' ih =>
      intro i S2 A2 hi k2 M2
      have v : MJ A2 j (s 3 j) (s 4 j) (jpg s j) := hB.ex (M2.1 16 (by decide) (by decide)) (M2.1 17 (by decide) (by decide)) (M2.1 18 (by decide) (by decide))
      have st2 : ∀ c, c < 12 → gI A2 15 c = nI (s 1 c) := fun c hc => by rw [M2.1 15 (by decide) (by decide)]; exact h15 c hc
      have hr := tk_rng A s j (2 * i)
      obtain ⟨o0, e0, e00⟩ := I.side hj (i := i) (t := 0) (by omega) (by decide)
      obtain ⟨o1, e1, e11⟩ := I.side hj (i := i) (t := 1) (by omega) (by decide)
      have T1 : tk A s j (2 * i + 1) = tst (tk A s j (2 * i)) (jp s j i 0) (jk s j i 0) (jm s j i 0) := by
        show tst (tk A s j (2 * i)) (jp s j (2 * i / 2) (2 * i % 2)) (jk s j (2 * i / 2) (2 * i % 2)) (jm s j (2 * i / 2) (2 * i % 2)) = _
        rw [show 2 * i / 2 = i by omega, show 2 * i % 2 = 0 by omega]
      have T2' : tk A s j (2 * i + 1 + 1) = tst (tk A s j (2 * i + 1)) (jp s j i 1) (jk s j i 1) (jm s j i 1) := by
        show tst (tk A s j (2 * i + 1)) (jp s j ((2 * i + 1) / 2) ((2 * i + 1) % 2)) (jk s j ((2 * i + 1) / 2) ((2 * i + 1) % 2)) (jm s j ((2 * i + 1) / 2) ((2 * i + 1) % 2)) = _
        rw [show (2 * i + 1) / 2 = i by omega, show (2 * i + 1) % 2 = 1 by omega]
      have hr1 := tk_rng A s j (2 * i + 1)
      have P0 := (tk_pl I hj (2 * i) (by omega)).2.2 _ o0.1
      rw [← e0, ← e00] at P0
      have P1 := (tk_pl I hj (2 * i + 1) (by omega)).2.2 _ o1.1
      rw [← e1, ← e11] at P1
      have x0 : jm s j i 0 < 1500000 := by rw [e00]; exact (mq_lt o0).2
      have x1 : jm s j i 1 < 1500000 := by rw [e11]; exact (mq_lt o1).2
      refine ⟨k2.k l14, mm_count k2 v ⟨fun z => ?_, fun _ => ⟨k2.k l14, mm_plateOf k2 v st2 (s := 0) (by omega) (Or.inl ⟨rfl, n10⟩) ⟨k2.k l14, mm_mkT k2 (tk A s j (2 * i)) M2.2.2.2.1 (by omega) M2.2.2.2.2 x0 P0 fun S3 A3 k3 y4 y21 yo y14 yJ => ⟨k3.k l14, ?_⟩⟩⟩⟩⟩
      · rw [nI_leI (by omega) (by omega)] at z; omega
      · rw [← T1] at y4 y21
        have v3 : MJ A3 j (s 3 j) (s 4 j) (jpg s j) := v.ex (yo 16 (by decide) (by decide)) (yo 17 (by decide) (by decide)) (yo 18 (by decide) (by decide))
        refine mm_plateOf k3 v3 (s := 1) (st := s 1) (fun c hc => by rw [yo 15 (by decide) (by decide)]; exact st2 c hc) (by omega) (Or.inr ⟨rfl, t0⟩) ⟨k3.k l14, mm_mkT k3 (tk A s j (2 * i + 1)) y4 (by omega) y21 x1 P1 fun S4 A4 k4 z4 z21 zo z14 zJ => ?_⟩
        rw [← T2'] at z4 z21
        rintro x26 rfl
        rw [nI_add]
        refine ih (i + 1) S4 A4 (by omega) k4 ⟨fun t h1 h2 => by rw [zo t h1 h2, yo t h1 h2, M2.1 t h1 h2], fun k hk => by rw [z14 k hk, y14 k hk, M2.2.1 k hk], by rw [zJ, yJ, M2.2.2.1], z4, z21⟩
  exact ⟨_, key (cntf (s 3 j) (s 4 j)) 0 S' A' (by omega) k0 M0⟩
theorem op_platesNeeded (I : Inv S ad n A s m) (hm : m < 512) (hK : nxt ad m K) (hp : ∀ x S1, mcJ (fun S g => wpX7_platesNeeded S (ad 14) p g) ad K P x S1 → post x S1) : wpL_platesNeeded S (ad 0) p (ad 29) post := by
  have hn := I.h.2.2.1
  refine ⟨I.h.k l0, I.h.k l0, sp_completeJob I.h I.cj I.vj (fun j hj e w => ⟨_, rfl, I.h.jk (jt hj), sp_sheetCount I.h (jt hj) (I.vj j hj) fun x8 e8 => ?_⟩) (fun j hj e w => ⟨fun q => absurd q (by decide), fun _ => hp _ _ ?_, Or.inr rfl⟩) (fun z => ⟨fun _ => hp _ _ ?_, fun q => absurd q (by decide), Or.inl rfl⟩)⟩
  · subst e
    subst e8
    rw [pk_mul]
    refine sp_pn19 I hj (put_out I.h fun S1 k1 => hp _ _ ⟨k1.k l14, k1.k l14, mj_yes I k1 (RO.out _ (s 0 2) _) hj w fun S2 k2 => ⟨fun _ => ⟨k2.k l14, ?_⟩, fun q => absurd q n10⟩⟩)
    generalize hd : (tk A s j (2 * cntf (s 3 j) (s 4 j))).2.2 - s 0 2 = d at k1 k2
    have x2 := (RO.out A (s 0 2) (nI d).toInt64).tr (RO.thr _ _ (nI 0))
    intro x6 e6
    rw [k2.i l14, x2.2.1 4 (by decide), I.vm.1.2.2.2.1] at e6
    subst e6
    refine mm_pn17 I hj (B := aI (aJ A 29 0 (nI d).toInt64) 14 0 (nI 0)) (I.mjs x2 j hj) (fun c hc => by rw [x2.1 15 (by decide)]; exact I.vm.2.2.1 c hc) k2 ⟨fun _ _ _ => rfl, fun _ _ => rfl, rfl, ?_, fun i hi => ⟨?_, ?_⟩⟩ fun S3 A3 k3 M => ?_
    · rw [x2.2.1 4 (by decide)]; exact I.vm.1.2.2.2.1
    · rw [x2.2.2.1 i hi]; exact I.vm.2.2.2.2.2.2.2.2.1 i hi
    · obtain ⟨p, a, r, o, e, -⟩ := I.vp.2.1 i hi
      show s 7 i < 1500000
      rw [e]
      exact (mq_lt o).2
    · obtain ⟨M1, M2, M3, M4, M5⟩ := M
      have hr := tk_rng A s j (2 * cntf (s 3 j) (s 4 j))
      have x3 : RO A (aI A3 14 4 (nI (s 0 2))) (s 0 2) := by
        refine ⟨fun t ht => ?_, fun k hk => ?_, fun k hk => ?_, fun t ht => ?_⟩
        · rw [gI_aIu _ _ _ _ _ (by omega), M1 t (by omega) (by omega)]; exact x2.1 t ht
        · rw [gI_if]
          by_cases y : k = 4
          · subst y; rw [if_pos ⟨rfl, rfl⟩]; exact I.vm.1.2.2.2.1.symm
          · rw [if_neg (fun z => y z.2), M2 k y]; exact x2.2.1 k hk
        · rw [gI_aIu _ _ _ _ _ (by decide), (M5 k (by omega)).1, tk_old A s j _ k hk]
          exact (I.vm.2.2.2.2.2.2.2.2.1 k hk).symm
        · rw [gJ_aI, M3]; exact x2.2.2.2 t ht
      refine cmp_end k3 (x := 0) (by decide) ?_ (fun _ => ?_) (I.go hm hK k3 x3)
      · rw [gI_aIk _ _ _ _ _ (by decide), M2 0 (by decide), gI_aI]
      · rw [gJ_aI, M3, gJ_aI, gJ_aJ, hd]
  · subst e
    exact ⟨I.h.k l14, I.h.k l14, mj_inc I I.h (RO.rf _ (s 0 2)) hj w fun S2 k2 => ⟨fun q => absurd t0 q, fun _ => fail_end I hm hK (x := 2) (by decide) (by decide) k2 (RO.thr _ _ _) (gI_aI _ _ _ _)⟩⟩
  · exact ⟨I.h.k l14, I.h.k l14, mj_no I I.h (RO.rf _ (s 0 2)) z fun S2 k2 => ⟨fun q => absurd t0 q, fun _ => fail_end I hm hK (x := 1) (by decide) (by decide) k2 (RO.thr _ _ _) (gI_aI _ _ _ _)⟩⟩
end
