/-! ===== the calls that leave all as it was: what each answers, whatever is asked ===== -/
section
variable {S S1 S' : Mem} {ad : Nat → Nat} {A A' B A1 : AM} {n : Nat × Nat} {s : Sta} {m : Nat} {post : Int32 → Mem → Prop} {p q r : Int32} {j i k l c : Nat} {b np x : Nat} {pg : Nat → Nat}
/-- nothing but scratch cells differs -/
def RO (A A' : AM) : Prop := (∀ t, t ≠ 9 → t ≠ 10 → t ≠ 11 → t ≠ 12 → gI A' t = gI A t) ∧ gJ A' = gJ A
theorem RO.rf (A : AM) : RO A A := ⟨fun _ _ _ _ _ => rfl, rfl⟩
theorem RO.tr (h : RO A A') (k : RO A' B) : RO A B := ⟨fun t a b c d => (k.1 t a b c d).trans (h.1 t a b c d), k.2.trans h.2⟩
theorem RO.o (e : ExO A A') : RO A A' := ⟨e.1, e.2.1⟩
theorem RO.e12 (e : Ex A A' 12) : RO A A' := ⟨fun t _ _ _ h => e.1 t h, e.2.1⟩
theorem Inv.h (I : Inv S ad n A s m) : Rel S ad n A := I.1
theorem Inv.vc (I : Inv S ad n A s m) : VC A n s := I.2.1
theorem Inv.vb (I : Inv S ad n A s m) : VB n s m := I.2.2.1
theorem Inv.vp (I : Inv S ad n A s m) : VP A s := I.2.2.2
theorem Inv.nc (I : Inv S ad n A s m) : s 0 0 ≤ 12 := I.vb.1.1
theorem Inv.ro (I : Inv S ad n A s m) (h : Rel S' ad n A') (x : RO A A') : Inv S' ad n A' s m := by
  obtain ⟨-, vc, vb, vp⟩ := I
  obtain ⟨x1, x4⟩ := x
  refine ⟨h, ?_, vb, ?_⟩
  · unfold VC
    rw [x1 1 (by decide) (by decide) (by decide) (by decide), x1 0 (by decide) (by decide) (by decide) (by decide), x1 7 (by decide) (by decide) (by decide) (by decide), x4, x1 2 (by decide) (by decide) (by decide) (by decide), x1 3 (by decide) (by decide) (by decide) (by decide), x1 4 (by decide) (by decide) (by decide) (by decide)]
    refine ⟨vc.1, vc.2.1, vc.2.2.1, vc.2.2.2.1, vc.2.2.2.2.1, fun j hj => ?_, fun l hl => ?_⟩
    · exact (vc.2.2.2.2.2.1 j hj).ex (x1 _ (by omega) (by omega) (by omega) (by omega)) (x1 _ (by omega) (by omega) (by omega) (by omega)) (x1 _ (by omega) (by omega) (by omega) (by omega))
    · have := vc.2.2.2.2.2.2 l hl
      unfold VL
      rw [x1 _ (by omega) (by omega) (by omega) (by omega), x1 _ (by omega) (by omega) (by omega) (by omega), x1 _ (by omega) (by omega) (by omega) (by omega)]
      exact this
  · unfold VP
    rw [x1 6 (by decide) (by decide) (by decide) (by decide), x1 8 (by decide) (by decide) (by decide) (by decide)]
    exact vp
theorem l0 : live n 0 := live_lt (by decide)
theorem VC.co (v : VC A n s) {c : Nat} (hc : c < 12) : gI A 2 c = nI (s 1 c) := v.2.2.1 c hc
theorem gI_aJ (A : AM) (t k : Nat) (v : Int64) : gI (aJ A t k v) = gI A := rfl
theorem gJ_aJ (A : AM) (t k : Nat) (v : Int64) : gJ (aJ A t k v) t k = v := up2_eq
theorem gJ_aJu (A : AM) (t w k : Nat) (v : Int64) (h : w ≠ t) : gJ (aJ A t k v) w = gJ A w := up2_ne h
theorem gJ_aI (A : AM) (t k : Nat) (v : Int32) : gJ (aI A t k v) = gJ A := rfl
theorem s_ne {s : Sta} {t k v u w : Nat} (h : u ≠ t ∨ w ≠ k) : up2 s t k v u w = s u w := by
  by_cases q : u = t
  · subst q; exact up2_nk (by omega)
  · rw [up2_ne q]
theorem gI_if (A : AM) (t k u j : Nat) (v : Int32) : gI (aI A t k v) u j = if u = t ∧ j = k then v else gI A u j := by
  by_cases q : u = t
  · subst q
    by_cases y : j = k
    · subst y; rw [gI_aI, if_pos ⟨rfl, rfl⟩]
    · rw [gI_aIk _ _ _ _ _ y, if_neg (fun z => y z.2)]
  · rw [gI_aIu _ _ _ _ _ q, if_neg (fun z => q z.1)]
theorem gJ_if (A : AM) (t k u j : Nat) (v : Int64) : gJ (aJ A t k v) u j = if u = t ∧ j = k then v else gJ A u j := by
  by_cases q : u = t
  · subst q
    by_cases y : j = k
    · subst y; rw [gJ_aJ, if_pos ⟨rfl, rfl⟩]
    · rw [if_neg (fun z => y z.2)]; exact up2_nk y
  · rw [gJ_aJu _ _ _ _ _ q, if_neg (fun z => q z.1)]
theorem s_if (s : Sta) (t k u j v : Nat) : up2 s t k v u j = if u = t ∧ j = k then v else s u j := by
  by_cases q : u = t
  · subst q
    by_cases y : j = k
    · subst y; rw [up2_eq, if_pos ⟨rfl, rfl⟩]
    · rw [if_neg (fun z => y z.2)]; exact up2_nk y
  · rw [up2_ne q, if_neg (fun z => q z.1)]
theorem hj40 {j a : Nat} (h : a < 40) : (40 + 3 * j = a) = False := by simp only [eq_iff_iff, iff_false]; omega
theorem hl60 {j a : Nat} (h : a < 60) : (60 + 3 * j = a) = False := by simp only [eq_iff_iff, iff_false]; omega
theorem s_fn {s : Sta} {t k v u : Nat} (h : u ≠ t) : up2 s t k v u = s u := up2_ne h
theorem Inv.vj (I : Inv S ad n A s m) : ∀ j, j < n.1 → VJ A (40 + 3 * j) (s 3 j) (s 4 j) (fun k => s 5 (16 * j + k)) (fun i => s 6 (8 * j + i)) := I.vc.2.2.2.2.2.1
theorem Inv.cj (I : Inv S ad n A s m) : gI A 0 6 = nI n.1 := I.vc.1.2.2.1
theorem j_eq (I : Inv S ad n A s m) {j' : Nat} (hj : j < n.1) (hj' : j' < n.1) (e : nI j = nI j') : j = j' := by
  have := I.h.2.2.1
  rwa [nI_eq (by omega) (by omega)] at e
theorem i_lt (I : Inv S ad n A s m) (hj : j < n.1) : cntf (s 3 j) (s 4 j) ≤ 8 := cnt_le (I.vj j hj)
theorem Inv.cl (I : Inv S ad n A s m) : gI A 0 7 = nI n.2 := I.vc.1.2.2.2.1
abbrev jpg (s : Sta) (j : Nat) : Nat → Nat := fun k => s 5 (16 * j + k)
abbrev jk (s : Sta) (j i t : Nat) : Nat := kpl (s 1) (s 3 j) (s 4 j) (jpg s j) i t
abbrev jm (s : Sta) (j i t : Nat) : Nat := mpl (s 1) (s 3 j) (s 4 j) (jpg s j) i t
abbrev jp (s : Sta) (j i t : Nat) : Nat := psd (s 3 j) (s 4 j) (jpg s j) i t
theorem Inv.s99 (I : Inv S ad n A s m) {c : Nat} (hc : c < 12) : s 1 c ≤ 99 := (I.vb.2.1 c hc).1
theorem Inv.side (I : Inv S ad n A s m) (hj : j < n.1) {i t : Nat} (hi : i < cntf (s 3 j) (s 4 j)) (ht : t < 2) : okp (jp s j i t) (c1 s (jp s j i t)) (c2 s (jp s j i t)) ∧ jk s j i t = pq (jp s j i t) (c1 s (jp s j i t)) (c2 s (jp s j i t)) ∧ jm s j i t = mq (jp s j i t) (c1 s (jp s j i t)) (c2 s (jp s j i t)) :=
  psd_ok (st := s 1) (fun c hc => I.s99 hc) (fun _ => rfl) (fun p hp => conOn_lt (I.vj j hj) hi hp) ht
theorem ite_sw {a b : Prop} [Decidable a] [Decidable b] {x y : Nat} (h : a ↔ b) : (if a then x else y) = if b then x else y := by
  by_cases q : b
  · rw [if_pos q, if_pos (h.2 q)]
  · rw [if_neg q, if_neg (fun z => q (h.1 z))]
theorem bm_eq (I : Inv S ad n A s m) (hj : j < n.1) : bm A (nI (s 3 j)) = if s 3 j = s 0 9 then 0 else 15 := by
  obtain ⟨⟨-, -, h3, h4⟩, -⟩ := I.vp
  have hb := I.vb.2.2.2.1 j hj
  have hb2 := isB_lt hb
  have ho : s 0 9 < 200 := by rcases h4 with w | w; omega; exact isB_lt w
  have e : nI (if s 0 9 = 0 then 32 else s 0 9) = nI (s 3 j) ↔ (if s 0 9 = 0 then 32 else s 0 9) = s 3 j := nI_eq (by split <;> omega) (by omega)
  unfold bm
  rw [h3]
  refine ite_sw (e.trans ⟨fun q => ?_, fun q => ?_⟩)
  · unfold isB at hb
    by_cases z : s 0 9 = 0
    · rw [if_pos z] at q; omega
    · rw [if_neg z] at q; exact q.symm
  · rw [if_neg (show ¬ s 0 9 = 0 by unfold isB at hb; omega)]; exact q.symm
theorem mf_rdy (I : Inv S ad n A s m) (hj : j < n.1) {i : Nat} (hi : i < cntf (s 3 j) (s 4 j)) : mf A (nI (jk s j i 0)) (nI (jk s j i 1)) (nI (s 3 j)) = rdy (s 0 7) (s 0 8) (s 0 9) (jm s j i 0) (jm s j i 1) (s 3 j) := by
  obtain ⟨o0, k0, m0⟩ := I.side hj hi (t := 0) (by decide)
  obtain ⟨o1, k1, m1⟩ := I.side hj hi (t := 1) (by decide)
  obtain ⟨⟨h1, h2, -⟩, -⟩ := I.vp
  have e0 := (mtd_eq h1 o0).1
  have e1 := (mtd_eq h2 o1).1
  have q0 : (if gI A 6 0 = nI (jk s j i 0) then 0 else 20) = if jm s j i 0 = s 0 7 then 0 else 20 := ite_sw (by rw [k0, m0]; exact ⟨fun z => e0.1 z.symm, fun z => (e0.2 z).symm⟩)
  have q1 : (if gI A 6 1 = nI (jk s j i 1) then 0 else 20) = if jm s j i 1 = s 0 8 then 0 else 20 := ite_sw (by rw [k1, m1]; exact ⟨fun z => e1.1 z.symm, fun z => (e1.2 z).symm⟩)
  unfold mf rdy
  rw [bm_eq I hj, q0, q1]
  omega
theorem Inv.lv (I : Inv S ad n A s m) (hl : l < n.2) : VL A (60 + 3 * l) (s 9 l) (s 10 l) (s 13 l) (fun k => s 5 (16 * s 8 l + k)) (fun k => s 11 (16 * l + k)) := I.vc.2.2.2.2.2.2 l hl
theorem lotB (I : Inv S ad n A s m) (hl : l < n.2) : s 8 l < n.1 ∧ s 10 l ≤ s 4 (s 8 l) ∧ s 9 l ≤ 500 ∧ s 13 l ≤ s 0 1 ∧ ∀ k, k < s 10 l → s 11 (16 * l + k) = cl (s 12) (s 5 (16 * s 8 l + k)) (s 13 l) := I.vb.2.2.2.2.2.2.2.2 l hl
theorem Inv.l16 (I : Inv S ad n A s m) (hl : l < n.2) : s 10 l ≤ 16 := by
  have b := lotB I hl
  have h4 : s 8 l < 4 := by have := I.h.2.2.1; omega
  have := I.vb.2.2.2.2.1 _ h4
  omega
theorem pg_ex (hb : isB b) (w : whl b np) {c : Nat} (h1 : 1 ≤ c) (h2 : c ≤ np) : ∃ i, i < cntf b np ∧ ∃ p, p < plc b ∧ pgOn b np i p = c := by
  obtain ⟨w1, w2⟩ := w
  rcases hb with rfl | rfl | rfl
  · have w3 : np % 4 = 0 := w2
    by_cases c1 : c ≤ 2 * (np / 4)
    · by_cases c2 : c % 2 = 1
      · refine ⟨(c - 1) / 2, ?_, 1, by decide, ?_⟩
        · show (c - 1) / 2 < np / 4; omega
        · show 2 * ((c - 1) / 2) + 1 = c; omega
      · refine ⟨(c - 1) / 2, ?_, 2, by decide, ?_⟩
        · show (c - 1) / 2 < np / 4; omega
        · show 2 * ((c - 1) / 2) + 2 = c; omega
    · by_cases c2 : c % 2 = 0
      · refine ⟨(np - c) / 2, ?_, 0, by decide, ?_⟩
        · show (np - c) / 2 < np / 4; omega
        · show np - 2 * ((np - c) / 2) = c; omega
      · refine ⟨(np - c) / 2, ?_, 3, by decide, ?_⟩
        · show (np - c) / 2 < np / 4; omega
        · show np - 2 * ((np - c) / 2) - 1 = c; omega
  · have w3 : np % 4 = 0 := w2
    by_cases c1 : c % 4 = 0
    · refine ⟨c / 4 - 1, ?_, 0, by decide, ?_⟩
      · show c / 4 - 1 < np / 4; omega
      · show 4 * (c / 4 - 1) + 4 = c; omega
    · refine ⟨c / 4, ?_, c % 4, ?_, ?_⟩
      · show c / 4 < np / 4; omega
      · show c % 4 < 4; omega
      · show (if c % 4 = 0 then 4 * (c / 4) + 4 else 4 * (c / 4) + c % 4) = c
        rw [if_neg c1]; omega
  · have w3 : np % 2 = 0 := w2
    refine ⟨(c - 1) / 2, ?_, (c - 1) % 2, ?_, ?_⟩
    · show (c - 1) / 2 < np / 2; omega
    · show (c - 1) % 2 < 2; omega
    · show 2 * ((c - 1) / 2) + 1 + (c - 1) % 2 = c; omega
theorem Inv.st9 (I : Inv S ad n A s m) (hj : j < n.1) {i : Nat} (hi : i < 8) : s 6 (8 * j + i) ≤ 9999 := (I.vb.2.2.2.2.2.2.2.1 j (by have := I.h.2.2.1; omega) i hi).1
theorem Inv.st0 (I : Inv S ad n A s m) (hj : j < 4) {i : Nat} (hi : i < 8) (h : ¬ (j < n.1 ∧ whl (s 3 j) (s 4 j) ∧ i < cntf (s 3 j) (s 4 j))) : s 6 (8 * j + i) = 0 := (I.vb.2.2.2.2.2.2.2.1 j hj i hi).2 h
def stale (s : Sta) (c l : Nat) : Prop := ∃ k, k < s 10 l ∧ s 5 (16 * s 8 l + k) = c ∧ s 11 (16 * l + k) ≠ s 1 c
theorem sm_zero {f : Nat → Nat} {a : Nat} : ∀ {b : Nat}, a ≤ b → (∀ k, a ≤ k → f k = 0) → sm f b = sm f a
  | 0, h, _ => by have : a = 0 := by omega
                  rw [this]
  | b + 1, h, hz => by
    by_cases c : a = b + 1
    · rw [c]
    · show sm f b + f b = _
      rw [hz b (by omega), Nat.add_zero]
      exact sm_zero (by omega) hz
theorem sp_od19 (I : Inv S ad n A s m) (hc : c < 12) {F : Nat → Nat} (hF : ∀ l, (l < n.2 ∧ stale s c l → F l = s 9 l) ∧ (¬ (l < n.2 ∧ stale s c l) → F l = 0)) {px : Nat → Mem → Prop} (hq : post (nI (sm F 100)) S) : ∃ m, wlX6_outdated_19 (ad 0) (nI c) (nI (s 1 c)) post px m (nI 0) (nI 0) S := by
  have hn := I.h.2.2.2
  have key : ∀ m l, l + m = 100 → wlX6_outdated_19 (ad 0) (nI c) (nI (s 1 c)) post px (m + 1) (nI (sm F l)) (nI l) S := by
    intro m
    induction m with
    | zero =>
      intro l hl
      have e : l = 100 := by omega
      subst e
      exact ⟨fun _ => hq, fun z => absurd ((nI_leI (by omega) (by omega)).2 (Nat.le_refl _)) z⟩
    | succ m ih =>
      intro l hl
      have e0 : sm F (l + 1) = sm F l + F l := rfl
      refine ⟨fun z => ?_, fun _ => ⟨I.h.k l0, sp_findLot I.h I.cl (fun l' hl' e => ⟨fun z => (nomatch z), fun o z => ?_⟩) (fun z => ⟨fun _ x14 e => ?_, fun o z => (nomatch z)⟩)⟩⟩
      · rw [nI_leI (by omega) (by omega)] at z; omega
      · cases z
        have e' := (nI_eq (by omega) (by omega)).1 e
        subst e'
        refine ⟨I.h.lk (ltt hl'), sp_showsInOtherState I.h (ltt hl') (I.lv hl') hc (I.s99 hc) (fun w => ⟨fun q => absurd q n10, fun _ => ⟨I.h.lk (ltt hl'), ?_⟩⟩) (fun w => ⟨fun _ x19 e => ?_, fun q => absurd t0 q⟩)⟩
        · rw [I.h.li (ltt hl'), (I.lv hl').1]
          rintro x21 rfl x22 rfl
          rw [nI_add, nI_add, ← (hF l).1 ⟨hl', w⟩, ← e0]
          exact ih (l + 1) (by omega)
        · subst e
          rw [nI_add]
          have := ih (l + 1) (by omega)
          rw [e0, (hF l).2 (fun y => w y.2), Nat.add_zero] at this
          exact this
      · subst e
        rw [nI_add]
        have := ih (l + 1) (by omega)
        rw [e0, (hF l).2 (fun y => z ((inr_nI (by omega)).2 y.1)), Nat.add_zero] at this
        exact this
  exact ⟨_, key 100 0 rfl⟩
end
section
variable {S S1 S' : Mem} {ad ad' : Nat → Nat} {A B A' A1 : AM} {n : Nat × Nat} {s : Sta} {m : Nat} {p q x : Nat}
abbrev TT : Type := (Nat → Int32) × (Nat → Nat) × Nat
def tst (T : TT) (p q x : Nat) : TT := if T.1 p = nI q then T else (fun v => if v = p then nI q else T.1 v, fun k => if k = T.2.2 then x else T.2.1 k, T.2.2 + 1)
def PLt (T : TT) (s : Sta) : Prop := (∀ k, k < T.2.2 → ∃ p a r, okp p a r ∧ T.2.1 k = mq p a r ∧ lep s p a r) ∧ (∀ p, p < 156 → T.1 p = -1 ∨ ∃ a r, okp p a r ∧ T.1 p = nI (pq p a r) ∧ lep s p a r) ∧ (∀ p, p < 156 → (T.1 p = nI (pq p (c1 s p) (c2 s p)) ↔ made T.2.1 T.2.2 (mq p (c1 s p) (c2 s p))))
theorem okp_c (hs : ∀ c, c < 12 → s 1 c ≤ 99) (hp : p < 156) : okp p (c1 s p) (c2 s p) := by
  refine ⟨hp, hs _ (by omega), ?_, ?_⟩
  · unfold c2
    split
    · decide
    · exact hs _ (by omega)
  · intro w
    unfold c2
    rw [if_pos w]
theorem lep_c (s : Sta) (p : Nat) : lep s p (c1 s p) (c2 s p) := ⟨Nat.le_refl _, fun q => by unfold c2; rw [if_neg q]; exact Nat.le_refl _⟩
theorem tst_y {T : TT} (h : T.1 p = nI q) : tst T p q x = T := if_pos h
theorem tst_n {T : TT} (h : ¬ T.1 p = nI q) : tst T p q x = (fun v => if v = p then nI q else T.1 v, fun k => if k = T.2.2 then x else T.2.1 k, T.2.2 + 1) := if_neg h
theorem tst_le (T : TT) : (tst T p q x).2.2 ≤ T.2.2 + 1 := by
  by_cases w : T.1 p = nI q
  · rw [tst_y w]; omega
  · rw [tst_n w]; exact Nat.le_refl _
theorem PLt.st {T : TT} (h : PLt T s) (hs : ∀ c, c < 12 → s 1 c ≤ 99) (hp : p < 156) : PLt (tst T p (pq p (c1 s p) (c2 s p)) (mq p (c1 s p) (c2 s p))) s := by
  by_cases w : T.1 p = nI (pq p (c1 s p) (c2 s p))
  · rw [tst_y w]; exact h
  · rw [tst_n w]
    have o := okp_c hs hp
    refine ⟨fun k hk => ?_, fun p' hp' => ?_, fun p' hp' => ?_⟩
    · show ∃ p' a r, okp p' a r ∧ (if k = T.2.2 then mq p (c1 s p) (c2 s p) else T.2.1 k) = mq p' a r ∧ lep s p' a r
      have hk' : k < T.2.2 + 1 := hk
      by_cases y : k = T.2.2
      · exact ⟨p, c1 s p, c2 s p, o, if_pos y, lep_c s p⟩
      · rw [if_neg y]; exact h.1 k (by omega)
    · show (if p' = p then nI (pq p (c1 s p) (c2 s p)) else T.1 p') = -1 ∨ ∃ a r, okp p' a r ∧ (if p' = p then nI (pq p (c1 s p) (c2 s p)) else T.1 p') = nI (pq p' a r) ∧ lep s p' a r
      by_cases y : p' = p
      · subst y
        rw [if_pos rfl]
        exact Or.inr ⟨_, _, o, rfl, lep_c s p'⟩
      · rw [if_neg y]; exact h.2.1 p' hp'
    · show (if p' = p then nI (pq p (c1 s p) (c2 s p)) else T.1 p') = nI (pq p' (c1 s p') (c2 s p')) ↔ made (fun k => if k = T.2.2 then mq p (c1 s p) (c2 s p) else T.2.1 k) (T.2.2 + 1) (mq p' (c1 s p') (c2 s p'))
      by_cases y : p' = p
      · subst y
        rw [if_pos rfl]
        exact ⟨fun _ => ⟨T.2.2, by omega, if_pos rfl⟩, fun _ => rfl⟩
      · rw [if_neg y, h.2.2 p' hp']
        constructor
        · rintro ⟨k, hk, e⟩
          refine ⟨k, by omega, ?_⟩
          show (if k = T.2.2 then mq p (c1 s p) (c2 s p) else T.2.1 k) = _
          rw [if_neg (by omega)]
          exact e
        · rintro ⟨k, hk, e⟩
          have e' : (if k = T.2.2 then mq p (c1 s p) (c2 s p) else T.2.1 k) = mq p' (c1 s p') (c2 s p') := e
          by_cases g : k = T.2.2
          · rw [if_pos g, mq_inj o (okp_c hs hp')] at e'
            exact absurd e'.1.symm y
          · rw [if_neg g] at e'
            exact ⟨k, by omega, e'⟩
theorem sp_mkT (h : Rel S ad n A) (T : TT) (e8 : gI A 8 = T.1) (hd : gI A 7 1 = nI T.2.2) (hq : q < 1560000) (hp : q / 10000 = p) {post : Unit → Mem → Prop} (hk : ∀ S' A', Rel S' ad n A' → gI A' 8 = (tst T p q x).1 → gI A' 7 1 = nI (tst T p q x).2.2 → (∀ t, t ≠ 7 → t ≠ 8 → gI A' t = gI A t) → gJ A' = gJ A → post () S') : wpX4_make S (ad 7) (nI q) post := by
  refine sp_make h hq hd (fun w => ?_) (fun w S2 k2 => ?_)
  · rw [e8, hp] at w
    exact hk S A h (by rw [tst_y w, e8]) (by rw [tst_y w, hd]) (fun _ _ _ => rfl) rfl
  · rw [e8, hp] at w
    refine hk S2 _ k2 ?_ ?_ (fun t g1 g2 => by rw [gI_aIu _ _ _ _ _ g1, gI_aIu _ _ _ _ _ g2]) rfl
    · rw [tst_n w, gI_aIu _ _ _ _ _ (by decide)]
      funext v
      rw [gI_if, e8, hp]
      by_cases y : v = p
      · rw [if_pos ⟨rfl, y⟩]; exact (if_pos y).symm
      · rw [if_neg (fun z => y z.2)]; exact (if_neg y).symm
    · rw [tst_n w, gI_aI]
end
section
variable {S S1 S' : Mem} {ad : Nat → Nat} {A A' B A1 : AM} {n : Nat × Nat} {s : Sta} {m : Nat} {post : Int32 → Mem → Prop} {p q r : Int32} {j i k l c : Nat}
def tk (A : AM) (s : Sta) (j : Nat) : Nat → TT
  | 0 => (gI A 8, s 7, s 0 2)
  | k + 1 => tst (tk A s j k) (jp s j (k / 2) (k % 2)) (jk s j (k / 2) (k % 2)) (jm s j (k / 2) (k % 2))
theorem tst_ge (T : TT) {p q x : Nat} : T.2.2 ≤ (tst T p q x).2.2 := by
  by_cases w : T.1 p = nI q
  · rw [tst_y w]; exact Nat.le_refl _
  · rw [tst_n w]; exact Nat.le_succ _
theorem tk_rng (A : AM) (s : Sta) (j : Nat) : ∀ k, s 0 2 ≤ (tk A s j k).2.2 ∧ (tk A s j k).2.2 ≤ s 0 2 + k
  | 0 => ⟨Nat.le_refl _, Nat.le_refl _⟩
  | k + 1 => by
    have h := tk_rng A s j k
    have h1 := tst_ge (tk A s j k) (p := jp s j (k / 2) (k % 2)) (q := jk s j (k / 2) (k % 2)) (x := jm s j (k / 2) (k % 2))
    have h2 := tst_le (T := tk A s j k) (p := jp s j (k / 2) (k % 2)) (q := jk s j (k / 2) (k % 2)) (x := jm s j (k / 2) (k % 2))
    show s 0 2 ≤ (tst (tk A s j k) (jp s j (k / 2) (k % 2)) (jk s j (k / 2) (k % 2)) (jm s j (k / 2) (k % 2))).2.2 ∧ (tst (tk A s j k) (jp s j (k / 2) (k % 2)) (jk s j (k / 2) (k % 2)) (jm s j (k / 2) (k % 2))).2.2 ≤ s 0 2 + (k + 1)
    omega
theorem tk_pl (I : Inv S ad n A s m) (hj : j < n.1) : ∀ k, k ≤ 2 * cntf (s 3 j) (s 4 j) → PLt (tk A s j k) s
  | 0, _ => ⟨I.vp.2.1, I.vp.2.2.1, I.vp.2.2.2⟩
  | k + 1, hk => by
    obtain ⟨o, e, e2⟩ := I.side hj (i := k / 2) (t := k % 2) (by omega) (by omega)
    show PLt (tst (tk A s j k) (jp s j (k / 2) (k % 2)) (jk s j (k / 2) (k % 2)) (jm s j (k / 2) (k % 2))) s
    rw [e, e2]
    exact (tk_pl I hj k (by omega)).st (fun c hc => I.s99 hc) o.1
theorem tk_has (I : Inv S ad n A s m) (hj : j < n.1) : ∀ k, k ≤ 2 * cntf (s 3 j) (s 4 j) → ∀ p, p < 156 → ((tk A s j k).1 p = nI (pq p (c1 s p) (c2 s p)) ↔ (gI A 8 p = nI (pq p (c1 s p) (c2 s p)) ∨ ∃ i, i < k ∧ jp s j (i / 2) (i % 2) = p))
  | 0, _, p, _ => ⟨fun h => Or.inl h, fun h => by
      rcases h with h | ⟨i, hi, -⟩
      · exact h
      · exact absurd hi (by omega)⟩
  | k + 1, hk, p, hp => by
    obtain ⟨o, e, e2⟩ := I.side hj (i := k / 2) (t := k % 2) (by omega) (by omega)
    have ih := tk_has I hj k (by omega)
    show (tst (tk A s j k) (jp s j (k / 2) (k % 2)) (jk s j (k / 2) (k % 2)) (jm s j (k / 2) (k % 2))).1 p = nI (pq p (c1 s p) (c2 s p)) ↔ _
    by_cases w : (tk A s j k).1 (jp s j (k / 2) (k % 2)) = nI (jk s j (k / 2) (k % 2))
    · rw [tst_y w, ih p hp]
      constructor
      · rintro (h | ⟨i, hi, h⟩)
        · exact Or.inl h
        · exact Or.inr ⟨i, by omega, h⟩
      · rintro (h | ⟨i, hi, h⟩)
        · exact Or.inl h
        · by_cases y : i = k
          · subst y
            rw [e] at w
            rw [← h]
            exact (ih _ o.1).1 w
          · exact Or.inr ⟨i, by omega, h⟩
    · rw [tst_n w]
      show (if p = jp s j (k / 2) (k % 2) then nI (jk s j (k / 2) (k % 2)) else (tk A s j k).1 p) = nI (pq p (c1 s p) (c2 s p)) ↔ _
      by_cases y : p = jp s j (k / 2) (k % 2)
      · rw [if_pos y, e, y]
        exact ⟨fun _ => Or.inr ⟨k, by omega, rfl⟩, fun _ => rfl⟩
      · rw [if_neg y, ih p hp]
        constructor
        · rintro (h | ⟨i, hi, h⟩)
          · exact Or.inl h
          · exact Or.inr ⟨i, by omega, h⟩
        · rintro (h | ⟨i, hi, h⟩)
          · exact Or.inl h
          · by_cases z : i = k
            · subst z; exact absurd h.symm y
            · exact Or.inr ⟨i, by omega, h⟩
theorem sp_pn19 (I : Inv S ad n A s m) (hj : j < n.1) {x : Int32} {px : Nat → Mem → Prop} (hq : post (nI ((tk A s j (2 * cntf (s 3 j) (s 4 j))).2.2 - s 0 2)) S) : ∃ m, wlX6_platesNeeded_19 (ad 0) x (ad (40 + 3 * j)) (nI (2 * cntf (s 3 j) (s 4 j))) post px m (nI 0) (nI 0) S := by
  have h8 := i_lt I hj
  have hs9 : ∀ c, c < 12 → s 1 c ≤ 99 := fun c hc => I.s99 hc
  have key : ∀ m' k, k + m' = 2 * cntf (s 3 j) (s 4 j) → wlX6_platesNeeded_19 (ad 0) x (ad (40 + 3 * j)) (nI (2 * cntf (s 3 j) (s 4 j))) post px (m' + 1) (nI ((tk A s j k).2.2 - s 0 2)) (nI k) S := by
    intro m'
    induction m' with
    | zero =>
      intro k hk
      have e : k = 2 * cntf (s 3 j) (s 4 j) := by omega
      rw [e]
      exact ⟨fun _ => hq, fun z => absurd ((nI_leI (by omega) (by omega)).2 (Nat.le_refl _)) z⟩
    | succ m' ih =>
      intro k hk
      obtain ⟨o, e, e2⟩ := I.side hj (i := k / 2) (t := k % 2) (by omega) (by omega)
      have b := pq_lt o
      have hh := tk_has I hj k (by omega) _ o.1
      have hr := tk_rng A s j k
      have qd : ∀ i, i < k → (ksd (s 1) (s 3 j) (s 4 j) (jpg s j) i = jk s j (k / 2) (k % 2) ↔ jp s j (i / 2) (i % 2) = jp s j (k / 2) (k % 2)) := by
        intro i hi
        obtain ⟨o', e', -⟩ := I.side hj (i := i / 2) (t := i % 2) (by omega) (by omega)
        show jk s j (i / 2) (i % 2) = _ ↔ _
        rw [e', e, pq_inj o' o]
        exact ⟨fun y => y.1, fun y => ⟨y, by rw [y], by rw [y]⟩⟩
      have skip : (gI A 8 (jp s j (k / 2) (k % 2)) = nI (jk s j (k / 2) (k % 2)) ∨ ∃ i, i < k ∧ jp s j (i / 2) (i % 2) = jp s j (k / 2) (k % 2)) → tk A s j (k + 1) = tk A s j k := by
        intro y
        rw [e] at y
        have := hh.2 y
        rw [← e] at this
        exact tst_y this
      refine ⟨fun z => ?_, fun _ => ⟨I.h.k l0, sp_plateSide I.h (jt hj) (I.vj j hj) (st := s 1) (fun c hc => I.vc.co hc) (by omega) ⟨I.h.k l0, ad 7, I.h.r l0 rfl, I.h.k (t := 7) LM, ?_⟩⟩⟩
      · rw [nI_leI (by omega) (by omega)] at z; omega
      · have ek : ksd (s 1) (s 3 j) (s 4 j) (jpg s j) k = jk s j (k / 2) (k % 2) := rfl
        show wpX4_has S (ad 7) (nI (ksd (s 1) (s 3 j) (s 4 j) (jpg s j) k)) _
        rw [ek]
        have hlt : jk s j (k / 2) (k % 2) < 1560000 := by rw [e]; exact b.1
        have hdv : jk s j (k / 2) (k % 2) / 10000 = jp s j (k / 2) (k % 2) := by rw [e]; exact b.2
        refine sp_has I.h hlt (fun y => ⟨fun _ x19 ex => ?_, fun q => absurd q n10⟩) (fun y => ⟨fun q => absurd t0 q, fun _ => ⟨I.h.k l0, sp_isOnEarlierSide I.h (jt hj) (I.vj j hj) (st := s 1) (fun c hc => I.vc.co hc) hs9 (by omega) hlt (fun y2 => ⟨fun _ x24 ex => ?_, fun q => absurd q n10⟩) (fun y2 => ⟨fun q => absurd t0 q, fun _ x25 ex25 x26 ex26 => ?_⟩)⟩⟩)
        · subst ex
          rw [nI_add]
          rw [hdv] at y
          have := ih (k + 1) (by omega)
          rw [skip (Or.inl y)] at this
          exact this
        · subst ex
          rw [nI_add]
          obtain ⟨i, hi, y2⟩ := y2
          have := ih (k + 1) (by omega)
          rw [skip (Or.inr ⟨i, hi, (qd i hi).1 y2⟩)] at this
          exact this
        · subst ex25 ex26
          rw [nI_add, nI_add]
          rw [hdv] at y
          have nh : ¬ (tk A s j k).1 (jp s j (k / 2) (k % 2)) = nI (jk s j (k / 2) (k % 2)) := by
            intro z
            rw [e] at z
            rcases hh.1 z with w | ⟨i, hi, w⟩
            · rw [← e] at w; exact y w
            · exact y2 ⟨i, hi, (qd i hi).2 w⟩
          have e1 : (tk A s j (k + 1)).2.2 = (tk A s j k).2.2 + 1 := by
            show (tst (tk A s j k) (jp s j (k / 2) (k % 2)) (jk s j (k / 2) (k % 2)) (jm s j (k / 2) (k % 2))).2.2 = _
            rw [tst_n nh]
          have := ih (k + 1) (by omega)
          rw [e1, Nat.sub_add_comm hr.1] at this
          exact this
  have := key (2 * cntf (s 3 j) (s 4 j)) 0 (by omega)
  have e0 : (tk A s j 0).2.2 - s 0 2 = 0 := Nat.sub_self _
  rw [e0] at this
  exact ⟨_, this⟩
end
