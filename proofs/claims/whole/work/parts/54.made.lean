/-! ===== plates made: the rack's cells, the reference's row and its length ===== -/
section
variable {S S1 S' : Mem} {ad ad' : Nat → Nat} {A B A' A1 : AM} {n : Nat × Nat} {s : Sta} {m : Nat} {p q x : Nat}
abbrev TT : Type := (Nat → Int32) × (Nat → Nat) × Nat
def tst (T : TT) (p q x : Nat) : TT := if T.1 p = nI q then T else (fun v => if v = p then nI q else T.1 v, fun k => if k = T.2.2 then x else T.2.1 k, T.2.2 + 1)
def PLt (T : TT) (s : Sta) : Prop := (∀ k, k < T.2.2 → ∃ p a r, okp p a r ∧ T.2.1 k = mq p a r ∧ lep s p a r) ∧ (∀ p, p < 156 → T.1 p = -1 ∨ ∃ a r, okp p a r ∧ T.1 p = nI (pq p a r) ∧ lep s p a r) ∧ (∀ p, p < 156 → (T.1 p = nI (pq p (c1 s p) (c2 s p)) ↔ made T.2.1 T.2.2 (mq p (c1 s p) (c2 s p))))
theorem okp_c (hs : ∀ c, c < 12 → s 1 c ≤ 99) (hp : p < 156) : okp p (c1 s p) (c2 s p) := by
  refine ⟨hp, hs _ (by omega), ?_, ?_⟩
  · unfold c2
    split
    · decide
    · exact hs _ (by omega)
  · intro w
    unfold c2
    rw [if_pos w]
theorem lep_c (s : Sta) (p : Nat) : lep s p (c1 s p) (c2 s p) := ⟨Nat.le_refl _, fun q => by unfold c2; rw [if_neg q]; exact Nat.le_refl _⟩
theorem tst_y {T : TT} (h : T.1 p = nI q) : tst T p q x = T := if_pos h
theorem tst_n {T : TT} (h : ¬ T.1 p = nI q) : tst T p q x = (fun v => if v = p then nI q else T.1 v, fun k => if k = T.2.2 then x else T.2.1 k, T.2.2 + 1) := if_neg h
theorem tst_le (T : TT) : (tst T p q x).2.2 ≤ T.2.2 + 1 := by
  by_cases w : T.1 p = nI q
  · rw [tst_y w]; omega
  · rw [tst_n w]; exact Nat.le_refl _
theorem PLt.st {T : TT} (h : PLt T s) (hs : ∀ c, c < 12 → s 1 c ≤ 99) (hp : p < 156) : PLt (tst T p (pq p (c1 s p) (c2 s p)) (mq p (c1 s p) (c2 s p))) s := by
  by_cases w : T.1 p = nI (pq p (c1 s p) (c2 s p))
  · rw [tst_y w]; exact h
  · rw [tst_n w]
    have o := okp_c hs hp
    refine ⟨fun k hk => ?_, fun p' hp' => ?_, fun p' hp' => ?_⟩
    · show ∃ p' a r, okp p' a r ∧ (if k = T.2.2 then mq p (c1 s p) (c2 s p) else T.2.1 k) = mq p' a r ∧ lep s p' a r
      have hk' : k < T.2.2 + 1 := hk
      by_cases y : k = T.2.2
      · exact ⟨p, c1 s p, c2 s p, o, if_pos y, lep_c s p⟩
      · rw [if_neg y]; exact h.1 k (by omega)
    · show (if p' = p then nI (pq p (c1 s p) (c2 s p)) else T.1 p') = -1 ∨ ∃ a r, okp p' a r ∧ (if p' = p then nI (pq p (c1 s p) (c2 s p)) else T.1 p') = nI (pq p' a r) ∧ lep s p' a r
      by_cases y : p' = p
      · subst y
        rw [if_pos rfl]
        exact Or.inr ⟨_, _, o, rfl, lep_c s p'⟩
      · rw [if_neg y]; exact h.2.1 p' hp'
    · show (if p' = p then nI (pq p (c1 s p) (c2 s p)) else T.1 p') = nI (pq p' (c1 s p') (c2 s p')) ↔ made (fun k => if k = T.2.2 then mq p (c1 s p) (c2 s p) else T.2.1 k) (T.2.2 + 1) (mq p' (c1 s p') (c2 s p'))
      by_cases y : p' = p
      · subst y
        rw [if_pos rfl]
        exact ⟨fun _ => ⟨T.2.2, by omega, if_pos rfl⟩, fun _ => rfl⟩
      · rw [if_neg y, h.2.2 p' hp']
        constructor
        · rintro ⟨k, hk, e⟩
          refine ⟨k, by omega, ?_⟩
          show (if k = T.2.2 then mq p (c1 s p) (c2 s p) else T.2.1 k) = _
          rw [if_neg (by omega)]
          exact e
        · rintro ⟨k, hk, e⟩
          have e' : (if k = T.2.2 then mq p (c1 s p) (c2 s p) else T.2.1 k) = mq p' (c1 s p') (c2 s p') := e
          by_cases g : k = T.2.2
          · rw [if_pos g, mq_inj o (okp_c hs hp')] at e'
            exact absurd e'.1.symm y
          · rw [if_neg g] at e'
            exact ⟨k, by omega, e'⟩
/-- the class makes a plate -/
theorem sp_mkT (h : Rel S ad n A) (T : TT) (e8 : gI A 8 = T.1) (hd : gI A 7 1 = nI T.2.2) (hq : q < 1560000) (hp : q / 10000 = p) {post : Unit → Mem → Prop} (hk : ∀ S' A', Rel S' ad n A' → gI A' 8 = (tst T p q x).1 → gI A' 7 1 = nI (tst T p q x).2.2 → (∀ t, t ≠ 7 → t ≠ 8 → gI A' t = gI A t) → gJ A' = gJ A → post () S') : wpX4_make S (ad 7) (nI q) post := by
  refine sp_make h hq hd (fun w => ?_) (fun w S2 k2 => ?_)
  · rw [e8, hp] at w
    exact hk S A h (by rw [tst_y w, e8]) (by rw [tst_y w, hd]) (fun _ _ _ => rfl) rfl
  · rw [e8, hp] at w
    refine hk S2 _ k2 ?_ ?_ (fun t g1 g2 => by rw [gI_aIu _ _ _ _ _ g1, gI_aIu _ _ _ _ _ g2]) rfl
    · rw [tst_n w, gI_aIu _ _ _ _ _ (by decide)]
      funext v
      rw [gI_if, e8, hp]
      by_cases y : v = p
      · rw [if_pos ⟨rfl, y⟩]; exact (if_pos y).symm
      · rw [if_neg (fun z => y z.2)]; exact (if_neg y).symm
    · rw [tst_n w, gI_aI]
/-- the reference makes it -/
theorem mm_mkT (h : Rel S ad n A) (T : TT) (hm : gI A 14 4 = nI T.2.2) (hm2 : T.2.2 < 1100) (hpl : ∀ k, k < T.2.2 → gI A 21 k = nI (T.2.1 k) ∧ T.2.1 k < 1500000) (hx : x < 1500000) (hs : T.1 p = nI q ↔ made T.2.1 T.2.2 x) {post : Unit → Mem → Prop}
    (hq : ∀ S' A', Rel S' ad n A' → gI A' 14 4 = nI (tst T p q x).2.2 → (∀ k, k < (tst T p q x).2.2 → gI A' 21 k = nI ((tst T p q x).2.1 k) ∧ (tst T p q x).2.1 k < 1500000) → (∀ t, t ≠ 14 → t ≠ 21 → gI A' t = gI A t) → (∀ k, k ≠ 4 → gI A' 14 k = gI A 14 k) → gJ A' = gJ A → post () S') : wpX7_makes S (ad 14) (nI x) post := by
  refine mm_makes h hm hm2 hpl hx (fun w => ?_) (fun w S2 k2 => ?_)
  · have y := hs.2 w
    exact hq S A h (by rw [tst_y y, hm]) (by rw [tst_y y]; exact hpl) (fun _ _ _ => rfl) (fun _ _ => rfl) rfl
  · have y : ¬ T.1 p = nI q := fun z => w (hs.1 z)
    refine hq S2 _ k2 ?_ ?_ (fun t g1 g2 => by rw [gI_aIu _ _ _ _ _ g1, gI_aIu _ _ _ _ _ g2]) (fun k hk => by rw [gI_aIk _ _ _ _ _ hk, gI_aIu _ _ _ _ _ (by decide)]) rfl
    · rw [tst_n y, gI_aI]
    · rw [tst_n y]
      intro k hk
      have hk' : k < T.2.2 + 1 := hk
      rw [gI_aIu _ _ _ _ _ (by decide), gI_if]
      show (if 21 = 21 ∧ k = T.2.2 then nI x else gI A 21 k) = nI (if k = T.2.2 then x else T.2.1 k) ∧ (if k = T.2.2 then x else T.2.1 k) < 1500000
      by_cases g : k = T.2.2
      · rw [if_pos ⟨rfl, g⟩, if_pos g]; exact ⟨rfl, hx⟩
      · rw [if_neg (fun z => g z.2), if_neg g]; exact hpl k (by omega)
end
