/-! ===== a job ===== -/
def plc (b : Nat) : Nat := if b = 119 then 2 else 4
def cntf (b np : Nat) : Nat := np / plc b
def whl (b np : Nat) : Prop := 0 < np ∧ np % plc b = 0
def pgOn (b np i p : Nat) : Nat := if b = 119 then 2 * i + 1 + p else if b = 112 then (if p = 0 then 4 * i + 4 else 4 * i + p) else if p = 0 then np - 2 * i else if p = 1 then 2 * i + 1 else if p = 2 then 2 * i + 2 else np - 2 * i - 1
def isB (b : Nat) : Prop := b = 115 ∨ b = 112 ∨ b = 119
theorem plc_pos (b : Nat) : 0 < plc b ∧ plc b ≤ 4 := by unfold plc; split <;> omega
theorem pgOn_rng {b np i p : Nat} (hb : isB b) (hi : i < cntf b np) (hp : p < plc b) : 1 ≤ pgOn b np i p ∧ pgOn b np i p ≤ np := by
  unfold cntf at hi
  unfold plc at hi hp
  unfold pgOn
  by_cases h1 : b = 119
  · simp only [h1, if_true] at hi hp ⊢; omega
  · simp only [h1, if_false] at hi hp ⊢
    by_cases h2 : b = 112
    · simp only [h2, if_true] at hi hp ⊢; split <;> omega
    · simp only [h2, if_false] at hi hp ⊢
      split
      · omega
      · split
        · omega
        · split <;> omega
/-- sums -/
def sm (f : Nat → Nat) : Nat → Nat
  | 0 => 0
  | k + 1 => sm f k + f k
theorem sm_le {f : Nat → Nat} {c : Nat} : ∀ {N : Nat}, (∀ k, k < N → f k ≤ c) → sm f N ≤ N * c
  | 0, _ => by simp [sm]
  | N + 1, h => by
    have h1 := sm_le (N := N) (f := f) (c := c) (fun k hk => h k (by omega))
    have h2 := h N (by omega)
    simp only [sm, Nat.add_mul]; omega
theorem sm_cong {f g : Nat → Nat} : ∀ {N : Nat}, (∀ k, k < N → f k = g k) → sm f N = sm g N
  | 0, _ => rfl
  | N + 1, h => by simp only [sm, sm_cong (N := N) (fun k hk => h k (by omega)), h N (by omega)]
theorem sm_mono (f : Nat → Nat) {a : Nat} : ∀ {b : Nat}, a ≤ b → sm f a ≤ sm f b
  | 0, h => by obtain rfl : a = 0 := by omega
               exact Nat.le_refl _
  | b + 1, h => by
    rcases Nat.lt_or_ge a (b + 1) with h1 | h1
    · exact Nat.le_trans (sm_mono f (b := b) (by omega)) (Nat.le_add_right _ _)
    · obtain rfl : a = b + 1 := by omega
      exact Nat.le_refl _
/-- a role's memory, but for one role -/
def Ex (A A' : AM) (u : Nat) : Prop := (∀ v, v ≠ u → gI A' v = gI A v) ∧ gJ A' = gJ A ∧ gD A' = gD A
theorem Ex.rf (A : AM) (u : Nat) : Ex A A u := ⟨fun _ _ => rfl, rfl, rfl⟩
theorem Ex.tr {A B C : AM} {u : Nat} (h : Ex A B u) (k : Ex B C u) : Ex A C u := ⟨fun v hv => (k.1 v hv).trans (h.1 v hv), k.2.1.trans h.2.1, k.2.2.trans h.2.2⟩
theorem Ex.aI (A : AM) (u k : Nat) (v : Int32) : Ex A (aI A u k v) u := ⟨fun _ hw => up2_ne hw, rfl, rfl⟩
theorem gI_aI (A : AM) (u k : Nat) (v : Int32) : gI (aI A u k v) u k = v := up2_eq
theorem gI_aIk (A : AM) (u k j : Nat) (v : Int32) (h : j ≠ k) : gI (aI A u k v) u j = gI A u j := up2_nk h
theorem gI_aIu (A : AM) (u w k : Nat) (v : Int32) (h : w ≠ u) : gI (aI A u k v) w = gI A w := up2_ne h
/-- what a job's three roles hold -/
def VJ (A : AM) (t b np : Nat) (pg sk : Nat → Nat) : Prop :=
  gI A t 0 = nI b ∧ isB b ∧ gI A t 3 = nI np ∧ np ≤ 16 ∧ (∀ k, k < np → gI A (t + 1) k = nI (pg k) ∧ pg k < 12) ∧ ∀ k, k < 8 → gI A (t + 2) k = nI (sk k) ∧ sk k ≤ 9999
def JT (n : Nat × Nat) (t : Nat) : Prop := ∃ i, i < n.1 ∧ t = 40 + 3 * i
section
variable {S : Mem} {ad : Nat → Nat} {n : Nat × Nat} {A : AM} {t b np : Nat} {pg sk : Nat → Nat}
theorem JT.l (h : JT n t) (hn : n.1 ≤ 4) : live n t ∧ live n (t + 1) ∧ live n (t + 2) ∧ rk t = 1 ∧ rk (t + 1) = 8 ∧ rk (t + 2) = 8 ∧ rn (t + 1) = 16 ∧ rn (t + 2) = 8 ∧ rr n t 1 = some (t + 1) ∧ rr n t 2 = some (t + 2) := by
  obtain ⟨i, hi, rfl⟩ := h
  have h4 : i = 0 ∨ i = 1 ∨ i = 2 ∨ i = 3 := by omega
  refine ⟨Or.inr (Or.inl (by omega)), Or.inr (Or.inl (by omega)), Or.inr (Or.inl (by omega)), ?_⟩
  rcases h4 with rfl | rfl | rfl | rfl <;> exact ⟨rfl, rfl, rfl, rfl, rfl, rfl, rfl⟩
theorem Rel.jk (h : Rel S ad n A) (ht : JT n t) : isK S (ad t) 1 := by
  have := h.k (ht.l h.2.2.1).1
  rwa [(ht.l h.2.2.1).2.2.2.1] at this
theorem Rel.j1 (h : Rel S ad n A) (ht : JT n t) : mR S (ad t) 1 = some (ad (t + 1)) := h.r (ht.l h.2.2.1).1 (ht.l h.2.2.1).2.2.2.2.2.2.2.2.1
theorem Rel.j2 (h : Rel S ad n A) (ht : JT n t) : mR S (ad t) 2 = some (ad (t + 2)) := h.r (ht.l h.2.2.1).1 (ht.l h.2.2.1).2.2.2.2.2.2.2.2.2
theorem Rel.ji (h : Rel S ad n A) (ht : JT n t) (k : Nat) : mI S (ad t) k = gI A t k := h.i (ht.l h.2.2.1).1 k
theorem sp_placeCount (h : Rel S ad n A) (ht : JT n t) (v : VJ A t b np pg sk) {post : Int32 → Mem → Prop} (hp : post (nI (plc b)) S) : wpX1_placeCount S (ad t) post := by
  have hb : b < 200 := by rcases v.2.1 with h | h | h <;> omega
  refine ⟨h.jk ht, fun c => ?_, fun c => ?_⟩
  all_goals rw [h.ji ht, v.1, nI_eq (by omega) (by decide)] at c
  · rw [plc, if_neg c] at hp; exact hp
  · rw [plc, if_pos c] at hp; exact hp
theorem sp_sheetCount (h : Rel S ad n A) (ht : JT n t) (v : VJ A t b np pg sk) {post : Int32 → Mem → Prop} (hp : post (nI (cntf b np)) S) : wpX1_sheetCount S (ad t) post := by
  have hb : b < 200 := by rcases v.2.1 with h | h | h <;> omega
  have hnp := v.2.2.2.1
  refine ⟨h.jk ht, fun c => ?_, fun c => ?_⟩
  all_goals rw [h.ji ht, v.1, nI_eq (by omega) (by decide)] at c
  all_goals rw [h.ji ht, v.2.2.1, pk_div (by omega) (by decide) (by decide)]
  · rw [cntf, plc, if_neg c] at hp; exact hp
  · rw [cntf, plc, if_pos c] at hp; exact hp
theorem sp_isComplete (h : Rel S ad n A) (ht : JT n t) (v : VJ A t b np pg sk) {post : Int32 → Mem → Prop} (h1 : whl b np → post (nI 1) S) (h0 : ¬ whl b np → post (nI 0) S) : wpX1_isComplete S (ad t) post := by
  have hb : b < 200 := by rcases v.2.1 with h | h | h <;> omega
  have hnp := v.2.2.2.1
  refine ⟨h.jk ht, fun c => ⟨nar0, h0 ?_⟩, fun c => ⟨fun d => ⟨fun e => ⟨nar0, h0 ?_⟩, fun e => ⟨nar1, h1 ?_⟩⟩, fun d => ⟨fun e => ⟨nar0, h0 ?_⟩, fun e => ⟨nar1, h1 ?_⟩⟩⟩⟩
  · rw [h.ji ht, v.2.2.1, i0, nI_leI (by omega) (by decide)] at c
    exact fun z => absurd z.1 (by omega)
  all_goals rw [h.ji ht, v.2.2.1, i0, nI_leI (by omega) (by decide)] at c
  all_goals rw [h.ji ht, v.1, nI_eq (by omega) (by decide)] at d
  all_goals rw [h.ji ht, v.2.2.1, pk_rem (by omega) (by decide) (by decide), i0, nI_eq (by omega) (by decide)] at e
  · unfold whl; rw [plc, if_neg d]; omega
  · unfold whl; rw [plc, if_neg d]; omega
  · unfold whl; rw [plc, if_pos d]; omega
  · unfold whl; rw [plc, if_pos d]; omega
theorem sp_pageOn (h : Rel S ad n A) (ht : JT n t) (v : VJ A t b np pg sk) {i p : Nat} (hi : i < cntf b np) (hp : p < plc b) {post : Int32 → Mem → Prop} (hq : post (nI (pgOn b np i p)) S) : wpX1_pageOn S (ad t) (nI i) (nI p) post := by
  have hb : b < 200 := by rcases v.2.1 with h | h | h <;> omega
  have hnp := v.2.2.2.1
  have hp4 := (plc_pos b).2
  have hi4 : i < np := Nat.lt_of_lt_of_le hi (Nat.div_le_self _ _)
  have hp9 : p < 4 := by omega
  unfold wpX1_pageOn
  rw [h.ji ht, h.ji ht, v.1, v.2.2.1]
  unfold cntf at hi
  unfold plc at hi hp
  refine ⟨h.jk ht, fun c => ⟨fun d => ?_, fun d => ?_⟩, fun c => ?_⟩
  all_goals rw [nI_eq (by omega) (by decide)] at c
  · rw [nI_eq (by omega) (by decide)] at d
    rw [if_neg c] at hi hp
    rw [pk_mul]
    refine ⟨fun e => ?_, fun e => ?_, fun e => ?_, fun e => ?_⟩
    · rw [nI_toInt (by omega)] at e
      obtain rfl : p = 3 := by omega
      rw [pgOn, if_neg c, if_neg d, if_neg (by decide), if_neg (by decide), if_neg (by decide)] at hq
      rw [pk_sub (by omega), pk_sub (by omega)]; exact hq
    all_goals rw [nI_eq (by omega) (by decide)] at e
    all_goals subst e
    · rw [pgOn, if_neg c, if_neg d, if_pos rfl] at hq
      rw [pk_sub (by omega)]; exact hq
    · rw [pgOn, if_neg c, if_neg d, if_neg (by decide), if_pos rfl] at hq
      rw [nI_add]; exact hq
    · rw [pgOn, if_neg c, if_neg d, if_neg (by decide), if_neg (by decide), if_pos rfl] at hq
      rw [nI_add]; exact hq
  · rw [nI_eq (by omega) (by decide)] at d
    rw [pk_mul]
    refine ⟨fun e => ?_, fun e => ?_⟩
    all_goals rw [i0, nI_eq (by omega) (by decide)] at e
    · rw [pgOn, if_neg c, if_pos d, if_neg e] at hq
      rw [nI_add]; exact hq
    · rw [pgOn, if_neg c, if_pos d, if_pos e] at hq
      rw [nI_add]; exact hq
  · rw [pgOn, if_pos c] at hq
    rw [pk_mul, nI_add, nI_add]; exact hq
theorem sp_contentOf (h : Rel S ad n A) (ht : JT n t) (v : VJ A t b np pg sk) {k : Nat} (h1 : 1 ≤ k) (h2 : k ≤ np) {post : Int32 → Mem → Prop} (hq : post (nI (pg (k - 1))) S) : wpX1_contentOf S (ad t) (nI k) post := by
  have hl := ht.l h.2.2.1
  have hnp := v.2.2.2.1
  refine ⟨h.jk ht, _, h.j1 ht, ?_⟩
  rw [pk_sub h1]
  refine sp_at h hl.2.1 hl.2.2.2.2.1 (by rw [hl.2.2.2.2.2.2.1]; omega) ?_
  rw [(v.2.2.2.2.1 (k - 1) (by omega)).1]; exact hq
def conOn (b np : Nat) (pg : Nat → Nat) (i p : Nat) : Nat := pg (pgOn b np i p - 1)
theorem sp_contentOn (h : Rel S ad n A) (ht : JT n t) (v : VJ A t b np pg sk) {i p : Nat} (hi : i < cntf b np) (hp : p < plc b) {post : Int32 → Mem → Prop} (hq : post (nI (conOn b np pg i p)) S) : wpX1_contentOn S (ad t) (nI i) (nI p) post :=
  ⟨h.jk ht, sp_pageOn h ht v hi hp ⟨h.jk ht, sp_contentOf h ht v (pgOn_rng v.2.1 hi hp).1 (pgOn_rng v.2.1 hi hp).2 hq⟩⟩
theorem conOn_lt (v : VJ A t b np pg sk) {i p : Nat} (hi : i < cntf b np) (hp : p < plc b) : conOn b np pg i p < 12 := (v.2.2.2.2.1 _ (by have := pgOn_rng v.2.1 hi hp; omega)).2
def shows (b np : Nat) (pg : Nat → Nat) (i c : Nat) : Prop := ∃ p, p < plc b ∧ conOn b np pg i p = c
theorem sp_isShowing (h : Rel S ad n A) (ht : JT n t) (v : VJ A t b np pg sk) {i c : Nat} (hi : i < cntf b np) (hc : c < 12) {post : Int32 → Mem → Prop} (h1 : shows b np pg i c → post (nI 1) S) (h0 : ¬ shows b np pg i c → post (nI 0) S) : wpX1_isShowing S (ad t) (nI i) (nI c) post := by
  refine ⟨h.jk ht, sp_placeCount h ht v ?_⟩
  have h4 := plc_pos b
  have key : ∀ k p, p + k = plc b → (∀ q, q < p → conOn b np pg i q ≠ c) → wlX1_isShowing_8 (ad t) (nI i) (nI c) (nI (plc b)) post (k + 1) (nI p) S := by
    intro k
    induction k with
    | zero =>
      intro p hp hq
      refine ⟨fun _ => ⟨nar0, h0 fun ⟨q, hq1, hq2⟩ => hq q (by omega) hq2⟩, fun z => ?_⟩
      rw [nI_leI (by omega) (by omega)] at z; omega
    | succ k ih =>
      intro p hp hq
      refine ⟨fun z => ?_, fun _ => ⟨h.jk ht, sp_contentOn h ht v hi (by omega : p < plc b) ⟨fun z => ?_, fun z => ?_⟩⟩⟩
      · rw [nI_leI (by omega) (by omega)] at z; omega
      · rintro x rfl
        rw [nI_add]
        have hlt := conOn_lt v hi (by omega : p < plc b)
        rw [nI_eq (by omega) (by omega)] at z
        exact ih (p + 1) (by omega) (fun q hq1 => by
          rcases Nat.lt_or_ge q p with h5 | h5
          · exact hq q h5
          · obtain rfl : q = p := by omega
            exact z)
      · have hlt := conOn_lt v hi (by omega : p < plc b)
        rw [nI_eq (by omega) (by omega)] at z
        exact ⟨nar1, h1 ⟨p, by omega, z⟩⟩
  exact ⟨_, key (plc b) 0 (by omega) (fun q hq => absurd hq (by omega))⟩
end
