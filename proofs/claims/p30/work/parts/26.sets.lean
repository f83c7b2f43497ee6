/-! ===== sets of sheets, ways to print them, and the least ===== -/
section
def bt (s i : Nat) : Bool := s.testBit i
theorem bt1 : ∀ s, s < 256 → ∀ i, i < 8 → (nI s &&& (nI 1 <<< (nI i &&& 31)) = 0 ↔ bt s i = false) := by decide +kernel
theorem bt2 : ∀ s, s < 256 → ∀ i, i < 8 → nI s &&& ((nI 1 <<< (nI i &&& 31)) ^^^ (-1 : Int32)) = nI (if bt s i then s - 2 ^ i else s) := by decide +kernel
theorem bt3 : ∀ s, s < 256 → ∀ i, i < 8 → ((nI s >>> (nI i &&& 31)) &&& nI 1 = nI 1 ↔ bt s i = true) := by decide +kernel
theorem bt4 : ∀ k, k < 9 → nI 1 <<< (nI k &&& 31) = nI (2 ^ k) := by decide +kernel
theorem bt5 : ∀ s, s < 256 → ∀ i, i < 8 → bt s i = false → nI s ||| (nI 1 <<< (nI i &&& 31)) = nI (s + 2 ^ i) := by decide +kernel
theorem bt6 : ∀ s, s < 256 → ∀ i, i < 8 → bt s i = false → bt (s + 2 ^ i) i = true := by decide +kernel
theorem bt7 : ∀ s, s < 256 → ∀ i, i < 8 → bt s i = true → 2 ^ i ≤ s ∧ bt (s - 2 ^ i) i = false := by decide +kernel
theorem bt8 : ∀ k, k < 9 → ∀ s, s < 2 ^ k → ∀ i, i < k → bt s i = false → s + 2 ^ i < 2 ^ k := by decide +kernel
theorem bt9 : ∀ k, k < 9 → ∀ s, s < 2 ^ k → s = 0 ∨ ∃ i, i < k ∧ bt s i = true := by decide +kernel
theorem bta : ∀ i, i < 8 → bt (2 ^ i) i = true := by decide +kernel
theorem btb : ∀ k, k < 9 → 2 ^ k ≤ 256 := by decide
theorem btc : ∀ i, i < 8 → 0 < 2 ^ i := by decide
theorem btd : ∀ k, k < 9 → ∀ i, i < k → bt (2 ^ k - 1) i = true := by decide +kernel
theorem bte : ∀ k, k < 9 → ∀ i, i < k → 2 ^ i < 2 ^ k := by decide +kernel
/-- how many are in a set -/
def pc (s : Nat) : Nat := (if bt s 0 then 1 else 0) + (if bt s 1 then 1 else 0) + (if bt s 2 then 1 else 0) + (if bt s 3 then 1 else 0) + (if bt s 4 then 1 else 0) + (if bt s 5 then 1 else 0) + (if bt s 6 then 1 else 0) + (if bt s 7 then 1 else 0)
theorem pc1 : ∀ s, s < 256 → ∀ i, i < 8 → bt s i = false → pc (s + 2 ^ i) = pc s + 1 := by decide +kernel
theorem pc2 : ∀ k, k < 9 → ∀ s, s < 2 ^ k → k ≤ pc s → s = 2 ^ k - 1 := by decide +kernel
theorem pc3 : ∀ k, k < 9 → ∀ s, s < 2 ^ k → pc s < k → ∃ i, i < k ∧ bt s i = false := by decide +kernel
theorem pc4 : ∀ k, k < 9 → pc (2 ^ k - 1) = k := by decide +kernel
variable {C : Nat → Nat → Nat} {e k : Nat}
/-- a way to print the set s, i last, at cost v -/
def PW (C : Nat → Nat → Nat) (e k : Nat) : Nat → Nat → Nat → Nat → Prop
  | 0, s, i, v => i < k ∧ s = 2 ^ i ∧ v = C 8 i + e
  | m + 1, s, i, v => ∃ r a w, PW C e k m r a w ∧ i < k ∧ bt r i = false ∧ s = r + 2 ^ i ∧ v = w + C a i
theorem PW.l (hk : k < 9) : ∀ {m s i v : Nat}, PW C e k m s i v → i < k ∧ bt s i = true ∧ 0 < s ∧ s < 2 ^ k := by
  intro m
  induction m with
  | zero => rintro s i v ⟨h1, rfl, h3⟩; exact ⟨h1, bta i (by omega), btc i (by omega), bte k hk i h1⟩
  | succ m ih =>
    rintro s i v ⟨r, a, w, h1, h2, h3, rfl, h5⟩
    have h := ih h1
    have hb := btb k hk
    have hp := btc i (by omega)
    exact ⟨h2, bt6 r (by omega) i (by omega) h3, by omega, bt8 k hk r h.2.2.2 i h2 h3⟩
theorem PW.b (hk : k < 9) (hC : ∀ i j, C i j ≤ 40) : ∀ {m s i v : Nat}, PW C e k m s i v → v ≤ e + 40 * s := by
  intro m
  induction m with
  | zero => rintro s i v ⟨h1, rfl, h3⟩; have := hC 8 i; have := btc i (by omega); omega
  | succ m ih =>
    rintro s i v ⟨r, a, w, h1, h2, h3, rfl, h5⟩
    have h := ih h1
    have := hC a i
    have := btc i (by omega)
    omega
def LW (C : Nat → Nat → Nat) (e k s i v : Nat) : Prop := (∃ m, PW C e k m s i v) ∧ ∀ m w, PW C e k m s i w → v ≤ w
theorem LW.u {s i v w : Nat} (h : LW C e k s i v) (h' : LW C e k s i w) : v = w := by
  obtain ⟨⟨m, hm⟩, h2⟩ := h
  obtain ⟨⟨m', hm'⟩, h2'⟩ := h'
  exact Nat.le_antisymm (h2 _ _ hm') (h2' _ _ hm)
/-- the least of what is asked for -/
def mnf (T : Nat) (q : Nat → Bool) (f : Nat → Nat) : Nat → Nat
  | 0 => T
  | a + 1 => if q a then (if f a < mnf T q f a then f a else mnf T q f a) else mnf T q f a
theorem mnf_le {T : Nat} {q : Nat → Bool} {f : Nat → Nat} : ∀ N, mnf T q f N ≤ T ∧ ∀ a, a < N → q a = true → mnf T q f N ≤ f a := by
  intro N
  induction N with
  | zero => exact ⟨Nat.le_refl _, fun a h => by omega⟩
  | succ N ih =>
    rw [mnf]
    refine ⟨by split <;> (try split) <;> omega, fun a ha hq => ?_⟩
    by_cases e : a = N
    · subst e; rw [if_pos hq]; split <;> omega
    · have := ih.2 a (by omega) hq
      split <;> (try split) <;> omega
theorem mnf_at {T : Nat} {q : Nat → Bool} {f : Nat → Nat} : ∀ N, mnf T q f N = T ∨ ∃ a, a < N ∧ q a = true ∧ mnf T q f N = f a := by
  intro N
  induction N with
  | zero => exact Or.inl rfl
  | succ N ih =>
    rw [mnf]
    have st : mnf T q f N = T ∨ ∃ a, a < N + 1 ∧ q a = true ∧ mnf T q f N = f a := by
      rcases ih with h | ⟨a, h1, h2, h3⟩
      · exact Or.inl h
      · exact Or.inr ⟨a, by omega, h2, h3⟩
    split
    · rename_i hq
      split
      · exact Or.inr ⟨N, by omega, hq, rfl⟩
      · exact st
    · exact st
theorem mnf_in {T : Nat} {q : Nat → Bool} {f : Nat → Nat} {N a : Nat} (ha : a < N) (hq : q a = true) (hf : f a ≤ T) : ∃ a, a < N ∧ q a = true ∧ mnf T q f N = f a := by
  rcases mnf_at (T := T) (q := q) (f := f) N with h | h
  · have := (mnf_le (T := T) (q := q) (f := f) N).2 a ha hq
    exact ⟨a, ha, hq, by omega⟩
  · exact h
theorem LW.one {i : Nat} (hk : k < 9) (hi : i < k) : LW C e k (2 ^ i) i (C 8 i + e) := by
  refine ⟨⟨0, hi, rfl, rfl⟩, fun m w h => ?_⟩
  cases m with
  | zero => exact Nat.le_of_eq h.2.2.symm
  | succ m =>
    obtain ⟨r, a, w', h1, h2, h3, h4, h5⟩ := h
    have := (PW.l hk h1).2.2.1
    omega
theorem LW.step {T s i : Nat} {M : Nat → Nat} (hk : k < 9) (hC : ∀ i j, C i j ≤ 40) (hT : e + 10280 ≤ T) (hs : s < 2 ^ k) (hi : i < k) (hb : bt s i = true) (hr : s ≠ 2 ^ i) (hM : ∀ a, a < k → bt (s - 2 ^ i) a = true → LW C e k (s - 2 ^ i) a (M a)) : LW C e k s i (mnf T (bt (s - 2 ^ i)) (fun a => M a + C a i) k) := by
  have h256 := btb k hk
  have h7 := bt7 s (by omega) i (by omega) hb
  have hp := btc i (by omega)
  have hne : s - 2 ^ i ≠ 0 := by omega
  rcases bt9 k hk (s - 2 ^ i) (by omega) with h | ⟨a0, ha0, hb0⟩
  · exact absurd h hne
  have hbd : ∀ a, a < k → bt (s - 2 ^ i) a = true → M a + C a i ≤ T := by
    intro a ha hba
    obtain ⟨⟨m, hm⟩, -⟩ := hM a ha hba
    have := PW.b hk hC hm
    have := hC a i
    omega
  obtain ⟨a, ha, hba, ea⟩ := mnf_in (T := T) (q := bt (s - 2 ^ i)) (f := fun a => M a + C a i) ha0 hb0 (hbd a0 ha0 hb0)
  constructor
  · obtain ⟨⟨m, hm⟩, -⟩ := hM a ha hba
    exact ⟨m + 1, s - 2 ^ i, a, M a, hm, hi, h7.2, by omega, ea⟩
  · intro m w hw
    cases m with
    | zero => exact absurd hw.2.1 hr
    | succ m =>
      obtain ⟨r, b, w', h1, h2, h3, h4, h5⟩ := hw
      have hr' : r = s - 2 ^ i := by omega
      subst hr'
      have hl := PW.l hk h1
      have := (mnf_le (T := T) (q := bt (s - 2 ^ i)) (f := fun a => M a + C a i) k).2 b hl.1 hl.2.1
      have h6 := (hM b hl.1 hl.2.1).2 _ _ h1
      omega
/-- the least of all orders -/
def LA (C : Nat → Nat → Nat) (e k v : Nat) : Prop := (∃ m i, PW C e k m (2 ^ k - 1) i v) ∧ ∀ m i w, PW C e k m (2 ^ k - 1) i w → v ≤ w
theorem LA.u {v w : Nat} (h : LA C e k v) (h' : LA C e k w) : v = w := by
  obtain ⟨⟨m, i, hm⟩, h2⟩ := h
  obtain ⟨⟨m', i', hm'⟩, h2'⟩ := h'
  exact Nat.le_antisymm (h2 _ _ _ hm') (h2' _ _ _ hm)
theorem LA.mk {T : Nat} {M : Nat → Nat} (hk : k < 9) (h0 : 0 < k) (hC : ∀ i j, C i j ≤ 40) (hT : e + 10280 ≤ T) (hM : ∀ a, a < k → LW C e k (2 ^ k - 1) a (M a)) : LA C e k (mnf T (fun _ => true) M k) := by
  have h256 := btb k hk
  have hbd : M 0 ≤ T := by
    obtain ⟨⟨m, hm⟩, -⟩ := hM 0 h0
    have := PW.b hk hC hm
    omega
  obtain ⟨a, ha, -, ea⟩ := mnf_in (T := T) (q := fun _ => true) (f := M) h0 rfl hbd
  constructor
  · obtain ⟨⟨m, hm⟩, -⟩ := hM a ha
    exact ⟨m, a, by rw [ea]; exact hm⟩
  · intro m i w hw
    have hl := PW.l hk hw
    exact Nat.le_trans ((mnf_le (T := T) (q := fun _ => true) (f := M) k).2 i hl.1 rfl) ((hM i hl.1).2 _ _ hw)
theorem PW.sh : ∀ {m s i v : Nat}, PW C 0 k m s i v → PW C e k m s i (v + e) := by
  intro m
  induction m with
  | zero => rintro s i v ⟨h1, h2, h3⟩; exact ⟨h1, h2, by omega⟩
  | succ m ih =>
    rintro s i v ⟨r, a, w, h1, h2, h3, h4, h5⟩
    exact ⟨r, a, w + e, ih h1, h2, h3, h4, by omega⟩
theorem PW.hs : ∀ {m s i v : Nat}, PW C e k m s i v → ∃ u, PW C 0 k m s i u ∧ v = u + e := by
  intro m
  induction m with
  | zero => rintro s i v ⟨h1, h2, h3⟩; exact ⟨C 8 i, ⟨h1, h2, rfl⟩, h3⟩
  | succ m ih =>
    rintro s i v ⟨r, a, w, h1, h2, h3, h4, h5⟩
    obtain ⟨u, hu, rfl⟩ := ih h1
    exact ⟨u + C a i, ⟨r, a, u, hu, h2, h3, h4, rfl⟩, by omega⟩
theorem LA.sh {v : Nat} (h : LA C 0 k v) : LA C e k (v + e) := by
  obtain ⟨⟨m, i, hm⟩, h2⟩ := h
  refine ⟨⟨m, i, hm.sh⟩, fun m i w hw => ?_⟩
  obtain ⟨u, hu, rfl⟩ := hw.hs
  have := h2 _ _ _ hu
  omega
theorem PW.cg {C' : Nat → Nat → Nat} (hc : ∀ i j, j < k → (i < k ∨ i = 8) → C i j = C' i j) (hk : k < 9) : ∀ {m s i v : Nat}, PW C e k m s i v → PW C' e k m s i v := by
  intro m
  induction m with
  | zero => rintro s i v ⟨h1, h2, h3⟩; exact ⟨h1, h2, by rw [h3, hc 8 i h1 (Or.inr rfl)]⟩
  | succ m ih =>
    rintro s i v ⟨r, a, w, h1, h2, h3, h4, h5⟩
    exact ⟨r, a, w, ih h1, h2, h3, h4, by rw [h5, hc a i h2 (Or.inl (PW.l hk h1).1)]⟩
theorem LA.cg {C' : Nat → Nat → Nat} (hc : ∀ i j, j < k → (i < k ∨ i = 8) → C i j = C' i j) (hk : k < 9) {v : Nat} (h : LA C e k v) : LA C' e k v := by
  obtain ⟨⟨m, i, hm⟩, h2⟩ := h
  refine ⟨⟨m, i, hm.cg hc hk⟩, fun m i w hw => h2 m i w (hw.cg (fun i j a b => (hc i j a b).symm) hk)⟩
/-- a way to print the rest -/
def QW (C : Nat → Nat → Nat) (k : Nat) : Nat → Nat → Nat → Nat → Prop
  | 0, u, _, w => u = 2 ^ k - 1 ∧ w = 0
  | m + 1, u, b, w => ∃ i v, i < k ∧ bt u i = false ∧ QW C k m (u + 2 ^ i) i v ∧ w = C b i + v
def LQ (C : Nat → Nat → Nat) (k u b v : Nat) : Prop := (∃ m, QW C k m u b v) ∧ ∀ m w, QW C k m u b w → v ≤ w
theorem PQ : ∀ {m s a w : Nat}, QW C k m s a w → ∀ {n v : Nat}, PW C e k n s a v → ∃ n i, PW C e k n (2 ^ k - 1) i (v + w) := by
  intro m
  induction m with
  | zero => rintro s a w ⟨rfl, rfl⟩ n v h; exact ⟨n, a, h⟩
  | succ m ih =>
    rintro s a w ⟨i, v', h1, h2, h3, rfl⟩ n v h
    obtain ⟨n', i', h'⟩ := ih h3 (n := n + 1) (v := v + C a i) ⟨s, a, v, h, h1, h2, rfl, rfl⟩
    exact ⟨n', i', by rw [← Nat.add_assoc]; exact h'⟩
theorem QP : ∀ {n s a v : Nat}, PW C e k n s a v → ∀ {m w : Nat}, QW C k m s a w → ∃ m u, QW C k m 0 8 u ∧ u + e = v + w := by
  intro n
  induction n with
  | zero =>
    rintro s a v ⟨h1, rfl, rfl⟩ m w h
    refine ⟨m + 1, C 8 a + w, ⟨a, w, h1, ?_, ?_, rfl⟩, by omega⟩
    · unfold bt; exact Nat.zero_testBit a
    · rw [Nat.zero_add]; exact h
  | succ n ih =>
    rintro s a v ⟨r, b, w', h1, h2, h3, rfl, rfl⟩ m w h
    obtain ⟨m', u, h4, h5⟩ := ih h1 (m := m + 1) (w := C b a + w) ⟨a, w, h2, h3, h, rfl⟩
    exact ⟨m', u, h4, by omega⟩
theorem LQ.la (hk : k < 9) (h0 : 0 < k) {v : Nat} (h : LQ C k 0 8 v) : LA C e k (v + e) := by
  have hp : 1 < 2 ^ k := Nat.one_lt_two_pow (by omega)
  obtain ⟨⟨m, hm⟩, h2⟩ := h
  constructor
  · cases m with
    | zero => have := hm.1; omega
    | succ m =>
      obtain ⟨i, w, h3, h4, h5, rfl⟩ := hm
      rw [Nat.zero_add] at h5
      obtain ⟨n, j, h6⟩ := PQ h5 (e := e) (n := 0) (v := C 8 i + e) ⟨h3, rfl, rfl⟩
      exact ⟨n, j, by rw [show C 8 i + w + e = C 8 i + e + w by omega]; exact h6⟩
  · intro m i w hw
    obtain ⟨m', u, h4, h5⟩ := QP hw (m := 0) (w := 0) ⟨rfl, rfl⟩
    have := h2 _ _ h4
    omega
theorem LQ.step {T u b : Nat} {M : Nat → Nat} (hk : k < 9) (hu : u < 2 ^ k) (hn : u ≠ 2 ^ k - 1) (hT : ∀ i, i < k → bt u i = false → C b i + M i ≤ T) (hx : ∃ i, i < k ∧ bt u i = false) (hM : ∀ i, i < k → bt u i = false → LQ C k (u + 2 ^ i) i (M i)) : LQ C k u b (mnf T (fun i => !bt u i) (fun i => C b i + M i) k) := by
  obtain ⟨i0, hi0, hb0⟩ := hx
  obtain ⟨i, hi, hbi, ei⟩ := mnf_in (T := T) (q := fun i => !bt u i) (f := fun i => C b i + M i) hi0 (by simp [hb0]) (hT i0 hi0 hb0)
  have hbi : bt u i = false := by simpa using hbi
  constructor
  · obtain ⟨⟨m, hm⟩, -⟩ := hM i hi hbi
    exact ⟨m + 1, i, M i, hi, hbi, hm, ei⟩
  · intro m w hw
    cases m with
    | zero => exact absurd hw.1 hn
    | succ m =>
      obtain ⟨i', v', h1, h2, h3, rfl⟩ := hw
      have h4 := (mnf_le (T := T) (q := fun i => !bt u i) (f := fun i => C b i + M i) k).2 i' h1 (by simp [h2])
      have h6 := (hM i' h1 h2).2 _ _ h3
      omega
theorem QW.b (hC : ∀ i j, C i j ≤ 40) : ∀ {m u b w : Nat}, QW C k m u b w → u + 1 ≤ 2 ^ k → 40 * u + w ≤ 40 * (2 ^ k - 1) := by
  intro m
  induction m with
  | zero => rintro u b w ⟨rfl, rfl⟩ h; omega
  | succ m ih =>
    rintro u b w ⟨i, v, h1, h2, h3, rfl⟩ h
    have hp : 0 < 2 ^ i := Nat.two_pow_pos i
    have := hC b i
    by_cases q : u + 2 ^ i + 1 ≤ 2 ^ k
    · have := ih h3 q; omega
    · exfalso
      have key : ∀ {m u b w : Nat}, QW C k m u b w → u + 1 ≤ 2 ^ k := by
        intro m
        induction m with
        | zero => rintro u b w ⟨rfl, -⟩; have := Nat.two_pow_pos k; omega
        | succ m ih2 => rintro u b w ⟨i, v, -, -, h3, -⟩; have := ih2 h3; have := Nat.two_pow_pos i; omega
      exact q (key h3)
theorem min_nI {a b : Nat} (ha : a < 2147483648) (hb : b < 2147483648) : (if nI a < nI b then nI a else nI b) = nI (if a < b then a else b) := by
  by_cases h : a < b
  · rw [if_pos h, if_pos ((nI_ltI ha hb).2 h)]
  · rw [if_neg h, if_neg (fun w => h ((nI_ltI ha hb).1 w))]
theorem big1 : (1000000 : Int32) = nI 1000000 := by decide
theorem big2 : (2147483647 : Int32) = nI 2147483647 := by decide
end
