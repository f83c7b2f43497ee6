/-! ===== the class's orders: by sets, and by trying ===== -/
section
variable {S : Mem} {ad : Nat → Nat} {n : Nat × Nat} {A : AM} {C : Nat → Nat → Nat} {e k : Nat}
/-- the table of role r is right for sets below w -/
def TB (A : AM) (r : Nat) (C : Nat → Nat → Nat) (e k w : Nat) : Prop := ∀ s i, 0 < s → s < w → i < k → bt s i = true → ∃ v, gI A r (8 * s + i) = nI v ∧ LW C e k s i v
theorem LW.lt {s i v : Nat} (hk : k < 9) (hC : ∀ i j, C i j ≤ 40) (h : LW C e k s i v) : v ≤ e + 10240 := by
  obtain ⟨⟨m, hm⟩, -⟩ := h
  have := PW.b hk hC hm
  have := (PW.l hk hm).2.2.2
  have := btb k hk
  omega
theorem TB.M {r s : Nat} (hk : k < 9) (hC : ∀ i j, C i j ≤ 40) (he : e < 100) {w : Nat} (tb : TB A r C e k w) (h0 : 0 < s) (hs : s < w) {a : Nat} (ha : a < k) (hb : bt s a = true) : gI A r (8 * s + a) = nI (gI A r (8 * s + a)).toNatClampNeg ∧ LW C e k s a (gI A r (8 * s + a)).toNatClampNeg := by
  obtain ⟨v, h1, h2⟩ := tb s a h0 hs ha hb
  have := h2.lt hk hC
  rw [h1, nI_clamp (by omega)]
  exact ⟨rfl, h2⟩
theorem sp_leastOfSet (h : Rel S ad n A) (h3 : gI A 9 3 = nI k) (hk : k < 9) (hC : cg A = C) {s i : Nat} (hs : s < 2 ^ k) (hi : i < k) (hb : bt s i = true) (tb : TB A 12 C 0 k s) {post : Int32 → Mem → Prop} (hq : ∀ v, LW C 0 k s i v → post (nI v) S) : wpX3_leastOfSet S (ad 9) (nI s) (nI i) post := by
  have h256 := btb k hk
  have C40 : ∀ i j, C i j ≤ 40 := by rw [← hC]; exact cg_le A
  have h7 := bt7 s (by omega) i (by omega) hb
  have hp := btc i (by omega)
  rintro x1 rfl
  rw [bt2 s (by omega) i (by omega), if_pos hb]
  refine ⟨fun z => ?_, fun z => ?_⟩
  · rw [i0, nI_eq (by omega) (by decide)] at z
    have hM : ∀ a, a < k → bt (s - 2 ^ i) a = true → gI A 12 (8 * (s - 2 ^ i) + a) = nI (gI A 12 (8 * (s - 2 ^ i) + a)).toNatClampNeg ∧ LW C 0 k (s - 2 ^ i) a (gI A 12 (8 * (s - 2 ^ i) + a)).toNatClampNeg := fun a ha hb => tb.M hk C40 (by decide) (by omega) (by omega) ha hb
    have key : ∀ m a, a + m = k → wlX3_leastOfSet_34 (ad 9) (nI s) (nI i) (nI (s - 2 ^ i)) post (m + 1) (nI (mnf 1000000 (bt (s - 2 ^ i)) (fun a => (gI A 12 (8 * (s - 2 ^ i) + a)).toNatClampNeg + C a i) a)) (nI a) S := by
      intro m
      induction m with
      | zero =>
        intro a ha
        obtain rfl : a = k := by omega
        refine ⟨h.k L9, ?_⟩
        rw [h.i L9, h3]
        refine ⟨fun _ => hq _ (LW.step hk C40 (by decide) hs hi hb (by omega) fun a ha hb => (hM a ha hb).2), fun z => absurd (nI_le (Nat.le_refl _) (by omega)) z⟩
      | succ m ih =>
        intro a ha
        have e := ih (a + 1) (by omega)
        rw [mnf] at e
        refine ⟨h.k L9, ?_⟩
        rw [h.i L9, h3]
        refine ⟨fun z => ?_, fun _ => ⟨fun z => ?_, fun z => ⟨ad 12, h.r L9 rfl, ?_⟩⟩⟩
        · rw [nI_leI (by omega) (by omega)] at z; omega
        · rw [bt1 _ (by omega) a (by omega)] at z
          rintro x6 rfl
          rw [nI_add]
          rw [if_neg (by rw [z]; decide)] at e
          exact e
        · rw [bt1 _ (by omega) a (by omega)] at z
          have z : bt (s - 2 ^ i) a = true := by simpa using z
          have hm := hM a (by omega) z
          have hv := hm.2.lt hk C40
          have hc := C40 a i
          have hl := (mnf_le (T := 1000000) (q := bt (s - 2 ^ i)) (f := fun a => (gI A 12 (8 * (s - 2 ^ i) + a)).toNatClampNeg + C a i) a).1
          rw [if_pos z] at e
          rw [pk_mul, nI_add, Nat.mul_comm]
          refine sp_at h L12 rfl (show _ < 2048 by omega) ⟨h.k L9, ad 10, h.r L9 rfl, ad 11, h.r L9 rfl, sp_change h (by omega) (by omega) ?_⟩
          rintro x15 rfl x16 rfl x17 rfl
          rw [hC, hm.1, nI_add, nI_add, min_nI (by omega) (by omega)]
          exact e
    rw [big1]
    exact ⟨_, key k 0 (by omega)⟩
  · rw [i0, nI_eq (by omega) (by decide)] at z
    have hs2 : s = 2 ^ i := by omega
    refine ⟨h.k L9, ad 10, h.r L9 rfl, ad 11, h.r L9 rfl, sp_change h (by decide) (by omega) ?_⟩
    rw [hC]
    refine hq _ ?_
    rw [hs2]
    exact LW.one hk hi
theorem cg_ex {A' : AM} (x : Ex A A' 12) : cg A' = cg A := by
  funext i j
  unfold cg
  rw [x.1 10 (by decide), x.1 11 (by decide)]
theorem sp_f18 (h : Rel S ad n A) (h3 : gI A 9 3 = nI k) (hk : k < 9) (hC : cg A = C) {s : Nat} (h0 : 0 < s) (hs : s < 2 ^ k) (tb : TB A 12 C 0 k s) {x2 : Int32} {post J : Int32 → Mem → Prop} (hJ : ∀ S' A', Rel S' ad n A' → Ex A A' 12 → TB A' 12 C 0 k (s + 1) → J (nI (s + 1)) S') : ∃ m, wlX3_leastForAllSets_18 (ad 9) x2 (nI s) post J m (nI 0) S := by
  have h256 := btb k hk
  have key : ∀ m i S1 A1, i + m = k → Rel S1 ad n A1 → Ex A A1 12 → TB A1 12 C 0 k s → (∀ i', i' < i → bt s i' = true → ∃ v, gI A1 12 (8 * s + i') = nI v ∧ LW C 0 k s i' v) → wlX3_leastForAllSets_18 (ad 9) x2 (nI s) post J (m + 1) (nI i) S1 := by
    intro m
    induction m with
    | zero =>
      intro i S1 A1 hi k1 x1 t1 p1
      obtain rfl : i = k := by omega
      refine ⟨k1.k L9, ?_⟩
      rw [k1.i L9, x1.1 9 (by decide), h3]
      refine ⟨fun _ => ?_, fun z => absurd (nI_le (Nat.le_refl _) (by omega)) z⟩
      rintro y rfl
      rw [nI_add]
      refine hJ _ _ k1 x1 fun s' i' g1 g2 g3 g4 => ?_
      by_cases q : s' = s
      · subst q; exact p1 i' g3 g4
      · exact t1 s' i' g1 (by omega) g3 g4
    | succ m ih =>
      intro i S1 A1 hi k1 x1 t1 p1
      refine ⟨k1.k L9, ?_⟩
      rw [k1.i L9, x1.1 9 (by decide), h3]
      refine ⟨fun z => ?_, fun _ => ⟨fun z => ?_, fun z => ⟨ad 12, k1.r L9 rfl, ?_⟩⟩⟩
      · rw [nI_leI (by omega) (by omega)] at z; omega
      · rw [bt1 _ (by omega) i (by omega)] at z
        rintro y rfl
        rw [nI_add]
        refine ih (i + 1) _ _ (by omega) k1 x1 t1 fun i' g1 g2 => ?_
        by_cases q : i' = i
        · subst q; rw [z] at g2; exact absurd g2 (by decide)
        · exact p1 i' (by omega) g2
      · rw [bt1 _ (by omega) i (by omega)] at z
        have z : bt s i = true := by simpa using z
        refine sp_leastOfSet k1 (by rw [x1.1 9 (by decide), h3]) hk ((cg_ex x1).trans hC) hs (by omega) z t1 fun v hv => ?_
        rw [pk_mul, nI_add, Nat.mul_comm]
        refine sp_put k1 L12 rfl (show _ < 2048 by omega) fun S2 k2 => ?_
        rintro y rfl
        rw [nI_add]
        refine ih (i + 1) _ _ (by omega) k2 (x1.tr (Ex.aI _ _ _ _)) (fun s' i' g1 g2 g3 g4 => ?_) fun i' g1 g2 => ?_
        · rw [gI_aIk _ _ _ _ _ (by omega)]; exact t1 s' i' g1 g2 g3 g4
        · by_cases q : i' = i
          · subst q; rw [gI_aI]; exact ⟨v, rfl, hv⟩
          · rw [gI_aIk _ _ _ _ _ (by omega)]; exact p1 i' (by omega) g2
  exact ⟨_, key k 0 S A (by omega) h (Ex.rf A _) tb fun i' g => by omega⟩
theorem sp_f70 (h : Rel S ad n A) (h3 : gI A 9 3 = nI k) (hk : k < 9) (h0 : 0 < k) (C40 : ∀ i j, C i j ≤ 40) (tb : TB A 12 C 0 k (2 ^ k)) {post J : Int32 → Mem → Prop} (hq : ∀ v, LA C 0 k v → post (nI v) S) : ∃ m, wlX3_leastForAllSets_70 (ad 9) (nI (2 ^ k - 1)) post J m (1000000 : Int32) (nI 0) S := by
  have h256 := btb k hk
  have h1 : 1 < 2 ^ k := Nat.one_lt_two_pow (by omega)
  have hM : ∀ a, a < k → gI A 12 (8 * (2 ^ k - 1) + a) = nI (gI A 12 (8 * (2 ^ k - 1) + a)).toNatClampNeg ∧ LW C 0 k (2 ^ k - 1) a (gI A 12 (8 * (2 ^ k - 1) + a)).toNatClampNeg := fun a ha => tb.M hk C40 (by decide) (by omega) (by omega) ha (btd k hk a ha)
  have key : ∀ m a, a + m = k → wlX3_leastForAllSets_70 (ad 9) (nI (2 ^ k - 1)) post J (m + 1) (nI (mnf 1000000 (fun _ => true) (fun a => (gI A 12 (8 * (2 ^ k - 1) + a)).toNatClampNeg) a)) (nI a) S := by
    intro m
    induction m with
    | zero =>
      intro a ha
      obtain rfl : a = k := by omega
      refine ⟨h.k L9, ?_⟩
      rw [h.i L9, h3]
      refine ⟨fun _ => hq _ (LA.mk hk h0 C40 (by decide) fun a ha => (hM a ha).2), fun z => absurd (nI_le (Nat.le_refl _) (by omega)) z⟩
    | succ m ih =>
      intro a ha
      have e := ih (a + 1) (by omega)
      rw [mnf, if_pos rfl] at e
      refine ⟨h.k L9, ?_⟩
      rw [h.i L9, h3]
      refine ⟨fun z => ?_, fun _ => ⟨ad 12, h.r L9 rfl, ?_⟩⟩
      · rw [nI_leI (by omega) (by omega)] at z; omega
      · have hm := hM a (by omega)
        have hv := hm.2.lt hk C40
        have hl := (mnf_le (T := 1000000) (q := fun _ => true) (f := fun a => (gI A 12 (8 * (2 ^ k - 1) + a)).toNatClampNeg) a).1
        rw [pk_mul, nI_add, Nat.mul_comm]
        refine sp_at h L12 rfl (show _ < 2048 by omega) ?_
        rintro x9 rfl x10 rfl
        rw [hm.1, nI_add, min_nI (by omega) (by omega)]
        exact e
  rw [big1]
  exact ⟨_, key k 0 (by omega)⟩
theorem sp_leastForAllSets (h : Rel S ad n A) (h3 : gI A 9 3 = nI k) (hk : k < 9) (h0 : 0 < k) (hC : cg A = C) {post : Int32 → Mem → Prop} (hq : ∀ S' A' v, Rel S' ad n A' → Ex A A' 12 → LA C 0 k v → post (nI v) S') : wpX3_leastForAllSets S (ad 9) post := by
  have h256 := btb k hk
  have h1 : 1 < 2 ^ k := Nat.one_lt_two_pow (by omega)
  have C40 : ∀ i j, C i j ≤ 40 := by rw [← hC]; exact cg_le A
  refine ⟨h.k L9, ?_⟩
  rw [h.i L9, h3, bt4 k hk, pk_sub (by omega)]
  rintro x2 rfl
  have key : ∀ m s S1 A1, s + m = 2 ^ k → 0 < s → Rel S1 ad n A1 → Ex A A1 12 → TB A1 12 C 0 k s → wlX3_leastForAllSets_11 (ad 9) (nI (2 ^ k - 1)) post (m + 1) (nI s) S1 := by
    intro m
    induction m with
    | zero =>
      intro s S1 A1 hs hs0 k1 x1 t1
      obtain rfl : s = 2 ^ k := by omega
      exact ⟨fun _ => sp_f70 k1 (by rw [x1.1 9 (by decide), h3]) hk h0 C40 t1 fun v hv => hq _ _ _ k1 x1 hv, fun z => absurd (nI_lt (by omega) (by omega)) z⟩
    | succ m ih =>
      intro s S1 A1 hs hs0 k1 x1 t1
      refine ⟨fun z => ?_, fun _ => sp_f18 k1 (by rw [x1.1 9 (by decide), h3]) hk ((cg_ex x1).trans hC) hs0 (by omega) t1 fun S2 A2 k2 x2 t2 => ih (s + 1) _ _ (by omega) (by omega) k2 (x1.tr x2) t2⟩
      rw [nI_ltI (by omega) (by omega)] at z; omega
  exact ⟨_, key (2 ^ k - 1) 1 S A (by omega) (by decide) h (Ex.rf A _) fun s' i' g1 g2 => by omega⟩
theorem LQ.u {u b v w : Nat} (h : LQ C k u b v) (h' : LQ C k u b w) : v = w := by
  obtain ⟨⟨m, hm⟩, h2⟩ := h
  obtain ⟨⟨m', hm'⟩, h2'⟩ := h'
  exact Nat.le_antisymm (h2 _ _ hm') (h2' _ _ hm)
theorem LQ.lt (hk : k < 9) (C40 : ∀ i j, C i j ≤ 40) {u b v : Nat} (hu : u < 2 ^ k) (h : LQ C k u b v) : v ≤ 10240 := by
  obtain ⟨⟨m, hm⟩, -⟩ := h
  have := QW.b C40 hm (by omega)
  have := btb k hk
  omega
theorem LQ.ex (hk : k < 9) (C40 : ∀ i j, C i j ≤ 40) : ∀ m u b, u < 2 ^ k → pc u + m = k → ∃ v, LQ C k u b v := by
  have h256 := btb k hk
  intro m
  induction m with
  | zero =>
    intro u b hu hp
    exact ⟨0, ⟨0, pc2 k hk u hu (by omega), rfl⟩, fun _ _ _ => Nat.zero_le _⟩
  | succ m ih =>
    intro u b hu hp
    have hx : ∀ i, ∃ v, i < k → bt u i = false → LQ C k (u + 2 ^ i) i v := by
      intro i
      by_cases hi : i < k
      · by_cases hb : bt u i = false
        · obtain ⟨v, hv⟩ := ih (u + 2 ^ i) i (bt8 k hk u hu i hi hb) (by rw [pc1 u (by omega) i (by omega) hb]; omega)
          exact ⟨v, fun _ _ => hv⟩
        · exact ⟨0, fun _ q => absurd q hb⟩
      · exact ⟨0, fun q => absurd q hi⟩
    have hM : ∀ i, i < k → bt u i = false → LQ C k (u + 2 ^ i) i (Classical.choose (hx i)) := fun i => Classical.choose_spec (hx i)
    refine ⟨_, LQ.step (T := 1000000) (M := fun i => Classical.choose (hx i)) hk hu (fun q => ?_) (fun i hi hb => ?_) (pc3 k hk u hu (by omega)) hM⟩
    · rw [q, pc4 k hk] at hp; omega
    · have := (hM i hi hb).lt hk C40 (bt8 k hk u hu i hi hb)
      have := C40 b i
      omega
theorem sp_leastOfRest (h : Rel S ad n A) (hk : k < 7) (hC : cg A = C) : ∀ m fu u b, pc u + m = k → m < fu → u < 2 ^ k → b < 9 → ∀ post : Int32 → Mem → Prop, (∀ v, LQ C k u b v → post (nI v) S) → wpX3_leastOfRest fu S (ad 10) (ad 11) (nI k) (nI u) (nI b) (nI (pc u)) post := by
  have h256 := btb k (by omega)
  have C40 : ∀ i j, C i j ≤ 40 := by rw [← hC]; exact cg_le A
  intro m
  induction m with
  | zero =>
    intro fu u b hp hf hu hb post hq
    obtain ⟨d, rfl⟩ : ∃ d, fu = d + 1 := ⟨fu - 1, by omega⟩
    refine ⟨fun _ => hq 0 ⟨⟨0, pc2 k (by omega) u hu (by omega), rfl⟩, fun _ _ _ => Nat.zero_le _⟩, fun z => ?_⟩
    rw [nI_leI (by omega) (by omega)] at z; omega
  | succ m ih =>
    intro fu u b hp hf hu hb post hq
    obtain ⟨d, rfl⟩ : ∃ d, fu = d + 1 := ⟨fu - 1, by omega⟩
    have hx : ∀ i, ∃ v, i < k → bt u i = false → LQ C k (u + 2 ^ i) i v := by
      intro i
      by_cases hi : i < k
      · by_cases hb : bt u i = false
        · obtain ⟨v, hv⟩ := LQ.ex (C := C) (by omega : k < 9) C40 m (u + 2 ^ i) i (bt8 k (by omega) u hu i hi hb) (by rw [pc1 u (by omega) i (by omega) hb]; omega)
          exact ⟨v, fun _ _ => hv⟩
        · exact ⟨0, fun _ q => absurd q hb⟩
      · exact ⟨0, fun q => absurd q hi⟩
    obtain ⟨M, hM⟩ : ∃ M : Nat → Nat, ∀ i, i < k → bt u i = false → LQ C k (u + 2 ^ i) i (M i) := ⟨fun i => Classical.choose (hx i), fun i => Classical.choose_spec (hx i)⟩
    have hlt : ∀ i, i < k → bt u i = false → C b i + M i ≤ 1000000 := by
      intro i hi hb2
      have := (hM i hi hb2).lt (by omega) C40 (bt8 k (by omega) u hu i hi hb2)
      have := C40 b i
      omega
    refine ⟨fun z => ?_, fun _ => ⟨fun _ => ?_, fun z => ?_⟩⟩
    · rw [nI_leI (by omega) (by omega)] at z; omega
    · have key : ∀ q a, a + q = k → wlX3_leastOfRest_22 (ad 10) (ad 11) (nI k) (nI u) (nI b) (nI (pc u)) (fun S a0 a1 p2 p3 p4 p5 post => wpX3_leastOfRest d S a0 a1 p2 p3 p4 p5 post) post (q + 1) (nI (mnf 1000000 (fun i => !bt u i) (fun i => C b i + M i) a)) (nI a) S := by
        intro q
        induction q with
        | zero =>
          intro a ha
          obtain rfl : a = k := by omega
          refine ⟨fun _ => hq _ (LQ.step (by omega) hu (fun w => ?_) hlt (pc3 a (by omega) u hu (by omega)) hM), fun z => absurd (nI_le (Nat.le_refl _) (by omega)) z⟩
          rw [w, pc4 a (by omega)] at hp; omega
        | succ q ih2 =>
          intro a ha
          have e := ih2 (a + 1) (by omega)
          rw [mnf] at e
          refine ⟨fun z => ?_, fun _ => ?_⟩
          · rw [nI_leI (by omega) (by omega)] at z; omega
          · rintro x4 rfl
            rw [bt1 _ (by omega) a (by omega)]
            refine ⟨fun z => ?_, fun z => ?_⟩
            · have z : bt u a = true := by simpa using z
              rintro x6 rfl
              rw [nI_add]
              rw [if_neg (by rw [z]; decide)] at e
              exact e
            · rw [if_pos (by rw [z]; rfl)] at e
              refine sp_change h hb (by omega) ?_
              rw [bt5 u (by omega) a (by omega) z, nI_add, ← pc1 u (by omega) a (by omega) z]
              refine ih d _ _ (by rw [pc1 u (by omega) a (by omega) z]; omega) (by omega) (bt8 k (by omega) u hu a (by omega) z) (by omega) _ fun v hv => ?_
              obtain rfl := hv.u (hM a (by omega) z)
              have hc := hlt a (by omega) z
              have hl := (mnf_le (T := 1000000) (q := fun i => !bt u i) (f := fun i => C b i + M i) a).1
              rintro x11 rfl x12 rfl x13 rfl
              rw [hC, nI_add, nI_add, min_nI (by omega) (by omega)]
              exact e
      rw [big1]
      exact ⟨_, key k 0 (by omega)⟩
    · rw [nI_ltI (by omega) (by decide)] at z; omega
theorem pc0 : pc 0 = 0 := by decide
theorem sp_leastOfAllOrders (h : Rel S ad n A) (h3 : gI A 9 3 = nI k) (hk : k < 7) (h0 : 0 < k) (hC : cg A = C) {post : Int32 → Mem → Prop} (hq : ∀ v, LA C 0 k v → post (nI v) S) : wpX3_leastOfAllOrders S (ad 9) post := by
  refine ⟨h.k L9, ad 10, h.r L9 rfl, ad 11, h.r L9 rfl, 8, by decide, ?_⟩
  rw [h.i L9, h3]
  have hp : 0 < 2 ^ k := Nat.two_pow_pos k
  have e := sp_leastOfRest h hk hC k 8 0 8 (by rw [pc0]; omega) (by omega) hp (by decide) post (fun v hv => hq v (hv.la (e := 0) (by omega) h0))
  rw [pc0] at e
  exact e
end
