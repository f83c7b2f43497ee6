/-! ===== the reference's least makeready ===== -/
section
variable {S : Mem} {ad : Nat → Nat} {n : Nat × Nat} {A : AM} {j b np : Nat} {pg st : Nat → Nat} {f g e k : Nat} {fr bk : Nat → Nat}
/-- what a sheet costs behind another, or (8) behind what is on the press -/
def cm (f g : Nat) (fr bk : Nat → Nat) (i j : Nat) : Nat := if i = 8 then (if fr j = f then 0 else 20) + (if bk j = g then 0 else 20) else (if fr i = fr j then 0 else 20) + (if bk i = bk j then 0 else 20)
theorem cm_le (f g : Nat) (fr bk : Nat → Nat) (i j : Nat) : cm f g fr bk i j ≤ 40 := by unfold cm; split <;> split <;> split <;> omega
/-- fronts and backs stand -/
def FB (A : AM) (k : Nat) (fr bk : Nat → Nat) : Prop := ∀ i, i < k → gI A 22 i = nI (fr i) ∧ gI A 23 i = nI (bk i) ∧ fr i < 1500000 ∧ bk i < 1500000
def ExM (A A' : AM) : Prop := (∀ v, v ≠ 22 → v ≠ 23 → v ≠ 24 → gI A' v = gI A v) ∧ gJ A' = gJ A ∧ gD A' = gD A
theorem ExM.rf (A : AM) : ExM A A := ⟨fun _ _ _ _ => rfl, rfl, rfl⟩
theorem ExM.w {A A' : AM} (x : ExM A A') {r k : Nat} {v : Int32} (hr : r = 22 ∨ r = 23 ∨ r = 24) : ExM A (aI A' r k v) :=
  ⟨fun w h1 h2 h3 => by rw [gI_aIu _ _ _ _ _ (by omega)]; exact x.1 w h1 h2 h3, x.2.1, x.2.2⟩
theorem mm_change (h : Rel S ad n A) (hk : k < 9) (hF : FB A k fr bk) {a i : Nat} (ha : a < k) (hi : i < k) {post : Int32 → Mem → Prop} (hq : post (nI (cm f g fr bk a i)) S) : wpX7_change S (ad 14) (nI a) (nI i) post := by
  obtain ⟨a1, a2⟩ := rd h (t := 22) (k := a) (by decide) (show a < 8 by omega)
  obtain ⟨b1, b2⟩ := rd h (t := 22) (k := i) (by decide) (show i < 8 by omega)
  obtain ⟨c1, c2⟩ := rd h (t := 23) (k := a) (by decide) (show a < 8 by omega)
  obtain ⟨d1, d2⟩ := rd h (t := 23) (k := i) (by decide) (show i < 8 by omega)
  obtain ⟨u1, u2, u3, u4⟩ := hF a ha
  obtain ⟨w1, w2, w3, w4⟩ := hF i hi
  unfold cm at hq
  rw [if_neg (by omega)] at hq
  refine ⟨h.k LM, ad 22, h.r LM rfl, h.k (t := 22) LM, a1, b1, ?_⟩
  rw [a2, b2, u1, w1, nI_eq (by omega) (by omega)]
  refine ⟨fun c => ⟨ad 23, h.r LM rfl, h.k (t := 23) LM, c1, d1, ?_⟩, fun c => ⟨ad 23, h.r LM rfl, h.k (t := 23) LM, c1, d1, ?_⟩⟩
  all_goals
    rw [c2, d2, u2, w2, nI_eq (by omega) (by omega)]
    refine ⟨fun d => ?_, fun d => ?_⟩
    all_goals
      rw [nI_add]
      first
        | (rw [if_neg c, if_neg d] at hq; exact hq)
        | (rw [if_neg c, if_pos d] at hq; exact hq)
        | (rw [if_pos c, if_neg d] at hq; exact hq)
        | (rw [if_pos c, if_pos d] at hq; exact hq)
theorem mm_l95 (h : Rel S ad n A) (hk : k < 9) (hF : FB A k fr bk) {s i r T : Nat} (hs : s < 256) (hr : r < s) (hi : i < k) {M : Nat → Nat} (hM : ∀ a, a < k → bt r a = true → gI A 24 (8 * r + a) = nI (M a) ∧ M a ≤ 20000) (hT : T < 2147483648) {p1 : Int32} {post J8 J47 J57 : Int32 → Mem → Prop} (hJ : ∀ S', Rel S' ad n (aI A 24 (8 * s + i) (nI (mnf T (bt r) (fun a => M a + cm f g fr bk a i) k))) → J57 (nI (i + 1)) S') : ∃ m, wlX7_least_95 (ad 14) p1 (nI k) (nI s) (nI i) (nI r) post J8 J47 J57 m (nI T) (nI 0) S := by
  have key : ∀ m a, a + m = k → wlX7_least_95 (ad 14) p1 (nI k) (nI s) (nI i) (nI r) post J8 J47 J57 (m + 1) (nI (mnf T (bt r) (fun a => M a + cm f g fr bk a i) a)) (nI a) S := by
    intro m
    induction m with
    | zero =>
      intro a ha
      obtain rfl : a = k := by omega
      obtain ⟨e1, e2⟩ := rd h (t := 24) (k := 8 * s + i) (by decide) (show _ < 2048 by omega)
      refine ⟨fun _ => ⟨h.k LM, ad 24, h.r LM rfl, h.k (t := 24) LM, ?_⟩, fun z => absurd (nI_le (Nat.le_refl _) (by omega)) z⟩
      rw [pk_mul, nI_add, nI_clamp (by omega)]
      refine ⟨e1, ?_⟩
      rintro S25 rfl x26 rfl
      rw [nI_add]
      exact hJ _ (h.sI LM _ _)
    | succ m ih =>
      intro a ha
      have e := ih (a + 1) (by omega)
      rw [mnf] at e
      refine ⟨fun z => ?_, fun _ => ⟨fun z => ?_, fun _ => ⟨fun z => ?_, fun z => ⟨h.k LM, ad 24, h.r LM rfl, h.k (t := 24) LM, ?_⟩⟩⟩⟩
      · rw [nI_leI (by omega) (by omega)] at z; omega
      · rw [nI_eq (by omega) (by omega)] at z; omega
      · rw [bt3 r (by omega) a (by omega)] at z
        rintro x rfl
        rw [nI_add]
        rw [if_neg z] at e
        exact e
      · rw [bt3 r (by omega) a (by omega)] at z
        obtain ⟨e1, e2⟩ := rd h (t := 24) (k := 8 * r + a) (by decide) (show _ < 2048 by omega)
        have hm := hM a (by omega) z
        have hc := cm_le f g fr bk a i
        have hl := (mnf_le (T := T) (q := bt r) (f := fun a => M a + cm f g fr bk a i) a).1
        rw [if_pos z] at e
        rw [pk_mul, nI_add]
        refine ⟨e1, mm_change (f := f) (g := g) h hk hF (by omega) hi ?_⟩
        rw [e2, hm.1, nI_add, nI_leI (by omega) (by omega)]
        refine ⟨fun y => ?_, fun y => ⟨h.k LM, ad 24, h.r LM rfl, h.k (t := 24) LM, e1, mm_change (f := f) (g := g) h hk hF (by omega) hi ?_⟩⟩
        · rintro x rfl
          rw [nI_add]
          rw [if_neg (by omega)] at e
          exact e
        · rw [e2, hm.1, nI_add]
          rintro x rfl x' rfl
          rw [nI_add]
          rw [if_pos (by omega)] at e
          exact e
  exact ⟨_, key k 0 (by omega)⟩
/-- the state in which the reference looks for the least -/
def MS (A : AM) (j b np : Nat) (pg st : Nat → Nat) (f g o k : Nat) : Prop :=
  MJ A j b np pg ∧ (∀ c, c < 12 → gI A 15 c = nI (st c)) ∧ (∀ c, c < 12 → st c < 100) ∧ gI A 14 7 = nI f ∧ f < 1500000 ∧ gI A 14 8 = nI g ∧ g < 1500000 ∧ gI A 14 9 = nI o ∧ o < 200 ∧ cntf b np = k ∧ 0 < k ∧ k < 9
theorem MS.ex {A' : AM} {o : Nat} (m : MS A j b np pg st f g o k) (x : ExM A A') : MS A' j b np pg st f g o k := by
  have e : ∀ v, v ≠ 22 → v ≠ 23 → v ≠ 24 → gI A' v = gI A v := x.1
  unfold MS
  rw [e 14 (by decide) (by decide) (by decide), e 15 (by decide) (by decide) (by decide)]
  exact ⟨m.1.ex (e 16 (by decide) (by decide) (by decide)) (e 17 (by decide) (by decide) (by decide)) (e 18 (by decide) (by decide) (by decide)), m.2⟩
theorem rdy_cm (o x y : Nat) {i : Nat} (hx : fr i = x) (hy : bk i = y) : rdy f g o x y b = cm f g fr bk 8 i + (if b = o then 0 else 15) := by
  subst hx hy
  unfold rdy cm
  rw [if_pos rfl]
theorem mm_l57 {o : Nat} (h : Rel S ad n A) (hm : MS A j b np pg st f g o k) (hF : FB A k fr bk) (hf : ∀ i, i < k → fr i = mpl st b np pg i 0 ∧ bk i = mpl st b np pg i 1) {s : Nat} (h0 : 0 < s) (hs : s < 2 ^ k) (tb : TB A 24 (cm f g fr bk) (if b = o then 0 else 15) k s) {post J8 J47 : Int32 → Mem → Prop} (hJ : ∀ S' A', Rel S' ad n A' → ExM A A' → FB A' k fr bk → TB A' 24 (cm f g fr bk) (if b = o then 0 else 15) k (s + 1) → J47 (nI (s + 1)) S') : ∃ m, wlX7_least_57 (ad 14) (nI j) (nI k) (nI s) post J8 J47 m (nI 0) S := by
  have hk : k < 9 := hm.2.2.2.2.2.2.2.2.2.2.2
  have h256 := btb k hk
  have C40 := cm_le f g fr bk
  have he : (if b = o then 0 else 15) < 100 := by split <;> decide
  have key : ∀ m i S1 A1, i + m = k → Rel S1 ad n A1 → ExM A A1 → FB A1 k fr bk → TB A1 24 (cm f g fr bk) (if b = o then 0 else 15) k s → (∀ i', i' < i → bt s i' = true → ∃ v, gI A1 24 (8 * s + i') = nI v ∧ LW (cm f g fr bk) (if b = o then 0 else 15) k s i' v) → wlX7_least_57 (ad 14) (nI j) (nI k) (nI s) post J8 J47 (m + 1) (nI i) S1 := by
    intro m
    induction m with
    | zero =>
      intro i S1 A1 hi k1 x1 f1 t1 p1
      obtain rfl : i = k := by omega
      refine ⟨fun _ => ?_, fun z => absurd (nI_le (Nat.le_refl _) (by omega)) z⟩
      rintro y rfl
      rw [nI_add]
      refine hJ _ _ k1 x1 f1 fun s' i' g1 g2 g3 g4 => ?_
      by_cases q : s' = s
      · subst q; exact p1 i' g3 g4
      · exact t1 s' i' g1 (by omega) g3 g4
    | succ m ih =>
      intro i S1 A1 hi k1 x1 f1 t1 p1
      have next : ∀ v S', Rel S' ad n (aI A1 24 (8 * s + i) (nI v)) → (bt s i = true → LW (cm f g fr bk) (if b = o then 0 else 15) k s i v) → wlX7_least_57 (ad 14) (nI j) (nI k) (nI s) post J8 J47 (m + 1) (nI (i + 1)) S' := by
        intro v S' k2 hv
        refine ih (i + 1) _ _ (by omega) k2 (x1.w (by decide)) (fun a ha => ?_) (fun s' i' g1 g2 g3 g4 => ?_) fun i' g1 g2 => ?_
        · rw [gI_aIu _ _ _ _ _ (by decide), gI_aIu _ _ _ _ _ (by decide)]; exact f1 a ha
        · rw [gI_aIk _ _ _ _ _ (by omega)]; exact t1 s' i' g1 g2 g3 g4
        · by_cases q : i' = i
          · subst q; rw [gI_aI]; exact ⟨v, rfl, hv g2⟩
          · rw [gI_aIk _ _ _ _ _ (by omega)]; exact p1 i' (by omega) g2
      refine ⟨fun z => ?_, fun _ => ?_⟩
      · rw [nI_leI (by omega) (by omega)] at z; omega
      · rintro x18 rfl
        rw [bt2 s (by omega) i (by omega)]
        by_cases hb : bt s i = true
        · have h7 := bt7 s (by omega) i (by omega) hb
          have hp := btc i (by omega)
          rw [if_pos hb]
          refine ⟨fun z => ?_, fun z => ⟨k1.k LM, ?_⟩⟩
          · rw [i0, nI_eq (by omega) (by decide)] at z
            have hM : ∀ a, a < k → bt (s - 2 ^ i) a = true → gI A1 24 (8 * (s - 2 ^ i) + a) = nI (gI A1 24 (8 * (s - 2 ^ i) + a)).toNatClampNeg ∧ LW (cm f g fr bk) (if b = o then 0 else 15) k (s - 2 ^ i) a (gI A1 24 (8 * (s - 2 ^ i) + a)).toNatClampNeg := fun a ha hb => t1.M hk C40 he (by omega) (by omega) ha hb
            rw [big2]
            refine mm_l95 (f := f) (g := g) k1 hk f1 (by omega) (by omega) (by omega) (M := fun a => (gI A1 24 (8 * (s - 2 ^ i) + a)).toNatClampNeg) (fun a ha hb => ⟨(hM a ha hb).1, ?_⟩) (by decide) fun S2 k2 => next _ _ k2 fun _ => LW.step hk C40 (by omega) hs (by omega) hb (by omega) fun a ha hb => (hM a ha hb).2
            have := (hM a ha hb).2.lt hk C40
            omega
          · rw [i0, nI_eq (by omega) (by decide)] at z
            have hs2 : s = 2 ^ i := by omega
            have m1 := hm.ex x1
            refine mm_ready k1 m1.1 m1.2.1 m1.2.2.1 m1.2.2.2.1 m1.2.2.2.2.1 m1.2.2.2.2.2.1 m1.2.2.2.2.2.2.1 m1.2.2.2.2.2.2.2.1 m1.2.2.2.2.2.2.2.2.1 (by rw [m1.2.2.2.2.2.2.2.2.2.1]; omega) ?_
            rw [rdy_cm (fr := fr) (bk := bk) (i := i) o _ _ (hf i (by omega)).1 (hf i (by omega)).2]
            have hc := C40 8 i
            refine mm_l95 (f := f) (g := g) k1 hk f1 (by omega) (by omega) (by omega) (M := fun a => 0) (fun a ha hb => ?_) (by omega) fun S2 k2 => next _ _ k2 fun _ => ?_
            · rw [z] at hb; unfold bt at hb; rw [Nat.zero_testBit] at hb; exact absurd hb (by decide)
            · rcases mnf_at (T := cm f g fr bk 8 i + (if b = o then 0 else 15)) (q := bt (s - 2 ^ i)) (f := fun a => 0 + cm f g fr bk a i) k with w | ⟨a, -, w, -⟩
              · rw [w]
                have := LW.one (C := cm f g fr bk) (e := if b = o then 0 else 15) hk (show i < k by omega)
                rw [← hs2] at this
                exact this
              · rw [z] at w; unfold bt at w; rw [Nat.zero_testBit] at w; exact absurd w (by decide)
        · rw [if_neg hb]
          refine ⟨fun _ => ?_, fun z => ?_⟩
          · obtain ⟨e1, e2⟩ := rd k1 (t := 24) (k := 8 * s + i) (by decide) (show _ < 2048 by omega)
            refine ⟨1, fun z => ?_, fun _ => ⟨fun _ => ⟨k1.k LM, ad 24, k1.r LM rfl, k1.k (t := 24) LM, ?_⟩, fun z => absurd rfl z⟩⟩
            · rw [nI_leI (by omega) (by omega)] at z; omega
            · rw [pk_mul, nI_add, nI_clamp (by omega), big2]
              refine ⟨e1, ?_⟩
              rintro S25 rfl x26 rfl
              rw [nI_add]
              exact next _ _ (k1.sI LM _ _) fun q => absurd q hb
          · rw [i0, nI_eq (by omega) (by decide)] at z; omega
  exact ⟨_, key k 0 S A (by omega) h (ExM.rf A) hF tb fun i' g => by omega⟩
theorem mm_l207 (h : Rel S ad n A) (hk : k < 9) (h0 : 0 < k) {C : Nat → Nat → Nat} (C40 : ∀ i j, C i j ≤ 40) (he : e < 100) (tb : TB A 24 C e k (2 ^ k)) {p1 : Int32} {post J8 J47 : Int32 → Mem → Prop} (hq : ∀ v, LA C e k v → post (nI v) S) : ∃ m, wlX7_least_207 (ad 14) p1 (nI k) post J8 J47 m (2147483647 : Int32) (nI 0) S := by
  have h256 := btb k hk
  have h1 : 1 < 2 ^ k := Nat.one_lt_two_pow (by omega)
  have hM : ∀ a, a < k → gI A 24 (8 * (2 ^ k - 1) + a) = nI (gI A 24 (8 * (2 ^ k - 1) + a)).toNatClampNeg ∧ LW C e k (2 ^ k - 1) a (gI A 24 (8 * (2 ^ k - 1) + a)).toNatClampNeg := fun a ha => tb.M hk C40 he (by omega) (by omega) ha (btd k hk a ha)
  have key : ∀ m a, a + m = k → wlX7_least_207 (ad 14) p1 (nI k) post J8 J47 (m + 1) (nI (mnf 2147483647 (fun _ => true) (fun a => (gI A 24 (8 * (2 ^ k - 1) + a)).toNatClampNeg) a)) (nI a) S := by
    intro m
    induction m with
    | zero =>
      intro a ha
      obtain rfl : a = k := by omega
      refine ⟨fun _ => hq _ (LA.mk hk h0 C40 (by omega) fun a ha => (hM a ha).2), fun z => absurd (nI_le (Nat.le_refl _) (by omega)) z⟩
    | succ m ih =>
      intro a ha
      have e := ih (a + 1) (by omega)
      rw [mnf, if_pos rfl] at e
      obtain ⟨e1, e2⟩ := rd h (t := 24) (k := 8 * (2 ^ k - 1) + a) (by decide) (show _ < 2048 by omega)
      have hm := hM a (by omega)
      have hv := hm.2.lt hk C40
      have hl := (mnf_le (T := 2147483647) (q := fun _ => true) (f := fun a => (gI A 24 (8 * (2 ^ k - 1) + a)).toNatClampNeg) a).1
      refine ⟨fun z => ?_, fun _ => ⟨h.k LM, ad 24, h.r LM rfl, h.k (t := 24) LM, ?_⟩⟩
      · rw [nI_leI (by omega) (by omega)] at z; omega
      · rw [bt4 k hk, pk_sub (by omega), pk_mul, nI_add]
        refine ⟨e1, ?_⟩
        rintro x rfl
        rw [e2, hm.1, nI_leI (by omega) (by omega)]
        refine ⟨fun y => ?_, fun y => ?_⟩
        · rintro x' rfl
          rw [nI_add]
          rw [if_neg (by omega)] at e
          exact e
        · rintro x' rfl
          rw [nI_add]
          rw [if_pos (by omega)] at e
          exact e
  rw [big2]
  exact ⟨_, key k 0 (by omega)⟩
theorem mm_l47 {o : Nat} (h : Rel S ad n A) (hm : MS A j b np pg st f g o k) (hF : FB A k fr bk) (hf : ∀ i, i < k → fr i = mpl st b np pg i 0 ∧ bk i = mpl st b np pg i 1) {post J8 : Int32 → Mem → Prop} (hq : ∀ S' A' v, Rel S' ad n A' → ExM A A' → LA (cm f g fr bk) (if b = o then 0 else 15) k v → post (nI v) S') : ∃ m, wlX7_least_47 (ad 14) (nI j) (nI k) post J8 m (nI 1) S := by
  have hk : k < 9 := hm.2.2.2.2.2.2.2.2.2.2.2
  have h0 : 0 < k := hm.2.2.2.2.2.2.2.2.2.2.1
  have h256 := btb k hk
  have h1 : 1 < 2 ^ k := Nat.one_lt_two_pow (by omega)
  have he : (if b = o then 0 else 15) < 100 := by split <;> decide
  have key : ∀ m s S1 A1, s + m = 2 ^ k → 0 < s → Rel S1 ad n A1 → ExM A A1 → FB A1 k fr bk → TB A1 24 (cm f g fr bk) (if b = o then 0 else 15) k s → wlX7_least_47 (ad 14) (nI j) (nI k) post J8 (m + 1) (nI s) S1 := by
    intro m
    induction m with
    | zero =>
      intro s S1 A1 hs hs0 k1 x1 f1 t1
      obtain rfl : s = 2 ^ k := by omega
      refine ⟨fun _ => mm_l207 k1 hk h0 (cm_le f g fr bk) he t1 fun v hv => hq _ _ _ k1 x1 hv, fun z => absurd ?_ z⟩
      rw [bt4 k hk]
      exact nI_le (Nat.le_refl _) (by omega)
    | succ m ih =>
      intro s S1 A1 hs hs0 k1 x1 f1 t1
      refine ⟨fun z => ?_, fun _ => mm_l57 k1 (hm.ex x1) f1 hf hs0 (by omega) t1 fun S2 A2 k2 x2 f2 t2 => ih (s + 1) _ _ (by omega) (by omega) k2 ⟨fun v a b c => (x2.1 v a b c).trans (x1.1 v a b c), x2.2.1.trans x1.2.1, x2.2.2.trans x1.2.2⟩ f2 t2⟩
      rw [bt4 k hk, nI_leI (by omega) (by omega)] at z; omega
  exact ⟨_, key (2 ^ k - 1) 1 S A (by omega) (by decide) h (ExM.rf A) hF fun s' i' g1 g2 => by omega⟩
theorem mm_least {o : Nat} (h : Rel S ad n A) (hm : MS A j b np pg st f g o k) (hf : ∀ i, i < k → fr i = mpl st b np pg i 0 ∧ bk i = mpl st b np pg i 1) {post : Int32 → Mem → Prop} (hq : ∀ S' A' v, Rel S' ad n A' → ExM A A' → LA (cm f g fr bk) (if b = o then 0 else 15) k v → post (nI v) S') : wpX7_least S (ad 14) (nI j) post := by
  have hk : k < 9 := hm.2.2.2.2.2.2.2.2.2.2.2
  have hcn : cntf b np = k := hm.2.2.2.2.2.2.2.2.2.1
  refine ⟨h.k LM, mm_count h hm.1 ?_⟩
  rw [hcn]
  have key : ∀ m i S1 A1, i + m = k → Rel S1 ad n A1 → ExM A A1 → (∀ a, a < i → gI A1 22 a = nI (fr a) ∧ gI A1 23 a = nI (bk a)) → wlX7_least_8 (ad 14) (nI j) (nI k) post (m + 1) (nI i) S1 := by
    intro m
    induction m with
    | zero =>
      intro i S1 A1 hi k1 x1 f1
      obtain rfl : i = k := by omega
      refine ⟨fun _ => mm_l47 (fr := fr) (bk := bk) k1 (hm.ex x1) (fun a ha => ?_) hf fun S2 A2 v k2 x2 hv => hq _ _ _ k2 ⟨fun v a b c => (x2.1 v a b c).trans (x1.1 v a b c), x2.2.1.trans x1.2.1, x2.2.2.trans x1.2.2⟩ hv, fun z => absurd (nI_le (Nat.le_refl _) (by omega)) z⟩
      have e := hf a ha
      have m0 := mpl_lt hm.1 hm.2.2.1 (i := a) (by omega) (s := 0) (by decide)
      have m1 := mpl_lt hm.1 hm.2.2.1 (i := a) (by omega) (s := 1) (by decide)
      exact ⟨(f1 a ha).1, (f1 a ha).2, by rw [e.1]; exact m0.2, by rw [e.2]; exact m1.2⟩
    | succ m ih =>
      intro i S1 A1 hi k1 x1 f1
      have e := hf i (by omega)
      have m1 := hm.ex x1
      have x2 : ExM A (aI A1 22 i (nI (fr i))) := x1.w (by decide)
      have m2 := hm.ex x2
      obtain ⟨e1, -⟩ := rd k1 (t := 22) (k := i) (by decide) (show i < 8 by omega)
      refine ⟨fun z => ?_, fun _ => ⟨k1.k LM, ad 22, k1.r LM rfl, mm_plateOf k1 m1.1 m1.2.1 (by omega) (s := 0) (Or.inl ⟨rfl, n10⟩) ⟨k1.k (t := 22) LM, e1, ?_⟩⟩⟩
      · rw [nI_leI (by omega) (by omega)] at z; omega
      · rintro S65 rfl
        rw [nI_clamp (by omega), ← e.1]
        have k2 := k1.sI (LM (t := 22)) i (nI (fr i))
        obtain ⟨e3, -⟩ := rd k2 (t := 23) (k := i) (by decide) (show i < 8 by omega)
        refine ⟨k2.k LM, ad 23, k2.r LM rfl, mm_plateOf k2 m2.1 m2.2.1 (by omega) (s := 1) (Or.inr ⟨rfl, t0⟩) ⟨k2.k (t := 23) LM, e3, ?_⟩⟩
        rintro S72 rfl x73 rfl
        rw [← e.2, nI_add]
        have k3 := k2.sI (LM (t := 23)) i (nI (bk i))
        refine ih (i + 1) _ _ (by omega) k3 (x2.w (by decide)) fun a ha => ?_
        rw [gI_aIu _ _ _ _ _ (by decide)]
        by_cases q : a = i
        · subst q; rw [gI_aI, gI_aI]; exact ⟨rfl, rfl⟩
        · rw [gI_aIk _ _ _ _ _ q, gI_aIk _ _ _ _ _ q, gI_aIu _ _ _ _ _ (by decide)]; exact f1 a (by omega)
  exact ⟨_, key k 0 S A (by omega) h (ExM.rf A) fun a ha => by omega⟩
end
