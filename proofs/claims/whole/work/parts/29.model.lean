/-! ===== the reference's small methods: roles 14 (object), 15 state, 16 binding, 17 pageCount, 18 page, 19 stock, 20 isApproved, 21 plate, 22 fronts, 23 backs, 24 best, 25 lotJob, 26 lotCopies, 27 lotPages, 28 lotState ===== -/
section
variable {S : Mem} {ad : Nat → Nat} {n : Nat × Nat} {A : AM} {j b np : Nat} {pg : Nat → Nat}
theorem LM {t : Nat} (h : t < 31 := by decide) : live n t := live_lt h
/-- what the reference holds of a job -/
def MJ (A : AM) (j b np : Nat) (pg : Nat → Nat) : Prop := j < 4 ∧ gI A 16 j = nI b ∧ isB b ∧ gI A 17 j = nI np ∧ np ≤ 16 ∧ ∀ k, k < np → gI A 18 (16 * j + k) = nI (pg k) ∧ pg k < 12
theorem MJ.ex {A' : AM} (v : MJ A j b np pg) (h1 : gI A' 16 = gI A 16) (h2 : gI A' 17 = gI A 17) (h3 : gI A' 18 = gI A 18) : MJ A' j b np pg := by
  unfold MJ; rw [h1, h2, h3]; exact v
theorem MJ.st {t k : Nat} {x : Int32} (v : MJ A j b np pg) (ht : t ≠ 16) (h2 : t ≠ 17) (h3 : t ≠ 18) : MJ (aI A t k x) j b np pg := v.ex (gI_aIu _ _ _ _ _ (by omega)) (gI_aIu _ _ _ _ _ (by omega)) (gI_aIu _ _ _ _ _ (by omega))
/-- what an array's place holds, read -/
theorem rd (h : Rel S ad n A) {t k : Nat} (ht : t < 31) (hk : k < rn t) : vp_in (nI k) (mN S (ad t)) ∧ mI S (ad t) (nI k).toNatClampNeg = gI A t k := by
  have := rn_le t
  rw [h.len (live_lt ht), nI_clamp (by omega), h.i (live_lt ht)]
  exact ⟨vp_in_nI hk (by omega), rfl⟩
theorem mm_fails (h : Rel S ad n A) {x : Int32} {post : Int32 → Mem → Prop} (hq : ∀ S', Rel S' ad n (aI A 14 0 x) → post (nI 0) S') : wpX7_fails S (ad 14) x post :=
  ⟨h.k LM, fun S2 e => by subst e; exact hq _ (h.sI LM 0 x)⟩
theorem mm_in {p q r : Int32} {post : Int32 → Mem → Prop} (h1 : q.toInt ≤ p.toInt ∧ p.toInt ≤ r.toInt → post (nI 1) S) (h0 : ¬ (q.toInt ≤ p.toInt ∧ p.toInt ≤ r.toInt) → post (nI 0) S) : wpX7_in S p q r post := by
  refine ⟨fun z => ⟨nar0, h0 fun w => ?_⟩, fun z => ⟨fun u => ⟨nar0, h0 fun w => ?_⟩, fun u => ⟨nar1, h1 ?_⟩⟩⟩
  all_goals rw [ilt_iff] at z
  · omega
  all_goals rw [ilt_iff] at u
  · omega
  · omega
theorem mm_inN {p : Int32} {N : Nat} (hN : N < 1073741824) {post : Int32 → Mem → Prop} (h1 : ∀ k, k < N → p = nI k → post (nI 1) S) (h0 : ¬ inr p N → post (nI 0) S) : wpX7_in S p (nI 0) (nI N - nI 1) post := by
  have e0 : (nI 0).toInt = 0 := rfl
  have e1 : (nI N - nI 1).toInt = N - 1 := by rw [pk_sub_toInt (by omega) (by decide)]; rfl
  refine mm_in (fun z => ?_) (fun z => h0 fun w => z ?_)
  · rw [e0, e1] at z
    obtain ⟨k, hk, e, -⟩ := inr_of (p := p) (N := N) ⟨z.1, by omega⟩
    exact h1 k hk e
  · rw [e0, e1]
    obtain ⟨w1, w2⟩ := w
    exact ⟨w1, by omega⟩
theorem t0 : (nI 0 : Int32) = 0 := rfl
theorem n10 : ¬ (nI 1 : Int32) = 0 := by decide
/-- thrown is set, and asked -/
theorem mm_thr (h : Rel S ad n A) {x : Nat} (hx : x < 10) {post : Int32 → Mem → Prop} (h1 : x = 0 → ∀ S', Rel S' ad n (aI A 14 0 (nI x)) → post (nI 1) S') (h0 : x ≠ 0 → ∀ S', Rel S' ad n (aI A 14 0 (nI x)) → post (nI 0) S') : ∀ S6 : Mem, S6 = sI S (ad 14) 0 (nI x) → ((¬ mI S6 (ad 14) 0 = 0 → vz_nar (nI 0) ∧ post (nI 0) S6) ∧ (mI S6 (ad 14) 0 = 0 → vz_nar (nI 1) ∧ post (nI 1) S6)) := by
  rintro S6 rfl
  have h6 := h.sI (LM (t := 14)) 0 (nI x)
  rw [h6.i LM, gI_aI, i0, nI_eq (by omega) (by decide)]
  exact ⟨fun z => ⟨nar0, h0 z _ h6⟩, fun z => ⟨nar1, h1 z _ h6⟩⟩
theorem mm_isContent (h : Rel S ad n A) {nc : Nat} (hv : gI A 14 1 = nI nc) (hn : nc ≤ 12) {p : Int32} {post : Int32 → Mem → Prop} (h1 : ∀ c, c < nc → p = nI c → ∀ S', Rel S' ad n (aI A 14 0 (nI 0)) → post (nI 1) S') (h0 : ¬ inr p nc → ∀ S', Rel S' ad n (aI A 14 0 (nI 1)) → post (nI 0) S') : wpX7_isContent S (ad 14) p post := by
  refine ⟨h.k LM, ?_⟩
  rw [h.i LM, hv]
  refine mm_inN (by omega) (fun k hk e => ⟨fun z => absurd z n10, fun _ => ⟨h.k LM, ?_⟩⟩) (fun z => ⟨fun _ => ⟨h.k LM, ?_⟩, fun z => absurd t0 z⟩)
  · exact mm_thr h (x := 0) (by decide) (fun _ => h1 k hk e) (fun q => absurd rfl q)
  · exact mm_thr h (x := 1) (by decide) (fun q => by omega) (fun _ => h0 z)
theorem mm_places (h : Rel S ad n A) (v : MJ A j b np pg) {post : Int32 → Mem → Prop} (hp : post (nI (plc b)) S) : wpX7_places S (ad 14) (nI j) post := by
  have hb : b < 200 := by rcases v.2.2.1 with h | h | h <;> omega
  obtain ⟨e1, e2⟩ := rd h (t := 16) (k := j) (by decide) v.1
  refine ⟨h.k LM, ad 16, h.r LM rfl, h.k (t := 16) LM, e1, ?_⟩
  rw [e2, v.2.1, nI_eq (by omega) (by decide)]
  unfold plc at hp
  exact ⟨fun c => by rw [if_neg c] at hp; exact hp, fun c => by rw [if_pos c] at hp; exact hp⟩
theorem plc_nz (b : Nat) : ¬ (nI (plc b) : Int32) = 0 := by
  have := plc_pos b
  rw [i0, nI_eq (by omega) (by decide)]; omega
theorem mm_isWhole (h : Rel S ad n A) (v : MJ A j b np pg) {post : Int32 → Mem → Prop} (h1 : whl b np → post (nI 1) S) (h0 : ¬ whl b np → post (nI 0) S) : wpX7_isWhole S (ad 14) (nI j) post := by
  have hnp := v.2.2.2.2.1
  have hpl := plc_pos b
  obtain ⟨e1, e2⟩ := rd h (t := 17) (k := j) (by decide) v.1
  refine ⟨h.k LM, ad 17, h.r LM rfl, h.k (t := 17) LM, e1, ?_⟩
  rw [e2, v.2.2.2.1]
  refine ⟨fun z => ⟨nar0, h0 fun w => ?_⟩, fun z => ⟨e1, mm_places h v ⟨plc_nz b, fun w => ⟨nar0, h0 fun u => ?_⟩, fun w => ⟨nar1, h1 ?_⟩⟩⟩⟩
  all_goals rw [i0, nI_leI (by omega) (by decide)] at z
  · exact absurd w.1 (by omega)
  all_goals rw [pk_rem (by omega) (by omega) (by omega), i0, nI_eq (by have := Nat.mod_lt np hpl.1; omega) (by decide)] at w
  · exact w u.2
  · exact ⟨by omega, w⟩
theorem mm_count (h : Rel S ad n A) (v : MJ A j b np pg) {post : Int32 → Mem → Prop} (hp : post (nI (cntf b np)) S) : wpX7_count S (ad 14) (nI j) post := by
  have hnp := v.2.2.2.2.1
  have hpl := plc_pos b
  obtain ⟨e1, e2⟩ := rd h (t := 17) (k := j) (by decide) v.1
  refine ⟨h.k LM, ad 17, h.r LM rfl, h.k (t := 17) LM, e1, mm_places h v ⟨plc_nz b, ?_⟩⟩
  rw [e2, v.2.2.2.1, pk_div (by omega) (by omega) (by omega)]
  exact hp
theorem mm_isJob (h : Rel S ad n A) (hv : gI A 14 2 = nI n.1) {bd nq : Nat → Nat} {pgs : Nat → Nat → Nat} (v : ∀ j, j < n.1 → MJ A j (bd j) (nq j) (pgs j)) {p : Int32} {post : Int32 → Mem → Prop} (h1 : ∀ j, j < n.1 → p = nI j → whl (bd j) (nq j) → ∀ S', Rel S' ad n (aI A 14 0 (nI 0)) → post (nI 1) S') (h2 : ∀ j, j < n.1 → p = nI j → ¬ whl (bd j) (nq j) → ∀ S', Rel S' ad n (aI A 14 0 (nI 2)) → post (nI 0) S') (h0 : ¬ inr p n.1 → ∀ S', Rel S' ad n (aI A 14 0 (nI 1)) → post (nI 0) S') : wpX7_isJob S (ad 14) p post := by
  have hn := h.2.2.1
  refine ⟨h.k LM, ?_⟩
  rw [h.i LM, hv]
  refine mm_inN (by omega) (fun k hk e => ⟨fun _ => ⟨h.k LM, ?_⟩, fun z => absurd z n10⟩) (fun z => ⟨fun z => absurd t0 z, fun _ => ⟨h.k LM, ?_⟩⟩)
  · subst e
    refine mm_isWhole h (v k hk) (fun w => ⟨fun z => absurd z n10, fun _ => ⟨h.k LM, ?_⟩⟩) (fun w => ⟨fun _ => ⟨h.k LM, ?_⟩, fun z => absurd t0 z⟩)
    · exact mm_thr h (x := 0) (by decide) (fun _ => h1 k hk rfl w) (fun q => absurd rfl q)
    · exact mm_thr h (x := 2) (by decide) (fun q => by omega) (fun _ => h2 k hk rfl w)
  · exact mm_thr h (x := 1) (by decide) (fun q => by omega) (fun _ => h0 z)
theorem mm_isSheet (h : Rel S ad n A) (hv : gI A 14 2 = nI n.1) {bd nq : Nat → Nat} {pgs : Nat → Nat → Nat} (v : ∀ j, j < n.1 → MJ A j (bd j) (nq j) (pgs j)) {p q : Int32} {post : Int32 → Mem → Prop} (h1 : ∀ j i, j < n.1 → p = nI j → whl (bd j) (nq j) → i < cntf (bd j) (nq j) → q = nI i → ∀ S', Rel S' ad n (aI A 14 0 (nI 0)) → post (nI 1) S') (h3 : ∀ j, j < n.1 → p = nI j → whl (bd j) (nq j) → ¬ inr q (cntf (bd j) (nq j)) → ∀ S', Rel S' ad n (aI (aI A 14 0 (nI 0)) 14 0 (nI 3)) → post (nI 0) S') (h2 : ∀ j, j < n.1 → p = nI j → ¬ whl (bd j) (nq j) → ∀ S', Rel S' ad n (aI A 14 0 (nI 2)) → post (nI 0) S') (h0 : ¬ inr p n.1 → ∀ S', Rel S' ad n (aI A 14 0 (nI 1)) → post (nI 0) S') : wpX7_isSheet S (ad 14) p q post := by
  refine ⟨h.k LM, mm_isJob h hv v (fun j hj e w S1 k1 => ⟨fun z => absurd z n10, fun _ => ⟨k1.k LM, ?_⟩⟩) (fun j hj e w S1 k1 => ⟨fun _ => ⟨k1.k LM, ?_⟩, fun z => absurd t0 z⟩) (fun w S1 k1 => ⟨fun _ => ⟨k1.k LM, ?_⟩, fun z => absurd t0 z⟩)⟩
  · subst e
    have v1 := (v j hj).st (t := 14) (k := 0) (x := nI 0) (by decide) (by decide) (by decide)
    refine mm_count k1 v1 (mm_inN (by have := Nat.div_le_self (nq j) (plc (bd j)); have := v1.2.2.2.2.1; unfold cntf; omega) (fun i hi e2 => ⟨fun _ => ⟨k1.k LM, ?_⟩, fun z => absurd z n10⟩) (fun z => ⟨fun z => absurd t0 z, fun _ => ⟨k1.k LM, ?_⟩⟩))
    · rw [k1.i LM, gI_aI]
      exact ⟨fun z => absurd t0 z, fun _ => ⟨nar1, h1 j i hj rfl w hi e2 _ k1⟩⟩
    · exact mm_thr k1 (x := 3) (by decide) (fun q => by omega) (fun _ => h3 j hj rfl w z)
  · rw [k1.i LM, gI_aI]
    exact ⟨fun _ => ⟨nar0, h2 j hj e w _ k1⟩, fun z => absurd z (by decide)⟩
  · rw [k1.i LM, gI_aI]
    exact ⟨fun _ => ⟨nar0, h0 w _ k1⟩, fun z => absurd z (by decide)⟩
theorem mm_pageOn (h : Rel S ad n A) (v : MJ A j b np pg) {i p : Nat} (hi : i < cntf b np) (hp : p < plc b) {post : Int32 → Mem → Prop} (hq : post (nI (pgOn b np i p)) S) : wpX7_pageOn S (ad 14) (nI j) (nI i) (nI p) post := by
  have hb : b < 200 := by rcases v.2.2.1 with h | h | h <;> omega
  have hnp := v.2.2.2.2.1
  have hp9 : p < 4 := by have := plc_pos b; omega
  have hi4 : i < np := Nat.lt_of_lt_of_le hi (Nat.div_le_self _ _)
  obtain ⟨e1, e2⟩ := rd h (t := 16) (k := j) (by decide) v.1
  obtain ⟨f1, f2⟩ := rd h (t := 17) (k := j) (by decide) v.1
  refine ⟨h.k LM, ad 16, h.r LM rfl, h.k (t := 16) LM, e1, ?_⟩
  rw [e2, v.2.1, nI_eq (by omega) (by decide), nI_eq (by omega) (by decide)]
  unfold cntf at hi
  unfold plc at hi hp
  refine ⟨fun c => ⟨e1, fun d => ?_, fun d => ?_⟩, fun c => ?_⟩
  · rw [if_neg c] at hi hp
    refine ⟨ad 17, h.r LM rfl, h.k (t := 17) LM, f1, ?_⟩
    rintro x rfl
    rw [f2, v.2.2.2.1, pk_mul, i0, nI_eq (by omega) (by decide), nI_eq (by omega) (by decide), nI_eq (by omega) (by decide)]
    unfold pgOn at hq
    rw [if_neg c, if_neg d] at hq
    refine ⟨fun e => ?_, fun e => ?_⟩
    · rw [if_neg e] at hq
      refine ⟨fun e3 => ?_, fun e3 => ?_⟩
      · rw [if_neg e3] at hq
        refine ⟨fun e4 => ?_, fun e4 => ?_⟩
        · rw [if_neg e4] at hq
          rw [pk_sub (by omega), pk_sub (by omega)]; exact hq
        · rw [if_pos e4] at hq; rw [nI_add]; exact hq
      · rw [if_pos e3] at hq; rw [nI_add]; exact hq
    · rw [if_pos e] at hq; rw [pk_sub (by omega)]; exact hq
  · unfold pgOn at hq
    rw [if_neg c, if_pos d] at hq
    rw [pk_mul, i0, nI_eq (by omega) (by decide)]
    refine ⟨fun e => ?_, fun e => ?_⟩
    · rw [if_neg e] at hq; rw [nI_add]; exact hq
    · rw [if_pos e] at hq; rw [nI_add]; exact hq
  · unfold pgOn at hq
    rw [if_pos c] at hq
    rw [pk_mul, nI_add, nI_add]; exact hq
theorem mm_contentOn (h : Rel S ad n A) (v : MJ A j b np pg) {i p : Nat} (hi : i < cntf b np) (hp : p < plc b) {post : Int32 → Mem → Prop} (hq : post (nI (conOn b np pg i p)) S) : wpX7_contentOn S (ad 14) (nI j) (nI i) (nI p) post := by
  have hr := pgOn_rng v.2.2.1 hi hp
  have hnp := v.2.2.2.2.1
  have hj := v.1
  refine ⟨h.k LM, ad 18, h.r LM rfl, mm_pageOn h v hi hp ⟨h.k (t := 18) LM, ?_⟩⟩
  have e9 : 16 * j + pgOn b np i p - 1 = 16 * j + (pgOn b np i p - 1) := by omega
  rw [pk_mul, nI_add, pk_sub (by omega), e9]
  obtain ⟨e1, e2⟩ := rd h (t := 18) (k := 16 * j + (pgOn b np i p - 1)) (by decide) (show _ < 64 by omega)
  refine ⟨e1, ?_⟩
  rw [e2, (v.2.2.2.2.2 _ (by omega)).1]
  exact hq
theorem conOn_ltM (v : MJ A j b np pg) {i p : Nat} (hi : i < cntf b np) (hp : p < plc b) : conOn b np pg i p < 12 := (v.2.2.2.2.2 _ (by have := pgOn_rng v.2.2.1 hi hp; omega)).2
theorem mm_code (h : Rel S ad n A) {st : Nat → Nat} (hst : ∀ c, c < 12 → gI A 15 c = nI (st c)) {c : Nat} (hc : c < 12) {post : Int32 → Mem → Prop} (hq : post (nI (100 * c + st c)) S) : wpX7_code S (ad 14) (nI c) post := by
  obtain ⟨e1, e2⟩ := rd h (t := 15) (k := c) (by decide) hc
  refine ⟨h.k LM, ad 15, h.r LM rfl, h.k (t := 15) LM, e1, ?_⟩
  rw [e2, hst c hc, pk_mul, nI_add]
  exact hq
/-- the reference's number of a side's plate -/
def mpl (st : Nat → Nat) (b np : Nat) (pg : Nat → Nat) (i s : Nat) : Nat :=
  if b = 119 then 1 + (100 * conOn b np pg i s + st (conOn b np pg i s)) else 2000 + 1200 * (100 * conOn b np pg i (2 * s) + st (conOn b np pg i (2 * s))) + (100 * conOn b np pg i (2 * s + 1) + st (conOn b np pg i (2 * s + 1)))
end
