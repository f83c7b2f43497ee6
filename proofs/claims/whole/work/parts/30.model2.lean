/-! ===== the reference's plates, makeready, voids and lacks ===== -/
section
variable {S : Mem} {ad : Nat → Nat} {n : Nat × Nat} {A : AM} {j b np : Nat} {pg : Nat → Nat} {st : Nat → Nat}
theorem isB_lt (h : isB b) : b < 200 := by rcases h with h | h | h <;> omega
theorem mm_plateOf (h : Rel S ad n A) (v : MJ A j b np pg) (hst : ∀ c, c < 12 → gI A 15 c = nI (st c)) {i s : Nat} (hi : i < cntf b np) {p3 : Int32} (hs : (s = 0 ∧ ¬ p3 = 0) ∨ (s = 1 ∧ p3 = 0)) {post : Int32 → Mem → Prop} (hq : post (nI (mpl st b np pg i s)) S) : wpX7_plateOf S (ad 14) (nI j) (nI i) p3 post := by
  have hb := isB_lt v.2.2.1
  obtain ⟨e1, e2⟩ := rd h (t := 16) (k := j) (by decide) v.1
  refine ⟨h.k LM, ad 16, h.r LM rfl, h.k (t := 16) LM, e1, ?_⟩
  rw [e2, v.2.1, nI_eq (by omega) (by decide)]
  unfold mpl at hq
  refine ⟨fun c => ?_, fun c => ?_⟩
  · rw [if_neg c] at hq
    have hpl : plc b = 4 := by unfold plc; rw [if_neg c]
    refine ⟨fun z => ?_, fun z => ?_⟩
    · have s1 : s = 1 := by rcases hs with w | w; exact absurd z w.2; exact w.1
      subst s1
      refine mm_contentOn h v hi (by omega) ⟨h.k LM, mm_code h hst (conOn_ltM v hi (by omega)) ⟨fun _ => ⟨h.k LM, mm_contentOn h v hi (by omega) ⟨h.k LM, mm_code h hst (conOn_ltM v hi (by omega)) ?_⟩⟩, fun w => absurd z w⟩⟩
      rw [pk_mul, nI_add, nI_add]
      exact hq
    · have s1 : s = 0 := by rcases hs with w | w; exact w.1; exact absurd w.2 z
      subst s1
      refine mm_contentOn h v hi (by omega) ⟨h.k LM, mm_code h hst (conOn_ltM v hi (by omega)) ⟨fun w => absurd w z, fun _ => ⟨h.k LM, mm_contentOn h v hi (by omega) ⟨h.k LM, mm_code h hst (conOn_ltM v hi (by omega)) ?_⟩⟩⟩⟩
      rw [pk_mul, nI_add, nI_add]
      exact hq
  · rw [if_pos c] at hq
    have hpl : plc b = 2 := by unfold plc; rw [if_pos c]
    refine ⟨fun z => ?_, fun z => ?_⟩
    · have s1 : s = 1 := by rcases hs with w | w; exact absurd z w.2; exact w.1
      subst s1
      refine mm_contentOn h v hi (by omega) ⟨h.k LM, mm_code h hst (conOn_ltM v hi (by omega)) ?_⟩
      rw [nI_add]
      exact hq
    · have s1 : s = 0 := by rcases hs with w | w; exact w.1; exact absurd w.2 z
      subst s1
      refine mm_contentOn h v hi (by omega) ⟨h.k LM, mm_code h hst (conOn_ltM v hi (by omega)) ?_⟩
      rw [nI_add]
      exact hq
theorem mpl_lt (v : MJ A j b np pg) (hsl : ∀ c, c < 12 → st c < 100) {i s : Nat} (hi : i < cntf b np) (hs : s < 2) : 0 < mpl st b np pg i s ∧ mpl st b np pg i s < 1500000 := by
  unfold mpl
  split
  · rename_i c
    have hpl : plc b = 2 := by unfold plc; rw [if_pos c]
    have e1 := conOn_ltM v hi (show s < plc b by omega)
    have e2 := hsl _ e1
    omega
  · rename_i c
    have hpl : plc b = 4 := by unfold plc; rw [if_neg c]
    have e1 := conOn_ltM v hi (show 2 * s < plc b by omega)
    have e2 := hsl _ e1
    have e3 := conOn_ltM v hi (show 2 * s + 1 < plc b by omega)
    have e4 := hsl _ e3
    omega
/-- makeready, by what the press holds and what is wanted -/
def rdy (f k o x y b : Nat) : Nat := (if x = f then 0 else 20) + (if y = k then 0 else 20) + (if b = o then 0 else 15)
theorem rdy_le (f k o x y b : Nat) : rdy f k o x y b ≤ 55 := by unfold rdy; split <;> split <;> split <;> omega
theorem mm_ready (h : Rel S ad n A) (v : MJ A j b np pg) (hst : ∀ c, c < 12 → gI A 15 c = nI (st c)) (hsl : ∀ c, c < 12 → st c < 100) {f k o : Nat} (hf : gI A 14 7 = nI f) (hf2 : f < 1500000) (hk : gI A 14 8 = nI k) (hk2 : k < 1500000) (ho : gI A 14 9 = nI o) (ho2 : o < 200) {i : Nat} (hi : i < cntf b np) {post : Int32 → Mem → Prop} (hq : post (nI (rdy f k o (mpl st b np pg i 0) (mpl st b np pg i 1) b)) S) : wpX7_ready S (ad 14) (nI j) (nI i) post := by
  have hb := isB_lt v.2.2.1
  obtain ⟨e1, e2⟩ := rd h (t := 16) (k := j) (by decide) v.1
  have m0 := mpl_lt v hsl hi (s := 0) (by decide)
  have m1 := mpl_lt v hsl hi (s := 1) (by decide)
  refine ⟨h.k LM, mm_plateOf h v hst hi (s := 0) (Or.inl ⟨rfl, n10⟩) ⟨h.k LM, ?_⟩⟩
  rw [h.i LM, hf, nI_eq (by omega) (by omega)]
  refine ⟨fun c => ?_, fun c => ?_⟩
  all_goals
    refine mm_plateOf h v hst hi (s := 1) (Or.inr ⟨rfl, t0⟩) ⟨h.k LM, ?_⟩
    rw [h.i LM, hk, nI_eq (by omega) (by omega)]
    refine ⟨fun d => ⟨ad 16, h.r LM rfl, h.k (t := 16) LM, e1, ?_⟩, fun d => ⟨ad 16, h.r LM rfl, h.k (t := 16) LM, e1, ?_⟩⟩
    all_goals
      rw [e2, v.2.1, h.i LM, ho, nI_eq (by omega) (by omega)]
      unfold rdy at hq
      refine ⟨fun e => ?_, fun e => ?_⟩
      all_goals
        rw [nI_add, nI_add]
        first
          | (rw [if_neg c, if_neg d, if_neg e] at hq; exact hq)
          | (rw [if_neg c, if_neg d, if_pos e] at hq; exact hq)
          | (rw [if_neg c, if_pos d, if_neg e] at hq; exact hq)
          | (rw [if_neg c, if_pos d, if_pos e] at hq; exact hq)
          | (rw [if_pos c, if_neg d, if_neg e] at hq; exact hq)
          | (rw [if_pos c, if_neg d, if_pos e] at hq; exact hq)
          | (rw [if_pos c, if_pos d, if_neg e] at hq; exact hq)
          | (rw [if_pos c, if_pos d, if_pos e] at hq; exact hq)
/-- a plate's being made -/
def made (pl : Nat → Nat) (m x : Nat) : Prop := ∃ k, k < m ∧ pl k = x
theorem mm_isMade (h : Rel S ad n A) {pl : Nat → Nat} {m x : Nat} (hm : gI A 14 4 = nI m) (hm2 : m ≤ 1100) (hpl : ∀ k, k < m → gI A 21 k = nI (pl k) ∧ pl k < 1500000) (hx : x < 1500000) {post : Int32 → Mem → Prop} (h1 : made pl m x → post (nI 1) S) (h0 : ¬ made pl m x → post (nI 0) S) : wpX7_isMade S (ad 14) (nI x) post := by
  have key : ∀ q i, i + q = m → (∀ k, k < i → pl k ≠ x) → wlX7_isMade_2 (ad 14) (nI x) post (q + 1) (nI i) S := by
    intro q
    induction q with
    | zero =>
      intro i hi hn
      refine ⟨h.k LM, fun _ => ⟨nar0, h0 fun ⟨k, hk, e⟩ => hn k (by omega) e⟩, fun z => ?_⟩
      rw [h.i LM, hm, nI_leI (by omega) (by omega)] at z; omega
    | succ q ih =>
      intro i hi hn
      obtain ⟨e1, e2⟩ := rd h (t := 21) (k := i) (by decide) (show i < 1100 by omega)
      have hl := hpl i (by omega)
      refine ⟨h.k LM, fun z => ?_, fun _ => ⟨ad 21, h.r LM rfl, h.k (t := 21) LM, e1, ?_⟩⟩
      · rw [h.i LM, hm, nI_leI (by omega) (by omega)] at z; omega
      · rw [e2, hl.1, nI_eq (by omega) (by omega)]
        refine ⟨fun z => ?_, fun z => ⟨nar1, h1 ⟨i, by omega, z⟩⟩⟩
        rintro w rfl
        rw [nI_add]
        refine ih (i + 1) (by omega) fun k hk => ?_
        by_cases e : k = i
        · rw [e]; exact z
        · exact hn k (by omega)
  exact ⟨_, key m 0 (by omega) (fun k hk => by omega)⟩
theorem mm_makes (h : Rel S ad n A) {pl : Nat → Nat} {m x : Nat} (hm : gI A 14 4 = nI m) (hm2 : m < 1100) (hpl : ∀ k, k < m → gI A 21 k = nI (pl k) ∧ pl k < 1500000) (hx : x < 1500000) {post : Unit → Mem → Prop} (h1 : made pl m x → post () S) (h0 : ¬ made pl m x → ∀ S', Rel S' ad n (aI (aI A 21 m (nI x)) 14 4 (nI (m + 1))) → post () S') : wpX7_makes S (ad 14) (nI x) post := by
  refine ⟨h.k LM, mm_isMade h hm (by omega) hpl hx (fun w => ⟨fun z => absurd z n10, fun _ => h1 w⟩) (fun w => ⟨fun _ => ⟨h.k LM, ad 21, h.r LM rfl, h.k (t := 21) LM, ?_⟩, fun z => absurd t0 z⟩)⟩
  obtain ⟨e1, e2⟩ := rd h (t := 21) (k := m) (by decide) (show m < 1100 by omega)
  rw [h.i LM, hm, nI_clamp (by omega)]
  refine ⟨e1, ?_⟩
  rintro S9 rfl x10 rfl S11 rfl
  have h9 := h.sI (LM (t := 21)) m (nI x)
  rw [h9.i LM, gI_aIu _ _ _ _ _ (by decide), hm, nI_add]
  exact h0 w _ (h9.sI LM _ _)
theorem mm_isShown (h : Rel S ad n A) (v : MJ A j b np pg) {i c : Nat} (hi : i < cntf b np) (hc : c < 12) {post : Int32 → Mem → Prop} (h1 : shows b np pg i c → post (nI 1) S) (h0 : ¬ shows b np pg i c → post (nI 0) S) : wpX7_isShown S (ad 14) (nI j) (nI i) (nI c) post := by
  have h4 := plc_pos b
  have key : ∀ k p, p + k = plc b → (∀ q, q < p → conOn b np pg i q ≠ c) → wlX7_isShown_3 (ad 14) (nI j) (nI i) (nI c) post (k + 1) (nI p) S := by
    intro k
    induction k with
    | zero =>
      intro p hp hq
      refine ⟨h.k LM, mm_places h v ⟨fun _ => ⟨nar0, h0 fun ⟨q, hq1, hq2⟩ => hq q (by omega) hq2⟩, fun z => ?_⟩⟩
      rw [nI_leI (by omega) (by omega)] at z; omega
    | succ k ih =>
      intro p hp hq
      have hl := conOn_ltM v hi (show p < plc b by omega)
      refine ⟨h.k LM, mm_places h v ⟨fun z => ?_, fun _ => ⟨h.k LM, mm_contentOn h v hi (by omega) ?_⟩⟩⟩
      · rw [nI_leI (by omega) (by omega)] at z; omega
      · rw [nI_eq (by omega) (by omega)]
        refine ⟨fun z => ?_, fun z => ⟨nar1, h1 ⟨p, by omega, z⟩⟩⟩
        rintro w rfl
        rw [nI_add]
        refine ih (p + 1) (by omega) fun q hq2 => ?_
        by_cases e : q = p
        · rw [e]; exact z
        · exact hq q (by omega)
  exact ⟨_, key (plc b) 0 (by omega) (fun q hq => by omega)⟩
theorem mm_voids (h : Rel S ad n A) {i x : Nat} (hj : j < 4) (hi : i < 8) (hx : gI A 19 (8 * j + i) = nI x) {post : Int32 → Mem → Prop} (hq : ∀ S', Rel S' ad n (aJ (aI A 19 (8 * j + i) (nI 0)) 14 10 (gJ A 14 10 + (nI x).toInt64)) → post (nI x) S') : wpX7_voids S (ad 14) (nI j) (nI i) post := by
  obtain ⟨e1, e2⟩ := rd h (t := 19) (k := 8 * j + i) (by decide) (show _ < 32 by omega)
  refine ⟨h.k LM, ad 19, h.r LM rfl, h.k (t := 19) LM, ?_⟩
  rw [pk_mul, nI_add]
  refine ⟨e1, ?_⟩
  rw [e2, hx]
  rintro x5 rfl
  refine ⟨e1, ?_⟩
  rintro S7 rfl S8 rfl
  rw [nI_clamp (by omega)]
  have h7 := h.sI (LM (t := 19)) (8 * j + i) (nI 0)
  rw [h7.j LM]
  exact hq _ (h7.sJ LM _ _)
theorem mm_missing (h : Rel S ad n A) (v : MJ A j b np pg) {sk : Nat → Nat} (hsk : ∀ i, i < 8 → gI A 19 (8 * j + i) = nI (sk i) ∧ sk i ≤ 9999) {c : Nat} (hc : c ≤ 500) {post : Int32 → Mem → Prop} (hq : post (nI (sm (fun k => c - sk k) (cntf b np))) S) : wpX7_missing S (ad 14) (nI j) (nI c) post := by
  have h8 : cntf b np ≤ 8 := by
    have := v.2.2.2.2.1
    unfold cntf plc
    split <;> omega
  have hj := v.1
  have key : ∀ k i, i + k = cntf b np → wlX7_missing_5 (ad 14) (nI j) (nI c) post (k + 1) (nI (sm (fun k => c - sk k) i)) (nI i) S := by
    intro k
    induction k with
    | zero =>
      intro i hi
      obtain rfl : i = cntf b np := by omega
      exact ⟨h.k LM, mm_count h v ⟨fun _ => hq, fun z => absurd (nI_le (Nat.le_refl _) (by omega)) z⟩⟩
    | succ k ih =>
      intro i hi
      obtain ⟨e1, e2⟩ := rd h (t := 19) (k := 8 * j + i) (by decide) (show _ < 32 by omega)
      have hl := hsk i (by omega)
      have e := ih (i + 1) (by omega)
      rw [sm] at e
      refine ⟨h.k LM, mm_count h v ⟨fun z => ?_, fun _ => ⟨h.k LM, ad 19, h.r LM rfl, h.k (t := 19) LM, ?_⟩⟩⟩
      · rw [nI_leI (by omega) (by omega)] at z; omega
      · rw [pk_mul, nI_add]
        refine ⟨e1, ?_⟩
        rw [e2, hl.1, nI_leI (by omega) (by omega)]
        refine ⟨fun z => ?_, fun z => ⟨e1, ?_⟩⟩
        · rintro w rfl y rfl
          rw [nI_add, nI_add]
          rw [show c - sk i = 0 by omega] at e
          exact e
        · rintro w rfl y rfl
          rw [pk_sub (by omega), nI_add, nI_add]
          exact e
  exact ⟨_, key (cntf b np) 0 (by omega)⟩
end
