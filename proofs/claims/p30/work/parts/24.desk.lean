/-! ===== the desk's own small methods ===== -/
section
variable {S : Mem} {ad : Nat → Nat} {n : Nat × Nat} {A : AM} {t b np : Nat} {pg sk : Nat → Nat} {px : Nat → Mem → Prop}
theorem inr_lt {p : Int32} {N : Nat} (h : ¬ p < 0) (h2 : p < nI N) (hN : N < 2147483648) : inr p N := by
  rw [lt0_iff] at h
  rw [ilt_iff, nI_toInt hN] at h2
  exact ⟨by omega, h2⟩
theorem not_inr0 {p : Int32} {N : Nat} (h : p < 0) : ¬ inr p N := fun z => by
  rw [lt0_iff] at h; have := z.1; omega
theorem not_inr1 {p : Int32} {N : Nat} (h : nI N ≤ p) (hN : N < 2147483648) : ¬ inr p N := fun z => by
  rw [ile_iff, nI_toInt hN] at h; have := z.2; omega
theorem not_inr2 {p : Int32} {N : Nat} (h : ¬ p < nI N) (hN : N < 2147483648) : ¬ inr p N := fun z => by
  rw [ilt_iff, nI_toInt hN] at h; have := z.2; omega
theorem inr_le {p : Int32} {N : Nat} (h : ¬ p < 0) (h2 : ¬ nI N ≤ p) (hN : N < 2147483648) : inr p N := by
  rw [lt0_iff] at h
  rw [ile_iff, nI_toInt hN] at h2
  exact ⟨by omega, by omega⟩
theorem sp_requireContent (h : Rel S ad n A) {nc : Nat} (hv : gI A 1 3 = nI nc) (hn : nc ≤ 12) {p : Int32} {post : Unit → Mem → Prop} (h1 : ∀ c, c < nc → p = nI c → post () S) (h0 : ¬ inr p nc → px 1 S) : wpX6_requireContent S (ad 0) p post px := by
  refine ⟨fun z => h0 (not_inr0 z), fun z => ⟨h.k L0, ad 1, h.r L0 rfl, h.k L1, fun w => ?_, fun w => ?_⟩⟩
  all_goals rw [h.i L1, hv] at w
  · obtain ⟨c, hc, e, -⟩ := inr_of (inr_lt z w (by omega))
    exact h1 c hc e
  · exact h0 (not_inr2 w (by omega))
theorem sp_findJob (h : Rel S ad n A) (hv : gI A 0 6 = nI n.1) {p : Int32} {post : Option Nat → Mem → Prop} (h1 : ∀ j, j < n.1 → p = nI j → post (some (ad (40 + 3 * j))) S) (h0 : ¬ inr p n.1 → post none S) : wpX6_findJob S (ad 0) p post := by
  have hn := h.2.2.1
  refine ⟨fun z => h0 (not_inr0 z), fun z => ⟨h.k L0, fun w => ?_, fun w => ⟨ad 5, h.r L0 rfl, h.k L5, fun u => ?_, fun u => ⟨?_, ?_⟩⟩⟩⟩
  all_goals rw [h.i L0, hv] at w
  · exact h0 (not_inr1 w (by omega))
  all_goals obtain ⟨j, hj, rfl, -⟩ := inr_of (inr_le z w (by omega))
  · rw [h.len L5, nI_leI (by decide) (by omega)] at u
    have : rn 5 = 4 := rfl
    omega
  · rw [h.len L5]; exact vp_in_nI (show j < 4 by omega) (by decide)
  · have e : mR S (ad 5) (nI j).toNatClampNeg = some (ad (40 + 3 * j)) := by
      rw [nI_clamp (by omega)]
      exact h.r L5 (by show (if j < n.1 then some (40 + 3 * j) else none) = _; rw [if_pos hj])
    rw [e]
    exact ⟨(fun q => nomatch q), fun o q => by cases q; exact h1 j hj rfl⟩
theorem sp_existingJob (h : Rel S ad n A) (hv : gI A 0 6 = nI n.1) {p : Int32} {post : Option Nat → Mem → Prop} (h1 : ∀ j, j < n.1 → p = nI j → post (some (ad (40 + 3 * j))) S) (h0 : ¬ inr p n.1 → px 1 S) : wpX6_existingJob S (ad 0) p post px :=
  ⟨h.k L0, sp_findJob h hv (fun j hj e => ⟨(fun q => nomatch q), fun o q => by cases q; exact h1 j hj e⟩) (fun z => ⟨fun _ => h0 z, fun o q => nomatch q⟩)⟩
theorem sp_requireComplete (h : Rel S ad n A) (ht : JT n t) (v : VJ A t b np pg sk) {post : Unit → Mem → Prop} (h1 : whl b np → post () S) (h0 : ¬ whl b np → px 2 S) : wpX6_requireComplete S (ad t) post px :=
  ⟨h.jk ht, sp_isComplete h ht v (fun w => ⟨fun _ => h1 w, fun z => by rw [i0, nI_eq (by decide) (by decide)] at z; omega⟩) (fun w => ⟨fun z => absurd rfl z, fun _ => h0 w⟩)⟩
theorem jt {j : Nat} (hj : j < n.1) : JT n (40 + 3 * j) := ⟨j, hj, rfl⟩
theorem sp_completeJob (h : Rel S ad n A) (hv : gI A 0 6 = nI n.1) {bd nq : Nat → Nat} {pgs sks : Nat → Nat → Nat} (v : ∀ j, j < n.1 → VJ A (40 + 3 * j) (bd j) (nq j) (pgs j) (sks j)) {p : Int32} {post : Option Nat → Mem → Prop} (h1 : ∀ j, j < n.1 → p = nI j → whl (bd j) (nq j) → post (some (ad (40 + 3 * j))) S) (h2 : ∀ j, j < n.1 → p = nI j → ¬ whl (bd j) (nq j) → px 2 S) (h0 : ¬ inr p n.1 → px 1 S) : wpX6_completeJob S (ad 0) p post px :=
  ⟨h.k L0, sp_existingJob h hv (fun j hj e => ⟨_, rfl, sp_requireComplete h (jt hj) (v j hj) (fun w => h1 j hj e w) (fun w => h2 j hj e w)⟩) h0⟩
theorem sp_requireSheet (h : Rel S ad n A) (ht : JT n t) (v : VJ A t b np pg sk) {p : Int32} {post : Unit → Mem → Prop} (h1 : ∀ i, i < cntf b np → p = nI i → post () S) (h0 : ¬ inr p (cntf b np) → px 3 S) : wpX6_requireSheet S (ad t) p post px := by
  have h8 := cnt_le v
  refine ⟨fun z => h0 (not_inr0 z), fun z => ⟨h.jk ht, sp_sheetCount h ht v ⟨fun w => ?_, fun w => h0 (not_inr2 w (by omega))⟩⟩⟩
  obtain ⟨i, hi, e, -⟩ := inr_of (inr_lt z w (by omega))
  exact h1 i hi e
theorem sp_requireCount {p : Int32} {post : Unit → Mem → Prop} (h1 : ∀ c, 1 ≤ c → c ≤ 500 → p = nI c → post () S) (h0 : ¬ (1 ≤ p.toInt ∧ p.toInt ≤ 500) → px 4 S) : wpX6_requireCount S p post px := by
  have e1 : (nI 1).toInt = 1 := rfl
  have e5 : (nI 500).toInt = 500 := rfl
  refine ⟨fun z => h0 (fun w => ?_), fun z => ⟨fun w => ?_, fun w => h0 (fun u => ?_)⟩⟩
  all_goals rw [ilt_iff, e1] at z
  · omega
  all_goals rw [ile_iff, e5] at w
  · refine h1 p.toInt.toNat (by omega) (by omega) ?_
    rw [ieq_iff, nI_toInt (by omega)]; omega
  · omega
theorem sp_findLot (h : Rel S ad n A) (hv : gI A 0 7 = nI n.2) {p : Int32} {post : Option Nat → Mem → Prop} (h1 : ∀ j, j < n.2 → p = nI j → post (some (ad (60 + 3 * j))) S) (h0 : ¬ inr p n.2 → post none S) : wpX6_findLot S (ad 0) p post := by
  have hn := h.2.2.2
  refine ⟨fun z => h0 (not_inr0 z), fun z => ⟨h.k L0, fun w => ?_, fun w => ⟨ad 13, h.r L0 rfl, h.k L13, fun u => ?_, fun u => ⟨?_, ?_⟩⟩⟩⟩
  all_goals rw [h.i L0, hv] at w
  · exact h0 (not_inr1 w (by omega))
  all_goals obtain ⟨j, hj, rfl, -⟩ := inr_of (inr_le z w (by omega))
  · rw [h.len L13, nI_leI (by decide) (by omega)] at u
    have : rn 13 = 100 := rfl
    omega
  · rw [h.len L13]; exact vp_in_nI (show j < 100 by omega) (by decide)
  · have e : mR S (ad 13) (nI j).toNatClampNeg = some (ad (60 + 3 * j)) := by
      rw [nI_clamp (by omega)]
      exact h.r L13 (by show (if j < n.2 then some (60 + 3 * j) else none) = _; rw [if_pos hj])
    rw [e]
    exact ⟨(fun q => nomatch q), fun o q => by cases q; exact h1 j hj rfl⟩
theorem sp_existingLot (h : Rel S ad n A) (hv : gI A 0 7 = nI n.2) {p : Int32} {post : Option Nat → Mem → Prop} (h1 : ∀ j, j < n.2 → p = nI j → post (some (ad (60 + 3 * j))) S) (h0 : ¬ inr p n.2 → px 1 S) : wpX6_existingLot S (ad 0) p post px :=
  ⟨h.k L0, sp_findLot h hv (fun j hj e => ⟨(fun q => nomatch q), fun o q => by cases q; exact h1 j hj e⟩) (fun z => ⟨fun _ => h0 z, fun o q => nomatch q⟩)⟩
theorem ltt {j : Nat} (hj : j < n.2) : LT n (60 + 3 * j) := ⟨j, hj, rfl⟩
theorem sp_requirePage (h : Rel S ad n A) (ht : LT n t) {am z co : Nat} {cf kf : Nat → Nat} (v : VL A t am z co cf kf) {p : Int32} {post : Unit → Mem → Prop} (h1 : ∀ k, 1 ≤ k → k ≤ z → p = nI k → post () S) (h0 : ¬ (1 ≤ p.toInt ∧ p.toInt ≤ z) → px 3 S) : wpX6_requirePage S (ad t) p post px := by
  have hz := v.2.2.2.1
  have e1 : (nI 1).toInt = 1 := rfl
  have e5 : (nI z).toInt = z := nI_toInt (by omega)
  refine ⟨fun q => h0 (fun w => ?_), fun q => ⟨h.lk ht, fun w => ?_, fun w => h0 (fun u => ?_)⟩⟩
  all_goals rw [ilt_iff, e1] at q
  · omega
  all_goals rw [h.li ht, v.2.1, ile_iff, e5] at w
  · refine h1 p.toInt.toNat (by omega) (by omega) ?_
    rw [ieq_iff, nI_toInt (by omega)]; omega
  · omega
/-- the proofs of a sheet's contents -/
theorem sp_isWhollyApproved (h : Rel S ad n A) (ht : JT n t) (v : VJ A t b np pg sk) {ap : Nat → Nat} (ha : ∀ c, c < 12 → gI A 3 c = nI (ap c) ∧ ap c ≤ 1) {i : Nat} (hi : i < cntf b np) {post : Int32 → Mem → Prop} (h1 : (∀ p, p < plc b → ap (conOn b np pg i p) = 1) → post (nI 1) S) (h0 : (¬ ∀ p, p < plc b → ap (conOn b np pg i p) = 1) → post (nI 0) S) : wpX6_isWhollyApproved S (ad 0) (ad t) (nI i) post := by
  refine ⟨h.jk ht, sp_placeCount h ht v ?_⟩
  have h4 := plc_pos b
  have key : ∀ m p, p + m = plc b → (∀ q, q < p → ap (conOn b np pg i q) = 1) → wlX6_isWhollyApproved_8 (ad 0) (ad t) (nI i) (nI (plc b)) post (m + 1) (nI p) S := by
    intro m
    induction m with
    | zero =>
      intro p hp hq
      obtain rfl : p = plc b := by omega
      refine ⟨fun _ => ⟨nar1, h1 hq⟩, fun z => absurd (nI_le (Nat.le_refl _) (by omega)) z⟩
    | succ m ih =>
      intro p hp hq
      have hlt := conOn_lt v hi (by omega : p < plc b)
      have hac := ha _ hlt
      refine ⟨fun z => ?_, fun _ => ⟨h.k L0, ad 1, h.r L0 rfl, h.jk ht, sp_contentOn h ht v hi (by omega : p < plc b) ⟨h.k L1, sp_isApproved h hlt hac.1 hac.2 ⟨fun z => ?_, fun z => ⟨nar0, h0 fun w => ?_⟩⟩⟩⟩⟩
      · rw [nI_leI (by omega) (by omega)] at z; omega
      · rintro x rfl
        rw [nI_add]
        rw [i0, nI_eq (by omega) (by omega)] at z
        exact ih (p + 1) (by omega) (fun q hq1 => by
          rcases Nat.lt_or_ge q p with h5 | h5
          · exact hq q h5
          · obtain rfl : q = p := by omega
            omega)
      · rw [i0, nI_eq (by omega) (by omega)] at z
        have := w p (by omega)
        omega
  exact ⟨_, key (plc b) 0 (by omega) (fun q hq => absurd hq (by omega))⟩
/-- the class's number of a side's plate -/
def kpl (st : Nat → Nat) (b np : Nat) (pg : Nat → Nat) (i s : Nat) : Nat :=
  if b = 119 then kp1 (conOn b np pg i s) (st (conOn b np pg i s)) else kp2 (conOn b np pg i (2 * s)) (st (conOn b np pg i (2 * s))) (conOn b np pg i (2 * s + 1)) (st (conOn b np pg i (2 * s + 1)))
theorem kpl_lt {st : Nat → Nat} (hst : ∀ c, c < 12 → st c ≤ 99) (v : VJ A t b np pg sk) {i s : Nat} (hi : i < cntf b np) (hs : s < 2) : kpl st b np pg i s < 1560000 := by
  unfold kpl kp1 kp2
  by_cases hb : b = 119
  · rw [if_pos hb]
    have h1 := conOn_lt v hi (show s < plc b by unfold plc; rw [if_pos hb]; omega)
    have := hst _ h1
    omega
  · rw [if_neg hb]
    have h1 := conOn_lt v hi (show 2 * s < plc b by unfold plc; rw [if_neg hb]; omega)
    have h2 := conOn_lt v hi (show 2 * s + 1 < plc b by unfold plc; rw [if_neg hb]; omega)
    have := hst _ h1
    have := hst _ h2
    omega
theorem sp_plateFor (h : Rel S ad n A) (ht : JT n t) (v : VJ A t b np pg sk) {st : Nat → Nat} (hst : ∀ c, c < 12 → gI A 2 c = nI (st c)) {i s : Nat} (hi : i < cntf b np) (hs : s < 2) {post : Int32 → Mem → Prop} (hq : post (nI (kpl st b np pg i s)) S) : wpX6_plateFor S (ad 0) (ad t) (nI i) (nI s) post := by
  have hb2 : b < 200 := by rcases v.2.1 with h | h | h <;> omega
  refine ⟨h.jk ht, sp_placeCount h ht v ⟨fun c => ?_, fun c => ?_⟩⟩
  all_goals rw [nI_eq (by have := plc_pos b; omega) (by decide)] at c
  · have hb : ¬ b = 119 := fun e => c (by rw [plc, if_pos e])
    have p1 : 2 * s < plc b := by unfold plc; rw [if_neg hb]; omega
    have p2 : 2 * s + 1 < plc b := by unfold plc; rw [if_neg hb]; omega
    unfold kpl at hq
    rw [if_neg hb] at hq
    refine ⟨h.k L0, ad 1, h.r L0 rfl, h.jk ht, ?_⟩
    rw [pk_mul]
    refine sp_contentOn h ht v hi p1 ⟨h.jk ht, ?_⟩
    rw [nI_add]
    exact sp_contentOn h ht v hi p2 ⟨h.k L1, sp_plateOf2 h (conOn_lt v hi p1) (hst _ (conOn_lt v hi p1)) (conOn_lt v hi p2) (hst _ (conOn_lt v hi p2)) hq⟩
  · have hb : b = 119 := by
      unfold plc at c
      by_cases e : b = 119
      · exact e
      · rw [if_neg e] at c; omega
    have p1 : s < plc b := by omega
    unfold kpl at hq
    rw [if_pos hb] at hq
    exact ⟨h.k L0, ad 1, h.r L0 rfl, h.jk ht, sp_contentOn h ht v hi p1 ⟨h.k L1, sp_plateOf1 h (conOn_lt v hi p1) (hst _ (conOn_lt v hi p1)) hq⟩⟩
/-- the plates of all sides, in their order: side k is that of sheet k / 2 -/
def ksd (st : Nat → Nat) (b np : Nat) (pg : Nat → Nat) (k : Nat) : Nat := kpl st b np pg (k / 2) (k % 2)
theorem sp_plateSide (h : Rel S ad n A) (ht : JT n t) (v : VJ A t b np pg sk) {st : Nat → Nat} (hst : ∀ c, c < 12 → gI A 2 c = nI (st c)) {k : Nat} (hk : k < 2 * cntf b np) {post : Int32 → Mem → Prop} (hq : post (nI (ksd st b np pg k)) S) : wpX6_plateFor S (ad 0) (ad t) (nI k / nI 2) (nI k - nI k / nI 2 * nI 2) post := by
  have h8 := cnt_le v
  rw [pk_rem (by omega) (by decide) (by decide), pk_div (by omega) (by decide) (by decide)]
  exact sp_plateFor h ht v hst (by omega) (by omega) hq
theorem sp_isOnEarlierSide (h : Rel S ad n A) (ht : JT n t) (v : VJ A t b np pg sk) {st : Nat → Nat} (hst : ∀ c, c < 12 → gI A 2 c = nI (st c)) (hs9 : ∀ c, c < 12 → st c ≤ 99) {k m : Nat} (hk : k ≤ 2 * cntf b np) (hm : m < 1560000) {post : Int32 → Mem → Prop} (h1 : (∃ i, i < k ∧ ksd st b np pg i = m) → post (nI 1) S) (h0 : (¬ ∃ i, i < k ∧ ksd st b np pg i = m) → post (nI 0) S) : wpX6_isOnEarlierSide S (ad 0) (ad t) (nI k) (nI m) post := by
  have h8 := cnt_le v
  have key : ∀ d i, i + d = k → (∀ q, q < i → ksd st b np pg q ≠ m) → wlX6_isOnEarlierSide_3 (ad 0) (ad t) (nI k) (nI m) post (d + 1) (nI i) S := by
    intro d
    induction d with
    | zero =>
      intro i hi hq
      obtain rfl : i = k := by omega
      exact ⟨fun _ => ⟨nar0, h0 fun ⟨q, hq1, hq2⟩ => hq q hq1 hq2⟩, fun z => absurd (nI_le (Nat.le_refl _) (by omega)) z⟩
    | succ d ih =>
      intro i hi hq
      have hlt : ksd st b np pg i < 1560000 := kpl_lt hs9 v (by omega) (by omega)
      refine ⟨fun z => ?_, fun _ => ⟨h.k L0, sp_plateSide h ht v hst (by omega : i < 2 * cntf b np) ⟨fun z => ?_, fun z => ?_⟩⟩⟩
      · rw [nI_leI (by omega) (by omega)] at z; omega
      all_goals rw [nI_eq (by omega) (by omega)] at z
      · rintro x rfl
        rw [nI_add]
        exact ih (i + 1) (by omega) (fun q hq1 => by
          rcases Nat.lt_or_ge q i with h5 | h5
          · exact hq q h5
          · obtain rfl : q = i := by omega
            exact z)
      · exact ⟨nar1, h1 ⟨i, by omega, z⟩⟩
  exact ⟨_, key k 0 (by omega) (fun q hq => absurd hq (by omega))⟩
end
