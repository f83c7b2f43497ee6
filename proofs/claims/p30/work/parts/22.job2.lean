/-! ===== a job's stock ===== -/
section
variable {S : Mem} {ad : Nat → Nat} {n : Nat × Nat} {A : AM} {t b np : Nat} {pg sk : Nat → Nat}
theorem cnt_le8 (v : VJ A t b np pg sk) (hw : whl b np) : cntf b np ≤ 8 := by
  have := v.2.2.2.1
  unfold cntf plc; split <;> omega
theorem cnt_le (v : VJ A t b np pg sk) : cntf b np ≤ 8 := by
  have := v.2.2.2.1
  unfold cntf plc; split <;> omega
theorem sp_hasPage (h : Rel S ad n A) (ht : JT n t) (v : VJ A t b np pg sk) {i c : Nat} (hi : i < cntf b np) (hc : c ≤ 16) {post : Int32 → Mem → Prop} (h1 : (∃ p, p < plc b ∧ pgOn b np i p = c) → post (nI 1) S) (h0 : (¬ ∃ p, p < plc b ∧ pgOn b np i p = c) → post (nI 0) S) : wpX1_hasPage S (ad t) (nI i) (nI c) post := by
  refine ⟨h.jk ht, sp_placeCount h ht v ?_⟩
  have h4 := plc_pos b
  have hnp := v.2.2.2.1
  have key : ∀ k p, p + k = plc b → (∀ q, q < p → pgOn b np i q ≠ c) → wlX1_hasPage_8 (ad t) (nI i) (nI c) (nI (plc b)) post (k + 1) (nI p) S := by
    intro k
    induction k with
    | zero =>
      intro p hp hq
      refine ⟨fun _ => ⟨nar0, h0 fun ⟨q, hq1, hq2⟩ => hq q (by omega) hq2⟩, fun z => ?_⟩
      rw [nI_leI (by omega) (by omega)] at z; omega
    | succ k ih =>
      intro p hp hq
      have hr := pgOn_rng v.2.1 hi (by omega : p < plc b)
      refine ⟨fun z => ?_, fun _ => ⟨h.jk ht, sp_pageOn h ht v hi (by omega : p < plc b) ⟨fun z => ?_, fun z => ?_⟩⟩⟩
      · rw [nI_leI (by omega) (by omega)] at z; omega
      · rintro x rfl
        rw [nI_add]
        rw [nI_eq (by omega) (by omega)] at z
        exact ih (p + 1) (by omega) (fun q hq1 => by
          rcases Nat.lt_or_ge q p with h5 | h5
          · exact hq q h5
          · obtain rfl : q = p := by omega
            exact z)
      · rw [nI_eq (by omega) (by omega)] at z
        exact ⟨nar1, h1 ⟨p, by omega, z⟩⟩
  exact ⟨_, key (plc b) 0 (by omega) (fun q hq => absurd hq (by omega))⟩
/-- the first sheet that has a page -/
theorem sp_sheetWith (h : Rel S ad n A) (ht : JT n t) (v : VJ A t b np pg sk) {c : Nat} (hc : c ≤ 16) {post : Int32 → Mem → Prop} (h1 : ∀ i, i < cntf b np → (∃ p, p < plc b ∧ pgOn b np i p = c) → (∀ j, j < i → ¬ ∃ p, p < plc b ∧ pgOn b np j p = c) → post (nI i) S) (h0 : (∀ i, i < cntf b np → ¬ ∃ p, p < plc b ∧ pgOn b np i p = c) → post (-1) S) : wpX1_sheetWith S (ad t) (nI c) post := by
  refine ⟨h.jk ht, sp_sheetCount h ht v ?_⟩
  have h8 := cnt_le v
  have key : ∀ k i, i + k = cntf b np → (∀ j, j < i → ¬ ∃ p, p < plc b ∧ pgOn b np j p = c) → wlX1_sheetWith_7 (ad t) (nI c) (nI (cntf b np)) post (k + 1) (nI i) S := by
    intro k
    induction k with
    | zero =>
      intro i hi hq
      refine ⟨fun _ => h0 (by rw [← show i = cntf b np by omega]; exact hq), fun z => ?_⟩
      rw [nI_leI (by omega) (by omega)] at z; omega
    | succ k ih =>
      intro i hi hq
      refine ⟨fun z => ?_, fun _ => ⟨h.jk ht, sp_hasPage h ht v (by omega) hc (fun e => ⟨fun z => ?_, fun z => ?_⟩) (fun e => ⟨fun z => ?_, fun z => ?_⟩)⟩⟩
      · rw [nI_leI (by omega) (by omega)] at z; omega
      · rw [i0, nI_eq (by decide) (by decide)] at z; omega
      · exact h1 i (by omega) e hq
      · rintro x rfl
        rw [nI_add]
        exact ih (i + 1) (by omega) (fun j hj => by
          rcases Nat.lt_or_ge j i with h5 | h5
          · exact hq j h5
          · obtain rfl : j = i := by omega
            exact e)
      · exact absurd rfl z
  exact ⟨_, key (cntf b np) 0 (by omega) (fun q hq => absurd hq (by omega))⟩
theorem sp_stockOf (h : Rel S ad n A) (ht : JT n t) (v : VJ A t b np pg sk) {i : Nat} (hi : i < 8) {post : Int32 → Mem → Prop} (hq : post (nI (sk i)) S) : wpX1_stockOf S (ad t) (nI i) post := by
  have hl := ht.l h.2.2.1
  refine ⟨h.jk ht, _, h.j2 ht, sp_at h hl.2.2.1 hl.2.2.2.2.2.1 (by rw [hl.2.2.2.2.2.2.2.1]; omega) ?_⟩
  rw [(v.2.2.2.2.2 i hi).1]; exact hq
/-- the piles are written -/
def VS (A A' : AM) (t : Nat) (sk' : Nat → Nat) : Prop := Ex A A' (t + 2) ∧ ∀ k, k < 8 → gI A' (t + 2) k = nI (sk' k)
theorem VJ.put (v : VJ A t b np pg sk) {A' : AM} {sk' : Nat → Nat} (e : VS A A' t sk') (hs : ∀ k, k < 8 → sk' k ≤ 9999) : VJ A' t b np pg sk' := by
  obtain ⟨h1, h2, h3, h4, h5, h6⟩ := v
  refine ⟨?_, h2, ?_, h4, ?_, fun k hk => ⟨e.2 k hk, hs k hk⟩⟩
  · rw [e.1.1 t (by omega)]; exact h1
  · rw [e.1.1 t (by omega)]; exact h3
  · rw [e.1.1 (t + 1) (by omega)]; exact h5
theorem VS.at' {A' : AM} {f : Nat → Nat} (e : VS A A' t f) {k x : Nat} (hk : k < 8) (hx : f k = x) : gI A' (t + 2) k = nI x := by rw [e.2 k hk, hx]
theorem VS.to {A' : AM} {f g : Nat → Nat} (e : VS A A' t f) (hx : ∀ k, k < 8 → f k = g k) : VS A A' t g := ⟨e.1, fun k hk => by rw [e.2 k hk, hx k hk]⟩
theorem VS.rf (v : VJ A t b np pg sk) : VS A A t sk := ⟨Ex.rf A _, fun k hk => (v.2.2.2.2.2 k hk).1⟩
theorem sp_addToStock (h : Rel S ad n A) (ht : JT n t) {i a c : Nat} {x : Int32} (hi : i < 8) (ha : gI A (t + 2) i = nI a) (hx : nI a + x = nI c) {post : Unit → Mem → Prop} (hq : ∀ S', Rel S' ad n (aI A (t + 2) i (nI c)) → post () S') : wpX1_addToStock S (ad t) (nI i) x post := by
  have hl := ht.l h.2.2.1
  refine ⟨h.jk ht, _, h.j2 ht, sp_at h hl.2.2.1 hl.2.2.2.2.2.1 (by rw [hl.2.2.2.2.2.2.2.1]; omega) ?_⟩
  rw [ha, hx]
  exact sp_put h hl.2.2.1 hl.2.2.2.2.2.1 (by rw [hl.2.2.2.2.2.2.2.1]; omega) hq
theorem sp_takeSheets (h : Rel S ad n A) (ht : JT n t) {i a : Nat} (hi : i < 8) (ha : gI A (t + 2) i = nI a) {post : Int32 → Mem → Prop} (hq : ∀ S', Rel S' ad n (aI A (t + 2) i (nI 0)) → post (nI a) S') : wpX1_takeSheets S (ad t) (nI i) post := by
  have hl := ht.l h.2.2.1
  refine ⟨h.jk ht, _, h.j2 ht, sp_at h hl.2.2.1 hl.2.2.2.2.2.1 (by rw [hl.2.2.2.2.2.2.2.1]; omega) ?_⟩
  rw [ha]
  exact ⟨h.jk ht, _, h.j2 ht, sp_put h hl.2.2.1 hl.2.2.2.2.2.1 (by rw [hl.2.2.2.2.2.2.2.1]; omega) hq⟩
theorem VS.step (e : VS A A t sk) {A1 : AM} {f g : Nat → Nat} (e1 : VS A A1 t f) {i c : Nat} (hg : ∀ k, k < 8 → g k = if k = i then c else f k) : VS A (aI A1 (t + 2) i (nI c)) t g := by
  refine ⟨e1.1.tr (Ex.aI _ _ _ _), fun k hk => ?_⟩
  rw [hg k hk]
  by_cases q : k = i
  · rw [if_pos q, q, gI_aI]
  · rw [if_neg q, gI_aIk _ _ _ _ _ q]; exact e1.2 k hk
theorem sp_takeAllSheets (h : Rel S ad n A) (ht : JT n t) (v : VJ A t b np pg sk) {post : Int32 → Mem → Prop} (hq : ∀ S' A', Rel S' ad n A' → VS A A' t (fun _ => 0) → post (nI (sm sk 8)) S') : wpX1_takeAllSheets S (ad t) post := by
  have key : ∀ k i S1 A1, i + k = 8 → Rel S1 ad n A1 → VS A A1 t (fun k => if k < i then 0 else sk k) → wlX1_takeAllSheets_4 (ad t) post (k + 1) (nI (sm sk i)) (nI i) S1 := by
    intro k
    induction k with
    | zero =>
      intro i S1 A1 hi h1 e1
      obtain rfl : i = 8 := by omega
      exact ⟨fun _ => hq S1 A1 h1 (e1.to (fun k hk => if_pos hk)), fun z => absurd (nI_le (Nat.le_refl 8) (by decide)) z⟩
    | succ k ih =>
      intro i S1 A1 hi h1 e1
      refine ⟨fun z => ?_, fun _ => ⟨h1.jk ht, sp_takeSheets h1 ht (a := sk i) (by omega) (e1.at' (by omega) (if_neg (by omega))) fun S2 h2 => ?_⟩⟩
      · rw [nI_leI (by omega) (by omega)] at z; omega
      · rintro x rfl y rfl
        rw [nI_add, nI_add]
        exact ih (i + 1) S2 _ (by omega) h2 (VS.step (VS.rf v) e1 (fun k hk => by
          by_cases q : k = i
          · rw [if_pos q, if_pos (by omega)]
          · rw [if_neg q]; split <;> split <;> first | rfl | omega))
  exact ⟨_, key 8 0 S A (by omega) h ((VS.rf v).to (fun k hk => (if_neg (by omega)).symm))⟩
theorem sp_takeSheetsShowing (h : Rel S ad n A) (ht : JT n t) (v : VJ A t b np pg sk) {c : Nat} (hc : c < 12) (f : Nat → Nat) (hf1 : ∀ k, k < cntf b np → shows b np pg k c → f k = sk k) (hf0 : ∀ k, k < cntf b np → ¬ shows b np pg k c → f k = 0) {post : Int32 → Mem → Prop} (hq : ∀ S' A', Rel S' ad n A' → VS A A' t (fun k => if k < cntf b np then sk k - f k else sk k) → post (nI (sm f (cntf b np))) S') : wpX1_takeSheetsShowing S (ad t) (nI c) post := by
  refine ⟨h.jk ht, sp_sheetCount h ht v ?_⟩
  have h8 := cnt_le v
  have key : ∀ k i S1 A1, i + k = cntf b np → Rel S1 ad n A1 → VS A A1 t (fun k => if k < i then sk k - f k else sk k) → wlX1_takeSheetsShowing_10 (ad t) (nI c) (nI (cntf b np)) post (k + 1) (nI (sm f i)) (nI i) S1 := by
    intro k
    induction k with
    | zero =>
      intro i S1 A1 hi h1 e1
      obtain rfl : i = cntf b np := by omega
      exact ⟨fun _ => hq S1 A1 h1 e1, fun z => absurd (nI_le (Nat.le_refl _) (by omega)) z⟩
    | succ k ih =>
      intro i S1 A1 hi h1 e1
      have v1 := v.put e1 (fun k hk => by have := (v.2.2.2.2.2 k hk).2; split <;> omega)
      refine ⟨fun z => ?_, fun _ => ⟨h1.jk ht, sp_isShowing h1 ht v1 (by omega : i < cntf b np) hc (fun e => ⟨fun z => ?_, fun _ => ?_⟩) (fun e => ⟨fun _ => ?_, fun z => ?_⟩)⟩⟩
      · rw [nI_leI (by omega) (by omega)] at z; omega
      · rw [i0, nI_eq (by decide) (by decide)] at z; omega
      · refine ⟨h1.jk ht, sp_takeSheets h1 ht (a := sk i) (by omega) (e1.at' (by omega) (if_neg (by omega))) fun S2 h2 => ?_⟩
        rintro x rfl y rfl
        rw [nI_add, nI_add]
        have ef := hf1 i (by omega) e
        rw [← show sm f (i + 1) = sm f i + sk i by rw [sm, ef]]
        exact ih (i + 1) S2 _ (by omega) h2 (VS.step (VS.rf v) e1 (fun k hk => by
          by_cases q : k = i
          · subst q; rw [if_pos rfl, if_pos (by omega), ef]; omega
          · rw [if_neg q]; split <;> split <;> first | rfl | omega))
      · rintro y rfl
        rw [nI_add]
        have ef := hf0 i (by omega) e
        rw [← show sm f (i + 1) = sm f i by rw [sm, ef]; rfl]
        exact ih (i + 1) S1 A1 (by omega) h1 (e1.to (fun k hk => by
          by_cases q : k = i
          · subst q; show (if k < k then _ else _) = (if k < k + 1 then _ else _); rw [if_neg (by omega), if_pos (by omega), ef]; rfl
          · show (if k < i then _ else _) = (if k < i + 1 then _ else _); split <;> split <;> first | rfl | omega))
      · exact absurd rfl z
  exact ⟨_, key (cntf b np) 0 S A (by omega) h ((VS.rf v).to (fun k hk => (if_neg (by omega)).symm))⟩
theorem sp_lackFor (h : Rel S ad n A) (ht : JT n t) (v : VJ A t b np pg sk) {c : Nat} (hc : c ≤ 500) {post : Int32 → Mem → Prop} (hq : post (nI (sm (fun k => c - sk k) (cntf b np))) S) : wpX1_lackFor S (ad t) (nI c) post := by
  refine ⟨h.jk ht, sp_sheetCount h ht v ?_⟩
  have h8 := cnt_le v
  have hl := ht.l h.2.2.1
  have key : ∀ k i, i + k = cntf b np → wlX1_lackFor_10 (ad t) (nI c) (nI (cntf b np)) post (k + 1) (nI (sm (fun k => c - sk k) i)) (nI i) S := by
    intro k
    induction k with
    | zero =>
      intro i hi
      obtain rfl : i = cntf b np := by omega
      exact ⟨fun _ => hq, fun z => absurd (nI_le (Nat.le_refl _) (by omega)) z⟩
    | succ k ih =>
      intro i hi
      have hs := v.2.2.2.2.2 i (by omega)
      refine ⟨fun z => ?_, fun _ => ⟨h.jk ht, _, h.j2 ht, sp_at h hl.2.2.1 hl.2.2.2.2.2.1 (by rw [hl.2.2.2.2.2.2.2.1]; omega) ?_⟩⟩
      · rw [nI_leI (by omega) (by omega)] at z; omega
      · rintro x rfl y rfl
        rw [hs.1, nI_add]
        have e : (if nI 0 < nI c - nI (sk i) then nI c - nI (sk i) else nI 0) = nI (c - sk i) := by
          rcases Nat.lt_or_ge (sk i) c with q | q
          · rw [pk_sub (by omega), if_pos (nI_lt (by omega) (by omega))]
          · rw [if_neg, show c - sk i = 0 by omega]
            rw [ilt_iff, nI_toInt (by decide), pk_sub_toInt (by omega) (by omega)]; omega
        rw [e, nI_add]
        exact ih (i + 1) (by omega)
  exact ⟨_, key (cntf b np) 0 (by omega)⟩
theorem sp_takeSheetsFor (h : Rel S ad n A) (ht : JT n t) (v : VJ A t b np pg sk) {c : Nat} (hc : ∀ k, k < cntf b np → c ≤ sk k) {post : Unit → Mem → Prop} (hq : ∀ S' A', Rel S' ad n A' → VS A A' t (fun k => if k < cntf b np then sk k - c else sk k) → post () S') : wpX1_takeSheetsFor S (ad t) (nI c) post := by
  refine ⟨h.jk ht, sp_sheetCount h ht v ?_⟩
  have h8 := cnt_le v
  have key : ∀ k i S1 A1, i + k = cntf b np → Rel S1 ad n A1 → VS A A1 t (fun k => if k < i then sk k - c else sk k) → wlX1_takeSheetsFor_7 (ad t) (nI c) (nI (cntf b np)) post (k + 1) (nI i) S1 := by
    intro k
    induction k with
    | zero =>
      intro i S1 A1 hi h1 e1
      obtain rfl : i = cntf b np := by omega
      exact ⟨fun _ => hq S1 A1 h1 e1, fun z => absurd (nI_le (Nat.le_refl _) (by omega)) z⟩
    | succ k ih =>
      intro i S1 A1 hi h1 e1
      have hci := hc i (by omega)
      refine ⟨fun z => ?_, fun _ => ⟨h1.jk ht, sp_addToStock h1 ht (a := sk i) (c := sk i - c) (by omega) (e1.at' (by omega) (if_neg (by omega))) ?_ fun S2 h2 => ?_⟩⟩
      · rw [nI_leI (by omega) (by omega)] at z; omega
      · rw [← pk_sub hci, Int32.sub_eq_add_neg]
      · rintro y rfl
        rw [nI_add]
        exact ih (i + 1) S2 _ (by omega) h2 (VS.step (VS.rf v) e1 (fun k hk => by
          by_cases q : k = i
          · subst q; rw [if_pos rfl, if_pos (by omega)]
          · rw [if_neg q]; split <;> split <;> first | rfl | omega))
  exact ⟨_, key (cntf b np) 0 S A (by omega) h ((VS.rf v).to (fun k hk => (if_neg (by omega)).symm))⟩
theorem sp_append (h : Rel S ad n A) (ht : JT n t) (v : VJ A t b np pg sk) {c : Nat} (hnp : np < 16) {post : Unit → Mem → Prop} (hq : ∀ S', Rel S' ad n (aI (aI A (t + 1) np (nI c)) t 3 (nI (np + 1))) → post () S') : wpX1_append S (ad t) (nI c) post := by
  have hl := ht.l h.2.2.1
  refine ⟨h.jk ht, _, h.j1 ht, ?_⟩
  rw [h.ji ht, v.2.2.1]
  refine sp_put h hl.2.1 hl.2.2.2.2.1 (by rw [hl.2.2.2.2.2.2.1]; omega) fun S1 h1 => ⟨h1.jk ht, ?_⟩
  rintro x rfl S2 rfl
  rw [h1.ji ht, gI_aIu _ _ _ _ _ (by omega : t ≠ t + 1), v.2.2.1, nI_add]
  exact hq _ (h1.sI hl.1 3 _)
end
