/-! ===== areJobs ===== -/
section
variable {S S1 S' : Mem} {ad ad' : Nat → Nat} {A A' A1 : AM} {n : Nat × Nat} {s : Sta} {m b np : Nat} {post : Int32 → Mem → Prop} {p q r : Int32} {j i k l c o N : Nat} {f : Nat → Int32} {p1 : Int64}
/-- a page is on one sheet, at one place -/
theorem pg_inj (hb : isB b) (w : whl b np) {i i' p p' : Nat} (hi : i < cntf b np) (hi' : i' < cntf b np) (hp : p < plc b) (hp' : p' < plc b) (e : pgOn b np i p = pgOn b np i' p') : i = i' ∧ p = p' := by
  obtain ⟨w1, w2⟩ := w
  rcases hb with rfl | rfl | rfl
  · have w3 : np % 4 = 0 := w2
    have hi : i < np / 4 := hi
    have hi' : i' < np / 4 := hi'
    have hp : p < 4 := hp
    have hp' : p' < 4 := hp'
    have e : (if p = 0 then np - 2 * i else if p = 1 then 2 * i + 1 else if p = 2 then 2 * i + 2 else np - 2 * i - 1) = (if p' = 0 then np - 2 * i' else if p' = 1 then 2 * i' + 1 else if p' = 2 then 2 * i' + 2 else np - 2 * i' - 1) := e
    have c : p = 0 ∨ p = 1 ∨ p = 2 ∨ p = 3 := by omega
    have c' : p' = 0 ∨ p' = 1 ∨ p' = 2 ∨ p' = 3 := by omega
    rcases c with rfl | rfl | rfl | rfl <;> rcases c' with rfl | rfl | rfl | rfl <;> simp only [Nat.reduceEqDiff, if_true, if_false] at e <;> omega
  · have hp : p < 4 := hp
    have hp' : p' < 4 := hp'
    have e : (if p = 0 then 4 * i + 4 else 4 * i + p) = (if p' = 0 then 4 * i' + 4 else 4 * i' + p') := e
    by_cases c : p = 0 <;> by_cases c' : p' = 0
    · rw [if_pos c, if_pos c'] at e; omega
    · rw [if_pos c, if_neg c'] at e; omega
    · rw [if_neg c, if_pos c'] at e; omega
    · rw [if_neg c, if_neg c'] at e; omega
  · have hp : p < 2 := hp
    have hp' : p' < 2 := hp'
    have e : 2 * i + 1 + p = 2 * i' + 1 + p' := e
    omega
/-- how often each page was seen, ahead of the place p of the sheet i -/
noncomputable def onc (b np i p : Nat) : Nat → Int32 := fun g => pif (∃ i' p', i' < cntf b np ∧ p' < plc b ∧ (i' < i ∨ (i' = i ∧ p' < p)) ∧ pgOn b np i' p' = g) 1 0
theorem onc_0 : onc b np 0 0 = fun _ => 0 := by
  funext g
  refine pif_f ?_
  rintro ⟨i', p', -, -, h | h, -⟩
  · omega
  · omega
theorem onc_row (hi : i < cntf b np) : onc b np i (plc b) = onc b np (i + 1) 0 := by
  funext g
  by_cases h : ∃ i' p', i' < cntf b np ∧ p' < plc b ∧ (i' < i ∨ (i' = i ∧ p' < plc b)) ∧ pgOn b np i' p' = g
  · have h2 : ∃ i' p', i' < cntf b np ∧ p' < plc b ∧ (i' < i + 1 ∨ (i' = i + 1 ∧ p' < 0)) ∧ pgOn b np i' p' = g := by
      obtain ⟨i', p', h1, h2, h3, h4⟩ := h
      exact ⟨i', p', h1, h2, Or.inl (by omega), h4⟩
    rw [onc, onc, pif_t h, pif_t h2]
  · have h2 : ¬ ∃ i' p', i' < cntf b np ∧ p' < plc b ∧ (i' < i + 1 ∨ (i' = i + 1 ∧ p' < 0)) ∧ pgOn b np i' p' = g := by
      rintro ⟨i', p', h1, h2, h3, h4⟩
      exact h ⟨i', p', h1, h2, by omega, h4⟩
    rw [onc, onc, pif_f h, pif_f h2]
theorem onc_step (hb : isB b) (w : whl b np) {p : Nat} (hi : i < cntf b np) (hp : p < plc b) : onc b np i p (pgOn b np i p) = 0 ∧ va_up (onc b np i p) (pgOn b np i p) 1 = onc b np i (p + 1) := by
  constructor
  · refine pif_f ?_
    rintro ⟨i', p', h1, h2, h3, h4⟩
    have := pg_inj hb w h1 hi h2 hp h4
    omega
  · funext g
    by_cases e : g = pgOn b np i p
    · subst e
      rw [vu_at]
      exact (pif_t ⟨i, p, hi, hp, Or.inr ⟨rfl, Nat.lt_succ_self p⟩, rfl⟩).symm
    · rw [va_up_ne _ _ e]
      by_cases h : ∃ i' p', i' < cntf b np ∧ p' < plc b ∧ (i' < i ∨ (i' = i ∧ p' < p)) ∧ pgOn b np i' p' = g
      · have h2 : ∃ i' p', i' < cntf b np ∧ p' < plc b ∧ (i' < i ∨ (i' = i ∧ p' < p + 1)) ∧ pgOn b np i' p' = g := by
          obtain ⟨i', p', h1, h2, h3, h4⟩ := h
          exact ⟨i', p', h1, h2, by omega, h4⟩
        rw [onc, onc, pif_t h, pif_t h2]
      · have h2 : ¬ ∃ i' p', i' < cntf b np ∧ p' < plc b ∧ (i' < i ∨ (i' = i ∧ p' < p + 1)) ∧ pgOn b np i' p' = g := by
          rintro ⟨i', p', h1, h2, h3, h4⟩
          by_cases y : i' = i ∧ p' = p
          · rw [y.1, y.2] at h4; exact e h4.symm
          · exact h ⟨i', p', h1, h2, by omega, h4⟩
        rw [onc, onc, pif_f h, pif_f h2]
theorem onc_all (hb : isB b) (w : whl b np) {g : Nat} (h1 : 1 ≤ g) (h2 : g ≤ np) : onc b np (cntf b np) 0 g = nI 1 := by
  obtain ⟨i, hi, p, hp, e⟩ := pg_ex hb w h1 h2
  exact pif_t ⟨i, p, hi, hp, Or.inl hi, e⟩
/-- what the law's arrays hold -/
def LA0 (A : AM) (n : Nat × Nat) (s : Sta) : Prop :=
  (∀ j, j < 3 → gI A 18 j = nI (s 4 j)) ∧ (∀ j, j < n.1 → gI A 19 j = nI (s 3 j)) ∧ (∀ j k, j < n.1 → k < s 4 j → gI A (15 + j) k = nI (s 5 (16 * j + k))) ∧ ∀ l, l < n.2 → gI A 20 l = nI (s 8 l)
theorem aj_370 {J : Int64 → Int32 → Int32 → Mem → Prop} {w5 : Int64} (hJ : J w5 (nI 1) (nI (j + 1)) S) {x : Int32} (hx : x = nI 1 &&& nI 1) {a3 a4 : Nat} : wcL_areJobs_370 (ad 0) p1 a3 a4 post J w5 x (nI j) S := by
  subst hx
  intro x35 e
  subst e
  rw [and11, nI_add]
  exact hJ
theorem aj_338 (I : Inv S ad n A s m) (hj : j < n.1) {x10 : Int32} (h10 : ¬ x10 = 0 → whl (s 3 j) (s 4 j)) {J : Int64 → Int32 → Int32 → Mem → Prop} {w5 : Int64} (hJ : J w5 (nI 1) (nI (j + 1)) S) {a3 a4 : Nat} : wcL_areJobs_338 (ad 0) p1 a3 a4 post J w5 (nI 1) (nI j) x10 S := by
  have hn := I.h.2.2.1
  have h8 := i_lt I hj
  refine ⟨fun _ x e => aj_370 hJ e, fun z => rd_platesNeeded I (rd_sheets I ⟨fun y => ?_, fun _ x e => aj_370 hJ e⟩)⟩
  have w := h10 z
  have hr := tk_rng A s j (2 * cntf (s 3 j) (s 4 j))
  rw [vNd, vSh, vJ1_v hj hn w, vJ1_v hj hn w, ix_nI (by omega), pk_mul, nI_ltI (by omega) (by show ndd A s j < _; unfold ndd; omega)] at y
  have : ndd A s j ≤ 2 * cntf (s 3 j) (s 4 j) := by unfold ndd; omega
  omega
theorem aj_299 (I0 : Inv S ad n A s m) (hj : j < n.1) (hj3 : j < 3) (h18 : gI A 18 j = nI (s 4 j)) {x10 : Int32} (h10 : ¬ x10 = 0 → whl (s 3 j) (s 4 j)) (T : TA S ad n o 17 f) (hf : ¬ x10 = 0 → ∀ g, 1 ≤ g → g ≤ s 4 j → f g = nI 1) {J : Int64 → Int32 → Int32 → Mem → Prop} {w5 : Int64} (hJ : J w5 (nI 1) (nI (j + 1)) S) {a4 : Nat} : ∃ m', m' ≤ 17 ∧ wlL_areJobs_299 (ad 0) p1 (ad 18) a4 post J m' w5 (nI 1) (nI j) x10 o (nI 1) S := by
  have h16 := (I0.vj j hj).2.2.2.1
  obtain ⟨e1, e2⟩ := rd I0.h (t := 18) (k := j) (by decide) (show j < 3 by omega)
  rw [h18] at e2
  have key : ∀ m' c, c + m' = s 4 j + 1 → 1 ≤ c → wlL_areJobs_299 (ad 0) p1 (ad 18) a4 post J (m' + 1) w5 (nI 1) (nI j) x10 o (nI c) S := by
    intro m'
    induction m' with
    | zero =>
      intro c hc h1
      refine ⟨I0.h.k (t := 18) LM, e1, ?_⟩
      rw [e2]
      refine ⟨fun _ => aj_338 I0 hj h10 hJ, fun z => absurd ((nI_ltI (by omega) (by omega)).2 (by omega)) z⟩
    | succ m' ih =>
      intro c hc h1
      refine ⟨I0.h.k (t := 18) LM, e1, ?_⟩
      rw [e2]
      refine ⟨fun z => ?_, fun _ => ⟨fun _ => aj_338 I0 hj h10 hJ, fun z => ⟨T.1, T.in (by omega) (by decide), ?_⟩⟩⟩
      · rw [nI_ltI (by omega) (by omega)] at z; omega
      · rw [T.at (by omega), hf z c h1 (by omega)]
        refine ⟨fun y => absurd rfl y, fun _ x46 e46 x47 e47 => ?_⟩
        subst e46 e47
        rw [and11, nI_add]
        exact ih (c + 1) (by omega) (by omega)
  by_cases hz : x10 = 0
  · refine ⟨1, by decide, I0.h.k (t := 18) LM, e1, ?_⟩
    exact ⟨fun _ => aj_338 I0 hj h10 hJ, fun _ => ⟨fun _ => aj_338 I0 hj h10 hJ, fun z => absurd hz z⟩⟩
  · exact ⟨s 4 j + 1, by omega, key (s 4 j) 1 (by omega) (by omega)⟩
theorem aj_218 (hj : j < n.1) (hj3 : j < 3) (h18 : gI A 18 j = nI (s 4 j)) (w : whl (s 3 j) (s 4 j)) (hi : i < cntf (s 3 j) (s 4 j)) {J : Int64 → Int32 → Int32 → Int32 → Int32 → Nat → Int32 → Mem → Prop} {w5 : Int64} {x10 : Int32} {a4 : Nat} (hJ : ∀ S', Inv S' ad n A s m → TA S' ad n o 17 (onc (s 3 j) (s 4 j) (i + 1) 0) → J w5 (nI 1) (nI j) (nI (plc (s 3 j))) x10 o (nI (i + 1)) S') : ∀ m' p S', p + m' = plc (s 3 j) → Inv S' ad n A s m → TA S' ad n o 17 (onc (s 3 j) (s 4 j) i p) → wlL_areJobs_218 (ad 0) p1 (ad 18) a4 post J (m' + 1) w5 (nI 1) (nI j) (nI (plc (s 3 j))) x10 o (nI i) (nI p) S' := by
  have hpl := plc_pos (s 3 j)
  intro m'
  induction m' with
  | zero =>
    intro p S' hp I T
    have e : p = plc (s 3 j) := by omega
    subst e
    rw [onc_row hi] at T
    refine ⟨fun _ x59 e => ?_, fun z => absurd ((nI_leI (by omega) (by omega)).2 (Nat.le_refl _)) z⟩
    subst e
    rw [nI_add]
    exact hJ S' I T
  | succ m' ih =>
    intro p S' hp I T
    have h16 := (I.vj j hj).2.2.2.1
    have hb := (I.vj j hj).2.1
    have h8 := i_lt I hj
    have hr := pgOn_rng hb hi (show p < plc (s 3 j) by omega)
    obtain ⟨e1, e2⟩ := rd I.h (t := 18) (k := j) (by decide) (show j < 3 by omega)
    rw [h18] at e2
    refine ⟨fun z => ?_, fun _ => rd_pageAt I hj w hi (by omega) ⟨fun z => ?_, fun _ => ⟨I.h.k (t := 18) LM, e1, ?_⟩⟩⟩
    · rw [nI_leI (by omega) (by omega)] at z; omega
    · rw [nI_ltI (by omega) (by omega)] at z; omega
    · rw [e2]
      refine ⟨fun z => ?_, fun _ => rd_sheetOf I hj w hr.1 hr.2 fun i' hi' hx => ?_⟩
      · rw [nI_ltI (by omega) (by omega)] at z; omega
      · obtain ⟨p', hp', e'⟩ := hx
        obtain ⟨rfl, rfl⟩ := pg_inj hb w hi' hi hp' (by omega) e'
        refine ⟨fun z => absurd rfl z, fun _ x69 e69 => ⟨T.1, T.in (by omega) (by decide), fun x72 e72 => ⟨T.in (by omega) (by decide), fun S74 e74 x75 e75 => ?_⟩⟩⟩
        obtain ⟨o1, o2⟩ := onc_step hb w hi' hp'
        rw [T.at (by omega), o1] at e72
        subst e69 e72 e75
        rw [nI_clamp (by omega)] at e74
        obtain ⟨k2, T2⟩ := ta_put I.h T (pgOn (s 3 j) (s 4 j) i' p') (0 + nI 1)
        rw [show (0 : Int32) + nI 1 = 1 by decide] at k2 T2 e74
        rw [o2] at T2
        rw [← e74] at k2 T2
        rw [and11, nI_add]
        exact ih (p' + 1) S74 (by omega) (I.ro k2 (RO.rf A)) T2
theorem rdy6 (f k o x y b : Nat) : rdy f k o x y b = 0 ∨ rdy f k o x y b = 15 ∨ rdy f k o x y b = 20 ∨ rdy f k o x y b = 35 ∨ rdy f k o x y b = 40 ∨ rdy f k o x y b = 55 := by
  unfold rdy
  split <;> split <;> split <;> simp
theorem aj_119 (hj : j < n.1) (hj3 : j < 3) (h18 : gI A 18 j = nI (s 4 j)) {J : Int64 → Int32 → Int32 → Mem → Prop} {x10 : Int32} {a4 a : Nat} (h10 : ¬ x10 = 0 ↔ whl (s 3 j) (s 4 j)) (ha : a < 2147483648) (hJ : ∀ S', Inv S' ad n A s m → J (lN (a + stk s j 8)) (nI 1) (nI (j + 1)) S') (I0 : Inv S ad n A s m) (T0 : TA S ad n o 17 (fun _ => 0)) : ∃ m', m' ≤ 9 ∧ wlL_areJobs_119 (ad 0) p1 (ad 18) a4 post J m' (lN a) (nI 1) (nI j) (nI (plc (s 3 j))) x10 o (nI 0) S := by
  have hn := I0.h.2.2.1
  have h8 := i_lt I0 hj
  by_cases w : whl (s 3 j) (s 4 j)
  · have hz : ∀ i, i < 8 → cntf (s 3 j) (s 4 j) ≤ i → s 6 (8 * j + i) = 0 := fun i hi hc => I0.st0 (by omega) hi fun y => by omega
    have est : sm (fun i => s 6 (8 * j + i)) (cntf (s 3 j) (s 4 j)) = stk s j 8 := by
      unfold stk
      have : ∀ d, cntf (s 3 j) (s 4 j) + d ≤ 8 → sm (fun i => s 6 (8 * j + i)) (cntf (s 3 j) (s 4 j) + d) = sm (fun i => s 6 (8 * j + i)) (cntf (s 3 j) (s 4 j)) := by
        intro d
        induction d with
        | zero => intro _; rfl
        | succ d ih =>
          intro hd
          have e := ih (by omega)
          show sm (fun i => s 6 (8 * j + i)) (cntf (s 3 j) (s 4 j) + d) + s 6 (8 * j + (cntf (s 3 j) (s 4 j) + d)) = _
          rw [e, hz _ (by omega) (by omega), Nat.add_zero]
      have := this (8 - cntf (s 3 j) (s 4 j)) (by omega)
      rw [show cntf (s 3 j) (s 4 j) + (8 - cntf (s 3 j) (s 4 j)) = 8 by omega] at this
      exact this.symm
    have key : ∀ m' i S', i + m' = cntf (s 3 j) (s 4 j) → Inv S' ad n A s m → TA S' ad n o 17 (onc (s 3 j) (s 4 j) i 0) → wlL_areJobs_119 (ad 0) p1 (ad 18) a4 post J (m' + 1) (lN (a + sm (fun i => s 6 (8 * j + i)) i)) (nI 1) (nI j) (nI (plc (s 3 j))) x10 o (nI i) S' := by
      intro m'
      induction m' with
      | zero =>
        intro i S' hi I T
        have e : i = cntf (s 3 j) (s 4 j) := by omega
        subst e
        refine rd_sheets I ?_
        rw [vSh, vJ1_v hj hn w, ix_nI (by omega)]
        refine ⟨fun _ => ?_, fun z => absurd ((nI_leI (by omega) (by omega)).2 (Nat.le_refl _)) z⟩
        rw [est]
        exact aj_299 I hj hj3 h18 h10.1 T (fun _ g h1 h2 => onc_all (I.vj j hj).2.1 w h1 h2) (hJ S' I)
      | succ m' ih =>
        intro i S' hi I T
        refine rd_sheets I ?_
        rw [vSh, vJ1_v hj hn w, ix_nI (by omega)]
        refine ⟨fun z => ?_, fun _ => rd_makeready I ?_⟩
        · rw [nI_leI (by omega) (by omega)] at z; omega
        have hi' : i < cntf (s 3 j) (s 4 j) := by omega
        have e9 := I.st9 hj (i := i) (by omega)
        have ev : ∀ v, vJS n s (nI j) (nI i) v = v := fun v => by
          rw [vJS, vJ1_v hj hn w, ix_nI (by omega), pif_t ((inr_nI (by omega)).2 hi')]
        rw [vRd, ev, ix_nI (by omega), ix_nI (by omega)]
        refine rd_stock I (rd_stock I ?_)
        rw [vSk, ev, ix_nI (by omega), ix_nI (by omega)]
        have K : ∀ x : Int32, x = nI 1 &&& nI 1 → wcL_areJobs_215 (ad 0) p1 (ad 18) a4 post (wlL_areJobs_119 (ad 0) p1 (ad 18) a4 post J (m' + 1)) (lN (a + sm (fun i => s 6 (8 * j + i)) i) + (nI (s 6 (8 * j + i))).toInt64) x (nI j) (nI (plc (s 3 j))) x10 o (nI i) S' := by
          intro x e
          subst e
          rw [and11, i2l (by omega), lN_add]
          have hpl := plc_pos (s 3 j)
          refine ⟨plc (s 3 j) + 1, by omega, aj_218 hj hj3 h18 w hi' (fun S2 I2 T2 => ?_) (plc (s 3 j)) 0 S' (by omega) I T⟩
          have := ih (i + 1) S2 (by omega) I2 T2
          have e0 : a + sm (fun i => s 6 (8 * j + i)) i + s 6 (8 * j + i) = a + sm (fun i => s 6 (8 * j + i)) (i + 1) := by
            show _ = a + (sm (fun i => s 6 (8 * j + i)) i + s 6 (8 * j + i))
            omega
          rw [e0]
          exact this
        refine ⟨fun z => ?_, fun _ => ⟨fun _ => K, fun c0 => ⟨fun _ => K, fun c15 => ⟨fun _ => K, fun c20 => ⟨fun _ => K, fun c35 => ⟨fun _ => K, fun c40 => ⟨fun c55 => ?_, fun _ => K⟩⟩⟩⟩⟩⟩⟩
        · rw [lt0_iff, nI_toInt (by omega)] at z; omega
        · rcases rdy6 (s 0 7) (s 0 8) (s 0 9) (jm s j i 0) (jm s j i 1) (s 3 j) with e | e | e | e | e | e
          · exact c0 (congrArg nI e)
          · exact c15 (congrArg nI e)
          · exact c20 (congrArg nI e)
          · exact c35 (congrArg nI e)
          · exact c40 (congrArg nI e)
          · exact c55 (congrArg nI e)
    have := key (cntf (s 3 j) (s 4 j)) 0 S (by omega) I0 (by rw [onc_0]; exact T0)
    exact ⟨_, by omega, this⟩
  · have est : stk s j 8 = 0 := by
      unfold stk
      have : ∀ d, d ≤ 8 → sm (fun i => s 6 (8 * j + i)) d = 0 := by
        intro d
        induction d with
        | zero => intro _; rfl
        | succ d ih =>
          intro hd
          show sm (fun i => s 6 (8 * j + i)) d + s 6 (8 * j + d) = 0
          rw [ih (by omega), I0.st0 (by omega) (by omega) fun y => w y.2.1]
      exact this 8 (Nat.le_refl _)
    refine ⟨1, by decide, rd_sheets I0 ?_⟩
    rw [vSh, vJ1_2 hj hn w]
    refine ⟨fun _ => aj_299 I0 hj hj3 h18 (fun z => h10.1 z) T0 (fun z => absurd (h10.1 z) w) ?_, fun z => absurd (by decide) z⟩
    have := hJ S I0
    rw [est, Nat.add_zero] at this
    exact this
theorem aj_110 (hj : j < n.1) (hj3 : j < 3) (h18 : gI A 18 j = nI (s 4 j)) {J : Int64 → Int32 → Int32 → Mem → Prop} {x10 : Int32} {a4 a : Nat} (h10 : ¬ x10 = 0 ↔ whl (s 3 j) (s 4 j)) (ha : a < 2147483648) (hJ : ∀ S', Inv S' ad n A s m → J (lN (a + stk s j 8)) (nI 1) (nI (j + 1)) S') (I0 : Inv S ad n A s m) {x : Int32} (hx : x = nI 1 &&& nI 1) : wcL_areJobs_110 (ad 0) p1 (ad 18) a4 post J (lN a) x (nI j) (nI (plc (s 3 j))) x10 S := by
  subst hx
  intro o ho S26 e26
  subst e26
  rw [and11]
  obtain ⟨k, T⟩ := ta_new (N := 17) I0.h ho
  exact aj_119 hj hj3 h18 h10 ha hJ (I0.ro k (RO.rf A)) T
theorem aj_52 (hj : j < n.1) (hj3 : j < 3) (h18 : gI A 18 j = nI (s 4 j)) (h04 : 0 < s 4 j) {J : Int64 → Int32 → Int32 → Mem → Prop} {x10 : Int32} {a4 a : Nat} (h10 : ¬ x10 = 0 ↔ whl (s 3 j) (s 4 j)) (ha : a < 2147483648) (hJ : ∀ S', Inv S' ad n A s m → J (lN (a + stk s j 8)) (nI 1) (nI (j + 1)) S') (I0 : Inv S ad n A s m) : wcL_areJobs_52 (ad 0) p1 (ad 18) a4 post J (lN a) (nI 1) (nI j) (nI (plc (s 3 j))) x10 S := by
  have hn := I0.h.2.2.1
  have h16 := (I0.vj j hj).2.2.2.1
  have hpl := plc_pos (s 3 j)
  obtain ⟨e1, e2⟩ := rd I0.h (t := 18) (k := j) (by decide) (show j < 3 by omega)
  rw [h18] at e2
  refine rd_pages I0 ⟨I0.h.k (t := 18) LM, e1, ?_⟩
  rw [e2, vPg, pif_t ((inr_nI (by omega)).2 hj), ix_nI (by omega)]
  refine ⟨fun z => absurd rfl z, fun _ => ⟨fun z => rd_sheets I0 ?_, fun z => rd_sheets I0 ⟨I0.h.k (t := 18) LM, e1, ?_⟩⟩⟩
  · have w : ¬ whl (s 3 j) (s 4 j) := fun y => h10.2 y z
    rw [vSh, vJ1_2 hj hn w]
    exact ⟨fun y => absurd rfl y, fun _ x e => aj_110 hj hj3 h18 h10 ha hJ I0 e⟩
  · have w := h10.1 z
    rw [e2, vSh, vJ1_v hj hn w, ix_nI (by omega), pk_div (by omega) hpl.1 (by omega)]
    exact ⟨nI_ne0 hpl.1 (by omega), fun y => absurd rfl y, fun _ x e => aj_110 hj hj3 h18 h10 ha hJ I0 e⟩
theorem aj_35 (hj : j < n.1) (hj3 : j < 3) (h18 : gI A 18 j = nI (s 4 j)) (h04 : 0 < s 4 j) {J : Int64 → Int32 → Int32 → Mem → Prop} {a4 a : Nat} (ha : a < 2147483648) (hJ : ∀ S', Inv S' ad n A s m → J (lN (a + stk s j 8)) (nI 1) (nI (j + 1)) S') (I0 : Inv S ad n A s m) : wcL_areJobs_35 (ad 0) p1 (ad 18) a4 post J (lN a) (nI 1) (nI j) (nI (plc (s 3 j))) S := by
  have h16 := (I0.vj j hj).2.2.2.1
  have hpl := plc_pos (s 3 j)
  obtain ⟨e1, e2⟩ := rd I0.h (t := 18) (k := j) (by decide) (show j < 3 by omega)
  rw [h18] at e2
  refine ⟨I0.h.k (t := 18) LM, e1, nI_ne0 hpl.1 (by omega), ?_⟩
  rw [e2, pk_rem (by omega) hpl.1 (by omega)]
  refine ⟨fun z => aj_52 hj hj3 h18 h04 ⟨fun y => absurd t0 y, fun y => absurd ?_ z⟩ ha hJ I0, fun z => aj_52 hj hj3 h18 h04 ⟨fun _ => ⟨h04, ?_⟩, fun _ => n10⟩ ha hJ I0⟩
  · rw [y.2]; rfl
  · have := Nat.mod_lt (s 4 j) hpl.1
    rw [i0, nI_eq (by omega) (by decide)] at z; exact z
/-- all stocks of the jobs ahead of j -/
def tots (s : Sta) : Nat → Nat
  | 0 => 0
  | j + 1 => tots s j + stk s j 8
theorem rd_areJobs (I0 : Inv S ad n A s m) (hn3 : n.1 = 3) (h18 : ∀ j, j < 3 → gI A 18 j = nI (s 4 j)) (h19 : ∀ j, j < 3 → gI A 19 j = nI (s 3 j)) (h04 : ∀ j, j < 3 → 0 < s 4 j) (hp1 : p1 = lN (s 0 5 + tots s 3)) (hp : ∀ S', Inv S' ad n A s m → post (nI 1) S') : wpL_areJobs S (ad 0) p1 (ad 18) (ad 19) post := by
  have hb5 := I0.vb.1.2.2.2.2.2.1
  have hb8 := I0.vb.1.2.2.2.2.2.2.2
  have htb : ∀ j, j ≤ 3 → tots s j ≤ j * 79992 := by
    intro j
    induction j with
    | zero => intro _; exact Nat.le_refl _
    | succ j ih =>
      intro hj
      have e := ih (by omega)
      have e2 := stk_le I0 (j := j) (by omega) (Nat.le_refl 8)
      show tots s j + stk s j 8 ≤ _
      omega
  have key : ∀ m' j S', j + m' = 3 → Inv S' ad n A s m → wlL_areJobs_12 (ad 0) p1 (ad 18) (ad 19) post (m' + 1) (lN (s 0 5 + tots s j)) (nI 1) (nI j) S' := by
    intro m'
    induction m' with
    | zero =>
      intro j S' hj I
      have e : j = 3 := by omega
      subst e
      refine ⟨fun _ => ⟨fun z => absurd z n10, fun _ => ⟨fun z => absurd ?_ z, fun _ => ⟨nar1, hp S' I⟩⟩⟩, fun z => absurd ((nI_leI (by omega) (by omega)).2 (Nat.le_refl _)) z⟩
      rw [hp1]
      exact lg_same _
    | succ m' ih =>
      intro j S' hj I
      have e3 := htb j (by omega)
      have hb := (I.vj j (by omega)).2.1
      have hb2 := isB_lt hb
      obtain ⟨e1, e2⟩ := rd I.h (t := 19) (k := j) (by decide) (show j < 3 by omega)
      rw [h19 j (by omega)] at e2
      have hJ : ∀ S2, Inv S2 ad n A s m → wlL_areJobs_12 (ad 0) p1 (ad 18) (ad 19) post (m' + 1) (lN (s 0 5 + tots s j + stk s j 8)) (nI 1) (nI (j + 1)) S2 := by
        intro S2 I2
        have := ih (j + 1) S2 (by omega) I2
        have e0 : s 0 5 + tots s j + stk s j 8 = s 0 5 + tots s (j + 1) := by
          show _ = s 0 5 + (tots s j + stk s j 8)
          omega
        rw [e0]
        exact this
      have main := aj_35 (p1 := p1) (post := post) (a4 := ad 19) (a := s 0 5 + tots s j) (by omega) (by omega) (h18 j (by omega)) (h04 j (by omega)) (by omega) hJ I
      refine ⟨fun z => ?_, fun _ => ⟨I.h.k (t := 19) LM, e1, ?_⟩⟩
      · rw [nI_leI (by omega) (by omega)] at z; omega
      · rw [e2, nI_eq (by omega) (by decide)]
        refine ⟨fun z => ?_, fun z => ?_⟩
        · rw [plc, if_neg z] at main; exact main
        · rw [plc, if_pos z] at main; exact main
  exact ⟨I0.h.k l0, rd_waste I0 ⟨4, Nat.le_refl _, key 3 0 S rfl I0⟩⟩
end
