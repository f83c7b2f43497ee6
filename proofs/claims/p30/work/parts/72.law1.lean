/-! ===== the law's steps: what they rest on ===== -/
section
variable {S S1 S' : Mem} {ad ad' : Nat → Nat} {A A' A1 : AM} {n n' : Nat × Nat} {s s' : Sta} {m P B L : Nat} {xs : Nat → Int32} {post : Int32 → Mem → Prop} {p q r : Int32} {j i k l c o mn : Nat} {F : Nat → Nat → Nat} {T : TT} {x13 : Int64}
/-- nothing of the class's own differs, but scratch cells -/
theorem Inv.rl (I : Inv S ad n A s m) (h : Rel S' ad n A') (x : ∀ t, t < 9 ∨ 40 ≤ t → gI A' t = gI A t) (y : gJ A' = gJ A) : Inv S' ad n A' s m := by
  obtain ⟨-, vc, vb, vp⟩ := I
  refine ⟨h, ?_, vb, ?_⟩
  · unfold VC
    rw [x 1 (by decide), x 0 (by decide), x 7 (by decide), y, x 2 (by decide), x 3 (by decide), x 4 (by decide)]
    refine ⟨vc.1, vc.2.1, vc.2.2.1, vc.2.2.2.1, vc.2.2.2.2.1, fun j hj => ?_, fun l hl => ?_⟩
    · exact (vc.2.2.2.2.2.1 j hj).ex (x _ (by omega)) (x _ (by omega)) (x _ (by omega))
    · have := vc.2.2.2.2.2.2 l hl
      unfold VL
      rw [x _ (by omega), x _ (by omega), x _ (by omega)]
      exact this
  · unfold VP
    rw [x 6 (by decide), x 8 (by decide)]
    exact vp
theorem LA0.keep (h : LA0 A n s) (k : LK A A') (e3 : s' 3 = s 3) (e4 : s' 4 = s 4) (e5 : s' 5 = s 5) (e8 : s' 8 = s 8) (h3 : n.1 ≤ 3) : LA0 A' n s' := by
  obtain ⟨a, b, c, d⟩ := h
  unfold LA0
  rw [e3, e4, e5, e8, k 18 (by decide) (by decide), k 19 (by decide) (by decide), k 20 (by decide) (by decide)]
  refine ⟨a, b, fun j k' hj hk => ?_, d⟩
  rw [k (15 + j) (by omega) (by omega)]
  exact c j k' hj hk
/-- where the law's loop stands -/
def LV (S : Mem) (ad : Nat → Nat) (n : Nat × Nat) (A : AM) (s : Sta) (m : Nat) : Prop := Inv S ad n A s m ∧ LA0 A n s ∧ n.1 = 3 ∧ s 0 0 = 4 ∧ ∀ j, j < 3 → 0 < s 4 j
theorem LV.I (V : LV S ad n A s m) : Inv S ad n A s m := V.1
abbrev JT9 : Type := Nat → Nat → Nat → Nat → Nat → Int64 → Int64 → Int32 → Int32 → Int32 → Mem → Prop
theorem c852 (V : LV S ad n A s m) (bal : P = B + s 0 5 + tots s 3) {J : JT9} {w11 : Int32} (hJ : ∀ S', LV S' ad n A s m → J (ad 0) (ad 14) (ad 18) (ad 19) (ad 20) (lN P) (lN B) (nI 1) w11 (nI (i + 1)) S') {x : Int32} (hx : x = nI 1 &&& nI 1) : wcL_law_852 L xs post J (ad 0) (ad 14) (ad 18) (ad 19) (ad 20) (lN P) (lN B) x w11 (nI i) S := by
  subst hx
  obtain ⟨I, hL, hn, h0, h4⟩ := V
  refine rd_areJobs I hn hL.1 (fun j hj => hL.2.1 j (by omega)) h4 (by rw [lN_sub (by omega)]; exact congrArg lN (by omega)) fun S1 I1 => ⟨fun z => absurd z n10, fun _ => rd_areLots I1 h0 hn hL fun S2 I2 => ⟨fun z => absurd z n10, fun _ x64 e64 x65 e65 => ?_⟩⟩
  subst e64 e65
  rw [and11, and11, nI_add]
  exact hJ S2 ⟨I2, hL, hn, h0, h4⟩
theorem c824 (V : LV S ad n A s m) (bal : P = B + s 0 5 + tots s 3) {J : JT9} {x19 : Int32} (hs : ¬ 0 ≤ x19 → ∀ post : Int64 → Mem → Prop, post x13 S → wpL_sum S (ad 0) post) (hJ : ∀ S', LV S' ad n A s m → J (ad 0) (ad 14) (ad 18) (ad 19) (ad 20) (lN P) (lN B) (nI 1) (nI (k + 4)) (nI (i + 1)) S') : wcL_law_824 L xs post J (ad 0) (ad 14) (ad 18) (ad 19) (ad 20) (lN P) (lN B) (nI 1) (nI k) (nI i) x13 x19 S := by
  intro x55 e55
  subst e55
  rw [nI_add]
  refine ⟨fun _ x e => c852 V bal hJ e, fun z => hs z _ ⟨fun y => absurd (lg_same _) y, fun _ x e => c852 V bal hJ e⟩⟩
theorem ge0 (h : k < 2147483648) {Q : Prop} (z : ¬ 0 ≤ nI k) : Q := absurd (nI_pos' (by omega)) z
/-- sums -/
theorem tots_same (e : s' 6 = s 6) : ∀ j, tots s' j = tots s j := by
  intro j
  induction j with
  | zero => rfl
  | succ j ih =>
    show tots s' j + stk s' j 8 = tots s j + stk s j 8
    unfold stk
    rw [ih, e]
theorem sm_add {f g h : Nat → Nat} : ∀ {N : Nat}, (∀ k, k < N → f k + g k = h k) → sm f N + sm g N = sm h N
  | 0, _ => rfl
  | N + 1, e => by
    have h1 := sm_add (N := N) (f := f) (g := g) (h := h) fun k hk => e k (by omega)
    have h2 := e N (by omega)
    simp only [sm]
    omega
theorem sm_one {f g : Nat → Nat} {i c : Nat} : ∀ {N : Nat}, i < N → g i = f i + c → (∀ k, k < N → k ≠ i → g k = f k) → sm g N = sm f N + c
  | 0, h, _, _ => absurd h (Nat.not_lt_zero _)
  | N + 1, h, h1, h2 => by
    by_cases e : i = N
    · subst e
      have := sm_cong (N := i) (f := g) (g := f) fun k hk => h2 k (by omega) (by omega)
      simp only [sm]
      omega
    · have := sm_one (N := N) (f := f) (g := g) (i := i) (c := c) (by omega) h1 fun k hk hne => h2 k (by omega) hne
      have h3 := h2 N (by omega) (by omega)
      simp only [sm]
      omega
theorem sm_const {c : Nat} : ∀ N, sm (fun _ => c) N = N * c
  | 0 => by simp [sm]
  | N + 1 => by simp only [sm, sm_const N, Nat.add_mul]; omega
theorem tots3 (s : Sta) : tots s 3 = stk s 0 8 + stk s 1 8 + stk s 2 8 := by simp [tots]
theorem tots_one (hj : j < 3) {v : Nat} (e : stk s' j 8 = stk s j 8 + v) (o : ∀ i, i < 3 → i ≠ j → stk s' i 8 = stk s i 8) : tots s' 3 = tots s 3 + v := by
  rw [tots3, tots3]
  have h : j = 0 ∨ j = 1 ∨ j = 2 := by omega
  rcases h with rfl | rfl | rfl
  · have := o 1 (by decide) (by decide); have := o 2 (by decide) (by decide); omega
  · have := o 0 (by decide) (by decide); have := o 2 (by decide) (by decide); omega
  · have := o 0 (by decide) (by decide); have := o 1 (by decide) (by decide); omega
theorem tots_less (hj : j < 3) {v : Nat} (e : stk s' j 8 + v = stk s j 8) (o : ∀ i, i < 3 → i ≠ j → stk s' i 8 = stk s i 8) : tots s' 3 + v = tots s 3 := by
  rw [tots3, tots3]
  have h : j = 0 ∨ j = 1 ∨ j = 2 := by omega
  rcases h with rfl | rfl | rfl
  · have := o 1 (by decide) (by decide); have := o 2 (by decide) (by decide); omega
  · have := o 0 (by decide) (by decide); have := o 2 (by decide) (by decide); omega
  · have := o 0 (by decide) (by decide); have := o 1 (by decide) (by decide); omega
theorem tots_print (hj : j < 3) (hi : i < 8) : tots (sPr s j i c mn T) 3 = tots s 3 + c := by
  refine tots_one hj ?_ fun l hl hne => ?_
  · refine sm_one (f := fun i => s 6 (8 * j + i)) (i := i) hi ?_ fun k hk hne => ?_
    · show (if 8 * j + i = 8 * j + i then s 6 (8 * j + i) + c else s 6 (8 * j + i)) = _
      rw [if_pos rfl]
    · show (if 8 * j + k = 8 * j + i then s 6 (8 * j + k) + c else s 6 (8 * j + k)) = _
      rw [if_neg (by omega)]
  · refine sm_cong fun k hk => ?_
    show (if 8 * l + k = 8 * j + i then s 6 (8 * l + k) + c else s 6 (8 * l + k)) = _
    rw [if_neg (by omega)]
theorem tots_page (hj : j < 3) : tots (sP s j c) 3 + stk s j 8 = tots s 3 := by
  refine tots_less hj ?_ fun l hl hne => ?_
  · have e : stk (sP s j c) j 8 = 0 := by
      unfold stk
      refine sm_0 fun k hk => ?_
      show (if (8 * j + k) / 8 = j then 0 else s 6 (8 * j + k)) = 0
      rw [if_pos (by omega)]
    omega
  · refine sm_cong fun k hk => ?_
    show (if (8 * l + k) / 8 = j then 0 else s 6 (8 * l + k)) = _
    rw [if_neg (by omega)]
theorem tots_bind (hj : j < 3) (h8 : cntf (s 3 j) (s 4 j) ≤ 8) (hc : ∀ i, i < cntf (s 3 j) (s 4 j) → c ≤ s 6 (8 * j + i)) : tots (sB s n j c) 3 + c * cntf (s 3 j) (s 4 j) = tots s 3 := by
  refine tots_less hj ?_ fun l hl hne => ?_
  · have e1 : sm (fun k => if k < cntf (s 3 j) (s 4 j) then c else 0) 8 = c * cntf (s 3 j) (s 4 j) := by
      have h : ∀ d, cntf (s 3 j) (s 4 j) + d ≤ 8 → sm (fun k => if k < cntf (s 3 j) (s 4 j) then c else 0) (cntf (s 3 j) (s 4 j) + d) = c * cntf (s 3 j) (s 4 j) := by
        intro d
        induction d with
        | zero =>
          intro _
          have e := sm_cong (N := cntf (s 3 j) (s 4 j)) (f := fun k => if k < cntf (s 3 j) (s 4 j) then c else 0) (g := fun _ => c) fun k hk => if_pos hk
          rw [Nat.add_zero, e, sm_const, Nat.mul_comm]
        | succ d ih =>
          intro hd
          show sm (fun k => if k < cntf (s 3 j) (s 4 j) then c else 0) (cntf (s 3 j) (s 4 j) + d) + (if cntf (s 3 j) (s 4 j) + d < cntf (s 3 j) (s 4 j) then c else 0) = _
          rw [ih (by omega), if_neg (by omega), Nat.add_zero]
      have := h (8 - cntf (s 3 j) (s 4 j)) (by omega)
      rwa [show cntf (s 3 j) (s 4 j) + (8 - cntf (s 3 j) (s 4 j)) = 8 by omega] at this
    rw [← e1]
    refine sm_add fun k hk => ?_
    show (if (8 * j + k) / 8 = j ∧ (8 * j + k) % 8 < cntf (s 3 j) (s 4 j) then s 6 (8 * j + k) - c else s 6 (8 * j + k)) + (if k < cntf (s 3 j) (s 4 j) then c else 0) = s 6 (8 * j + k)
    by_cases y : k < cntf (s 3 j) (s 4 j)
    · have := hc k y
      rw [if_pos (by omega), if_pos y]; omega
    · rw [if_neg (by omega), if_neg y, Nat.add_zero]
  · refine sm_cong fun k hk => ?_
    show (if (8 * l + k) / 8 = j ∧ (8 * l + k) % 8 < cntf (s 3 j) (s 4 j) then s 6 (8 * l + k) - c else s 6 (8 * l + k)) = _
    rw [if_neg (by omega)]
theorem tots_corr (I : Inv S ad n A s m) (hn : n.1 = 3) (hF : FF s c F) : tots (sC s n c F) 3 + sm (vr s n F) 4 = tots s 3 := by
  have h : ∀ j, j < 3 → stk (sC s n c F) j 8 + vr s n F j = stk s j 8 := by
    intro j hj
    have h8 := i_lt I (show j < n.1 by omega)
    have e1 : vr s n F j = sm (F j) 8 := by
      rw [vr, if_pos (by omega)]
      have h : ∀ d, cntf (s 3 j) (s 4 j) + d ≤ 8 → sm (F j) (cntf (s 3 j) (s 4 j) + d) = sm (F j) (cntf (s 3 j) (s 4 j)) := by
        intro d
        induction d with
        | zero => intro _; rfl
        | succ d ih =>
          intro hd
          have e := hF.le j (cntf (s 3 j) (s 4 j) + d)
          have e0 := I.st0 (j := j) (i := cntf (s 3 j) (s 4 j) + d) (by omega) (by omega) fun y => by omega
          show sm (F j) (cntf (s 3 j) (s 4 j) + d) + F j (cntf (s 3 j) (s 4 j) + d) = _
          rw [ih (by omega)]
          omega
      have := h (8 - cntf (s 3 j) (s 4 j)) (by omega)
      rw [show cntf (s 3 j) (s 4 j) + (8 - cntf (s 3 j) (s 4 j)) = 8 by omega] at this
      exact this.symm
    rw [e1]
    refine sm_add fun k hk => ?_
    show ns s F (8 * j + k) + F j k = s 6 (8 * j + k)
    rw [ns_at hk]
    have := hF.le j k
    omega
  have h0 := h 0 (by decide)
  have h1 := h 1 (by decide)
  have h2 := h 2 (by decide)
  have h3 : vr s n F 3 = 0 := by rw [vr, if_neg (by omega)]
  have e4 : sm (vr s n F) 4 = vr s n F 0 + vr s n F 1 + vr s n F 2 + vr s n F 3 := by simp [sm]
  rw [tots3, tots3, e4]
  omega
/-- plates, by their contents alone -/
abbrev AB : Type := (Nat → Bool) × Nat
def insB (p : Nat) (t : AB) : AB := if t.1 p = true then t else (fun v => decide (v = p) || t.1 v, t.2 + 1)
theorem insB_y {t : AB} {p : Nat} (h : t.1 p = true) : insB p t = t := if_pos h
theorem insB_n {t : AB} {p : Nat} (h : ¬ t.1 p = true) : insB p t = (fun v => decide (v = p) || t.1 v, t.2 + 1) := if_neg h
theorem insB_has (t : AB) (p v : Nat) : (insB p t).1 v = true ↔ (v = p ∨ t.1 v = true) := by
  by_cases h : t.1 p = true
  · rw [insB_y h]
    exact ⟨Or.inr, fun y => y.elim (fun e => by rw [e]; exact h) id⟩
  · rw [insB_n h]
    show (decide (v = p) || t.1 v) = true ↔ _
    rw [Bool.or_eq_true, decide_eq_true_iff]
theorem insB_sw (t : AB) (p v : Nat) : insB p (insB v t) = insB v (insB p t) := by
  by_cases e : p = v
  · subst e; rfl
  by_cases h1 : t.1 p = true
  · have h1' : (insB v t).1 p = true := (insB_has t v p).2 (Or.inr h1)
    rw [insB_y h1, insB_y h1']
  · by_cases h2 : t.1 v = true
    · have h2' : (insB p t).1 v = true := (insB_has t p v).2 (Or.inr h2)
      rw [insB_y h2, insB_y h2']
    · have h1' : ¬ (insB v t).1 p = true := fun y => ((insB_has t v p).1 y).elim e h1
      have h2' : ¬ (insB p t).1 v = true := fun y => ((insB_has t p v).1 y).elim (fun w => e w.symm) h2
      rw [insB_n h1', insB_n h2', insB_n h1, insB_n h2]
      refine Prod.ext (funext fun w => ?_) rfl
      show (decide (w = p) || (decide (w = v) || t.1 w)) = (decide (w = v) || (decide (w = p) || t.1 w))
      rw [← Bool.or_assoc, ← Bool.or_assoc, Bool.or_comm (decide (w = p))]
def absT (s : Sta) (T : TT) : AB := (fun v => decide (T.1 v = nI (pq v (c1 s v) (c2 s v))), T.2.2)
theorem abs_tst (s : Sta) (T : TT) (p x : Nat) : absT s (tst T p (pq p (c1 s p) (c2 s p)) x) = insB p (absT s T) := by
  by_cases h : T.1 p = nI (pq p (c1 s p) (c2 s p))
  · rw [tst_y h, insB_y (decide_eq_true h)]
  · have h' : ¬ (absT s T).1 p = true := fun y => h (of_decide_eq_true y)
    rw [tst_n h, insB_n h']
    refine Prod.ext (funext fun v => ?_) rfl
    show decide ((if v = p then nI (pq p (c1 s p) (c2 s p)) else T.1 v) = nI (pq v (c1 s v) (c2 s v))) = (decide (v = p) || decide (T.1 v = nI (pq v (c1 s v) (c2 s v))))
    by_cases e : v = p
    · subst e
      rw [if_pos rfl]
      simp
    · rw [if_neg e]
      simp [e]
def fb (s : Sta) (j : Nat) : Nat → AB → AB
  | 0, t => t
  | k + 1, t => insB (jp s j (k / 2) (k % 2)) (fb s j k t)
theorem fb_ins (s : Sta) (j p : Nat) (t : AB) : ∀ k, fb s j k (insB p t) = insB p (fb s j k t)
  | 0 => rfl
  | k + 1 => by
    show insB (jp s j (k / 2) (k % 2)) (fb s j k (insB p t)) = insB p (insB (jp s j (k / 2) (k % 2)) (fb s j k t))
    rw [fb_ins s j p t k, insB_sw]
theorem fb_has (s : Sta) (j : Nat) (t : AB) : ∀ k i, i < k → (fb s j k t).1 (jp s j (i / 2) (i % 2)) = true
  | 0, _, h => absurd h (Nat.not_lt_zero _)
  | k + 1, i, h => by
    by_cases e : i = k
    · subst e
      exact (insB_has _ _ _).2 (Or.inl rfl)
    · exact (insB_has _ _ _).2 (Or.inr (fb_has s j t k i (by omega)))
theorem abs_tk (I : Inv S ad n A s m) (hj : j < n.1) : ∀ k, k ≤ 2 * cntf (s 3 j) (s 4 j) → absT s (tk A s j k) = fb s j k (absT s (gI A 8, s 7, s 0 2))
  | 0, _ => rfl
  | k + 1, hk => by
    obtain ⟨o, e, e2⟩ := I.side hj (i := k / 2) (t := k % 2) (by omega) (by omega)
    have ih := abs_tk I hj k (by omega)
    show absT s (tst (tk A s j k) (jp s j (k / 2) (k % 2)) (jk s j (k / 2) (k % 2)) (jm s j (k / 2) (k % 2))) = insB (jp s j (k / 2) (k % 2)) (fb s j k (absT s (gI A 8, s 7, s 0 2)))
    rw [e, abs_tst, ih]
theorem abs_T2 (I : Inv S ad n A s m) (hj : j < n.1) (hi : i < cntf (s 3 j) (s 4 j)) : absT s (T2 A s j i) = insB (jp s j i 1) (insB (jp s j i 0) (absT s (gI A 8, s 7, s 0 2))) := by
  obtain ⟨o0, e0, -⟩ := I.side hj hi (t := 0) (by decide)
  obtain ⟨o1, e1, -⟩ := I.side hj hi (t := 1) (by decide)
  unfold T2
  rw [e1, abs_tst, e0, abs_tst]
/-- a print takes from the plates needed what it makes -/
theorem ndd_print (I : Inv S ad n A s m) (hj : j < n.1) (hi : i < cntf (s 3 j) (s 4 j)) (I' : Inv S' ad n A' (sPr s j i c mn (T2 A s j i)) (m + 1)) (e8 : gI A' 8 = (T2 A s j i).1) : ndd A' (sPr s j i c mn (T2 A s j i)) j + ((T2 A s j i).2.2 - s 0 2) = ndd A s j := by
  obtain ⟨-, t1, t2⟩ := T2_ok I hj hi
  have h1 := abs_tk I hj (2 * cntf (s 3 j) (s 4 j)) (Nat.le_refl _)
  have h2 := abs_tk I' hj (2 * cntf (s 3 j) (s 4 j)) (Nat.le_refl _)
  have r1 := tk_rng A s j (2 * cntf (s 3 j) (s 4 j))
  have r2 := tk_rng A' (sPr s j i c mn (T2 A s j i)) j (2 * cntf (s 3 j) (s 4 j))
  have ef : ∀ k t, fb (sPr s j i c mn (T2 A s j i)) j k t = fb s j k t := by
    intro k t
    induction k with
    | zero => rfl
    | succ k ih =>
      show insB (jp s j (k / 2) (k % 2)) (fb (sPr s j i c mn (T2 A s j i)) j k t) = insB (jp s j (k / 2) (k % 2)) (fb s j k t)
      rw [ih]
  have e0 : absT (sPr s j i c mn (T2 A s j i)) (gI A' 8, sPr s j i c mn (T2 A s j i) 7, sPr s j i c mn (T2 A s j i) 0 2) = absT s (T2 A s j i) := by
    rw [e8]
    rfl
  rw [ef, e0, abs_T2 I hj hi, fb_ins, fb_ins] at h2
  have g0 := fb_has s j (absT s (gI A 8, s 7, s 0 2)) (2 * cntf (s 3 j) (s 4 j)) (2 * i) (by omega)
  have g1 := fb_has s j (absT s (gI A 8, s 7, s 0 2)) (2 * cntf (s 3 j) (s 4 j)) (2 * i + 1) (by omega)
  rw [show 2 * i / 2 = i by omega, show 2 * i % 2 = 0 by omega] at g0
  rw [show (2 * i + 1) / 2 = i by omega, show (2 * i + 1) % 2 = 1 by omega] at g1
  rw [insB_y g0, insB_y g1, ← h1] at h2
  have e := congrArg Prod.snd h2
  have e : (tk A' (sPr s j i c mn (T2 A s j i)) j (2 * cntf (s 3 j) (s 4 j))).2.2 = (tk A s j (2 * cntf (s 3 j) (s 4 j))).2.2 := e
  have ec : cntf (sPr s j i c mn (T2 A s j i) 3 j) (sPr s j i c mn (T2 A s j i) 4 j) = cntf (s 3 j) (s 4 j) := rfl
  have e2 : sPr s j i c mn (T2 A s j i) 0 2 = (T2 A s j i).2.2 := rfl
  rw [e2] at r2
  show (tk A' (sPr s j i c mn (T2 A s j i)) j (2 * cntf (sPr s j i c mn (T2 A s j i) 3 j) (sPr s j i c mn (T2 A s j i) 4 j))).2.2 - sPr s j i c mn (T2 A s j i) 0 2 + ((T2 A s j i).2.2 - s 0 2) = (tk A s j (2 * cntf (s 3 j) (s 4 j))).2.2 - s 0 2
  rw [ec, e2, e]
  omega
end
