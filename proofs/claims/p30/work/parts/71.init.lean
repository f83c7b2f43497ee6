/-! ===== the constructors: from the empty memory to the memory by roles (made by wip/p30/mk_init.py) ===== -/
section
def M0 : Mem := ([], fun _ => 99, fun _ _ => 0, fun _ _ => 0, fun _ _ => none, fun _ => 0, fun _ _ => 0)
def zA : AM := (fun _ _ => 0, fun _ _ => 0, fun _ _ => 0)
def zP : AM := aI (aI (aI zA 6 0 (-1)) 6 1 (-1)) 6 2 (nI 32)
theorem nu_up2 {f : Nat → Nat → Option Nat} {a j x : Nat} (hj : j < 26) (h : ∀ t k, 26 ≤ k → f t k = none) : ∀ t k, 26 ≤ k → up2 f a j (some x) t k = none := by
  intro t k hk
  by_cases q : t = a
  · subst q; rw [up2_nk (by omega)]; exact h t k hk
  · rw [up2_ne q]; exact h t k hk
theorem nu_va {f : Nat → Nat → Option Nat} {u : Nat} (h : ∀ t k, 26 ≤ k → f t k = none) : ∀ t k, 26 ≤ k → va_up f u (fun _ => none) t k = none := by
  intro t k hk
  by_cases q : t = u
  · subst q; rw [vu_at]
  · rw [va_up_ne _ _ q]; exact h t k hk
theorem rr_ok {R : Nat → Nat → Option Nat} (h1 : ∀ t, t < 21 → ∀ k, k < 26 → R t k = rr (0, 0) t k) (h2 : ∀ t k, 26 ≤ k → R t k = none) : ∀ t k, live (0, 0) t → R t k = rr (0, 0) t k := by
  intro t k ht
  have ht : t < 21 := by unfold live at ht; simp only [Nat.mul_zero, Nat.add_zero] at ht; omega
  by_cases hk : k < 26
  · exact h1 t ht k hk
  · rw [h2 t k (by omega)]
    obtain ⟨m, rfl⟩ : ∃ m, k = m + 26 := ⟨k - 26, by omega⟩
    unfold rr
    by_cases c : t = 0
    · rw [if_pos c]; rfl
    rw [if_neg c]
    by_cases c : t = 1
    · rw [if_pos c]; rfl
    rw [if_neg c]
    by_cases c : t = 5
    · rw [if_pos c, if_neg (by simp)]
    rw [if_neg c]
    by_cases c : t = 7
    · rw [if_pos c]; rfl
    rw [if_neg c]
    by_cases c : t = 9
    · rw [if_pos c]; rfl
    rw [if_neg c]
    by_cases c : t = 13
    · rw [if_pos c, if_neg (by simp)]
    rw [if_neg c]
    by_cases c : t = 14
    · rw [if_pos c, if_neg (by omega)]
    rw [if_neg c, if_pos (by omega)]
theorem m1v : (-1 : Int32) = -1 := rfl
theorem sp_rackloop {S : Mem} {ad : Nat → Nat} {L : Nat → Prop} {R : Nat → Nat → Option Nat} {A : AM} (h : Rg S ad L R A) {a o : Nat} (l7 : L 7) (l8 : L 8) (e7 : ad 7 = a) (e8 : ad 8 = o) (hr : R 7 0 = some 8) {post : Unit → Mem → Prop} (hJ : ∀ S' A', Rg S' ad L R A' → (∀ v, v ≠ 8 → gI A' v = gI A v) → gJ A' = gJ A → gD A' = gD A → (∀ k, k < 156 → gI A' 8 k = -1) → post () S') : ∃ m, wlX4_init_15 a post m (nI 0) S := by
  have key : ∀ m i S1 A1, i + m = 156 → Rg S1 ad L R A1 → (∀ v, v ≠ 8 → gI A1 v = gI A v) → gJ A1 = gJ A → gD A1 = gD A → (∀ k, k < i → gI A1 8 k = -1) → wlX4_init_15 a post (m + 1) (nI i) S1 := by
    intro m
    induction m with
    | zero =>
      intro i S1 A1 hi k1 x1 x2 x3 p1
      obtain rfl : i = 156 := by omega
      refine ⟨k1.k l7 e7, o, k1.rf l7 hr e7 e8, k1.k l8 e8, ?_⟩
      rw [k1.len l8 e8]
      exact ⟨fun _ => hJ _ _ k1 x1 x2 x3 p1, fun z => absurd (nI_le (Nat.le_refl _) (by decide)) z⟩
    | succ m ih =>
      intro i S1 A1 hi k1 x1 x2 x3 p1
      refine ⟨k1.k l7 e7, o, k1.rf l7 hr e7 e8, k1.k l8 e8, ?_⟩
      rw [k1.len l8 e8]
      refine ⟨fun z => ?_, fun _ => ⟨vp_in_nI (show i < 156 by omega) (by decide), ?_⟩⟩
      · rw [nI_leI (by decide) (by omega)] at z
        have : rn 8 = 156 := rfl
        omega
      · rintro S10 rfl x11 rfl
        rw [nI_clamp (by omega), nI_add]
        refine ih (i + 1) _ _ (by omega) (k1.i l8 e8 i (-1)) (fun v hv => (gI_aIu _ _ _ _ _ hv).trans (x1 v hv)) x2 x3 fun k hk => ?_
        by_cases q : k = i
        · subst q; rw [gI_aI]
        · rw [gI_aIk _ _ _ _ _ q]; exact p1 k (by omega)
  exact ⟨_, key 156 0 S A (by omega) h (fun _ _ => rfl) rfl rfl fun k hk => by omega⟩
def A0ok (A : AM) : Prop := (∀ v, v ≠ 6 → v ≠ 8 → gI A v = fun _ => 0) ∧ gI A 6 0 = -1 ∧ gI A 6 1 = -1 ∧ gI A 6 2 = nI 32 ∧ (∀ k, k < 156 → gI A 8 k = -1) ∧ gJ A = fun _ _ => 0
set_option maxHeartbeats 4000000 in
set_option maxRecDepth 100000 in
theorem law_init {L : Nat} {xs : Nat → Int32} {post : Int32 → Mem → Prop} (hloop : ∀ S ad A, Rel S ad (0, 0) A → A0ok A → ∃ m, m ≤ 5 ∧ wlL_law_46 L xs post m (ad 0) (ad 14) (ad 18) (ad 19) (ad 20) 0 0 (nI 1) (nI 0) (nI 0) S) : wpL_law M0 L xs post := by
  have h0 : Rg M0 (fun _ => 0) (fun _ => False) (fun _ _ => none) zA := ⟨fun _ h => h.elim, fun _ _ h => h.elim, fun _ _ _ h => h.elim⟩
  intro q0 hq0 S0 eS0
  subst eS0
  have h1 := h0.nz (u := 0) (by simp) hq0 rfl rfl rfl rfl rfl
  intro q1 hq1 S1 eS1
  subst eS1
  have h2 := h1.nz (u := 1) (by simp) hq1 rfl rfl rfl rfl rfl
  intro q2 hq2 S2 eS2
  subst eS2
  have h3 := h2.nz (u := 2) (by simp) hq2 rfl rfl rfl rfl rfl
  refine ⟨h3.k (t := 1) (by simp) rfl, ?_⟩
  intro T3 eT3
  subst eT3
  have h4 := h3.r (t := 1) (u := 2) (k := 0) (by simp) (by simp) rfl rfl
  intro q3 hq3 S3 eS3
  subst eS3
  have h5 := h4.nz (u := 3) (by simp) hq3 rfl rfl rfl rfl rfl
  intro T5 eT5
  subst eT5
  have h6 := h5.r (t := 1) (u := 3) (k := 1) (by simp) (by simp) rfl rfl
  intro q4 hq4 S4 eS4
  subst eS4
  have h7 := h6.nz (u := 4) (by simp) hq4 rfl rfl rfl rfl rfl
  intro T7 eT7
  subst eT7
  have h8 := h7.r (t := 1) (u := 4) (k := 2) (by simp) (by simp) rfl rfl
  refine ⟨h8.k (t := 0) (by simp) rfl, ?_⟩
  intro T8 eT8
  subst eT8
  have h9 := h8.r (t := 0) (u := 1) (k := 0) (by simp) (by simp) rfl rfl
  intro q5 hq5 S5 eS5
  subst eS5
  have h10 := h9.nz (u := 5) (by simp) hq5 rfl rfl rfl rfl rfl
  intro T10 eT10
  subst eT10
  have h11 := h10.r (t := 0) (u := 5) (k := 1) (by simp) (by simp) rfl rfl
  intro q6 hq6 S6 eS6
  subst eS6
  have h12 := h11.nz (u := 6) (by simp) hq6 rfl rfl rfl rfl rfl
  refine ⟨h12.k (t := 6) (by simp) rfl, ?_⟩
  intro T12 eT12
  subst eT12
  have h13 := h12.i (t := 6) (by simp) rfl 0 (-1)
  intro T13 eT13
  subst eT13
  have h14 := h13.i (t := 6) (by simp) rfl 1 (-1)
  refine ⟨by unfold vz_chr; exact ⟨rfl, rfl⟩, ?_⟩
  intro T14 eT14
  subst eT14
  have h15 := h14.i (t := 6) (by simp) rfl 2 (nI 32)
  refine ⟨h15.k (t := 0) (by simp) rfl, ?_⟩
  intro T15 eT15
  subst eT15
  have h16 := h15.r (t := 0) (u := 6) (k := 2) (by simp) (by simp) rfl rfl
  intro q7 hq7 S7 eS7
  subst eS7
  have h17 := h16.nz (u := 7) (by simp) hq7 rfl rfl rfl rfl rfl
  intro q8 hq8 S8 eS8
  subst eS8
  have h18 := h17.nz (u := 8) (by simp) hq8 rfl rfl rfl rfl rfl
  refine ⟨h18.k (t := 7) (by simp) rfl, ?_⟩
  intro T18 eT18
  subst eT18
  have h19 := h18.r (t := 7) (u := 8) (k := 0) (by simp) (by simp) rfl rfl
  refine sp_rackloop h19 (by simp) (by simp) rfl rfl rfl fun SR A h20 xI xJ xD p8 => ?_
  refine ⟨h20.k (t := 0) (by simp) rfl, ?_⟩
  intro T20 eT20
  subst eT20
  have h21 := h20.r (t := 0) (u := 7) (k := 3) (by simp) (by simp) rfl rfl
  intro q9 hq9 S9 eS9
  subst eS9
  have h22 := h21.nz (u := 9) (by simp) hq9 rfl rfl ((xI _ (by decide)).trans rfl) ((congrFun xJ _).trans rfl) ((congrFun xD _).trans rfl)
  intro q10 hq10 S10 eS10
  subst eS10
  have h23 := h22.nz (u := 10) (by simp) hq10 rfl rfl ((xI _ (by decide)).trans rfl) ((congrFun xJ _).trans rfl) ((congrFun xD _).trans rfl)
  refine ⟨h23.k (t := 9) (by simp) rfl, ?_⟩
  intro T23 eT23
  subst eT23
  have h24 := h23.r (t := 9) (u := 10) (k := 0) (by simp) (by simp) rfl rfl
  intro q11 hq11 S11 eS11
  subst eS11
  have h25 := h24.nz (u := 11) (by simp) hq11 rfl rfl ((xI _ (by decide)).trans rfl) ((congrFun xJ _).trans rfl) ((congrFun xD _).trans rfl)
  intro T25 eT25
  subst eT25
  have h26 := h25.r (t := 9) (u := 11) (k := 1) (by simp) (by simp) rfl rfl
  intro q12 hq12 S12 eS12
  subst eS12
  have h27 := h26.nz (u := 12) (by simp) hq12 rfl rfl ((xI _ (by decide)).trans rfl) ((congrFun xJ _).trans rfl) ((congrFun xD _).trans rfl)
  intro T27 eT27
  subst eT27
  have h28 := h27.r (t := 9) (u := 12) (k := 2) (by simp) (by simp) rfl rfl
  refine ⟨h28.k (t := 0) (by simp) rfl, ?_⟩
  intro T28 eT28
  subst eT28
  have h29 := h28.r (t := 0) (u := 9) (k := 4) (by simp) (by simp) rfl rfl
  intro q13 hq13 S13 eS13
  subst eS13
  have h30 := h29.nz (u := 13) (by simp) hq13 rfl rfl ((xI _ (by decide)).trans rfl) ((congrFun xJ _).trans rfl) ((congrFun xD _).trans rfl)
  intro T30 eT30
  subst eT30
  have h31 := h30.r (t := 0) (u := 13) (k := 5) (by simp) (by simp) rfl rfl
  intro o5 o6 o7 o8 fM SM eM
  subst eM
  have h32 := Rg.m h31 fM (by simp) (by simp) (by simp) (by simp) (fun u hu1 hu2 => ⟨(xI u (by omega)).trans (((gI_aIu _ _ _ _ _ (by omega)).trans ((gI_aIu _ _ _ _ _ (by omega)).trans (gI_aIu _ _ _ _ _ (by omega)))).trans rfl), (congrFun xJ u).trans rfl, (congrFun xD u).trans rfl⟩)
  intro q18 hq18 S18 eS18
  subst eS18
  have h33 := h32.nz (u := 18) (by simp) hq18 rfl rfl ((xI _ (by decide)).trans rfl) ((congrFun xJ _).trans rfl) ((congrFun xD _).trans rfl)
  intro q19 hq19 S19 eS19
  subst eS19
  have h34 := h33.nz (u := 19) (by simp) hq19 rfl rfl ((xI _ (by decide)).trans rfl) ((congrFun xJ _).trans rfl) ((congrFun xD _).trans rfl)
  intro q20 hq20 S20 eS20
  subst eS20
  have h35 := h34.nz (u := 20) (by simp) hq20 rfl rfl ((xI _ (by decide)).trans rfl) ((congrFun xJ _).trans rfl) ((congrFun xD _).trans rfl)
  refine hloop _ _ A (h35.rel (n := (0, 0)) (fun t ht => ?_) (rr_ok (by decide +kernel) ?_) (by decide) (by decide)) ?_
  · have ht : t < 21 := by unfold live at ht; simp only [Nat.mul_zero, Nat.add_zero] at ht; omega
    omega
  · repeat (first | refine nu_up2 (by decide) ?_ | refine nu_va ?_)
    exact fun _ _ _ => rfl
  · refine ⟨fun v h6 h8 => ?_, (congrFun (xI 6 (by decide)) 0).trans rfl, (congrFun (xI 6 (by decide)) 1).trans rfl, (congrFun (xI 6 (by decide)) 2).trans rfl, p8, xJ.trans rfl⟩
    rw [xI v h8, gI_aIu _ _ _ _ _ h6, gI_aIu _ _ _ _ _ h6, gI_aIu _ _ _ _ _ h6]
    rfl
end
