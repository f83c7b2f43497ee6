/-! ===== a new job, a new lot ===== -/
section
variable {S : Mem} {ad : Nat → Nat} {L : Nat → Prop} {R : Nat → Nat → Option Nat} {A : AM} {n : Nat × Nat}
def Rn (n : Nat × Nat) (u j : Nat) : Nat → Nat → Option Nat :=
  up2 (va_up (up2 (va_up (va_up (rr n) u (fun _ => none)) (u + 1) (fun _ => none)) u j (some (u + 1))) (u + 2) (fun _ => none)) u (j + 1) (some (u + 2))
theorem Rn_old {u j w k : Nat} (h : w ≠ u) (h1 : w ≠ u + 1) (h2 : w ≠ u + 2) : Rn n u j w k = rr n w k := by
  unfold Rn
  rw [up2_ne h, va_up_ne _ _ h2, up2_ne h, va_up_ne _ _ h1, va_up_ne _ _ h]
theorem Rn_u {u j k : Nat} : Rn n u j u k = if k = j + 1 then some (u + 2) else if k = j then some (u + 1) else none := by
  unfold Rn
  by_cases q : k = j + 1
  · subst q; rw [up2_at, vu_at, if_pos rfl]
  · rw [up2_nk q, va_up_ne _ _ (by omega), if_neg q]
    by_cases q : k = j
    · subst q; rw [up2_at, vu_at, if_pos rfl]
    · rw [up2_nk q, va_up_ne _ _ (by omega), vu_at, if_neg q]
theorem Rn_1 {u j k : Nat} : Rn n u j (u + 1) k = none := by
  unfold Rn
  rw [up2_ne (by omega), va_up_ne _ _ (by omega), up2_ne (by omega), vu_at]
theorem Rn_2 {u j k : Nat} : Rn n u j (u + 2) k = none := by
  unfold Rn
  rw [up2_ne (by omega), vu_at]
theorem rr_mid {t k : Nat} (h : 40 ≤ t) (h2 : t < 60) : rr n t k = if (t - 40) % 3 = 0 then (if k = 1 then some (t + 1) else if k = 2 then some (t + 2) else none) else none := by
  unfold rr
  rw [if_neg (by omega), if_neg (by omega), if_neg (by omega), if_neg (by omega), if_neg (by omega), if_neg (by omega), if_neg (by omega), if_neg (by omega), if_pos h2]
theorem rr_hi {t k : Nat} (h : 60 ≤ t) : rr n t k = if (t - 60) % 3 = 0 then (if k = 3 then some (t + 1) else if k = 4 then some (t + 2) else none) else none := by
  unfold rr
  rw [if_neg (by omega), if_neg (by omega), if_neg (by omega), if_neg (by omega), if_neg (by omega), if_neg (by omega), if_neg (by omega), if_neg (by omega), if_neg (by omega)]
theorem rr_5 (k : Nat) : rr n 5 k = if k < n.1 then some (40 + 3 * k) else none := rfl
theorem rr_13 (k : Nat) : rr n 13 k = if k < n.2 then some (60 + 3 * k) else none := rfl
theorem rr_oth {n' : Nat × Nat} {t k : Nat} (h : t ≠ 5) (h2 : t ≠ 13) : rr n t k = rr n' t k := by
  unfold rr
  rw [if_neg h, if_neg h, if_neg h2, if_neg h2]
theorem Rn_job (hn : n.1 < 4) (w k : Nat) : up2 (Rn n (40 + 3 * n.1) 1) 5 n.1 (some (40 + 3 * n.1)) w k = rr (n.1 + 1, n.2) w k := by
  by_cases q : w = 5
  · subst q
    rw [rr_5]
    by_cases y : k = n.1
    · subst y; rw [up2_at, vu_at, if_pos (by simp)]
    · rw [up2_nk y, Rn_old (by omega) (by omega) (by omega), rr_5]
      by_cases z : k < n.1
      · rw [if_pos z, if_pos (by simp; omega)]
      · rw [if_neg z, if_neg (by simp; omega)]
  · rw [up2_ne q]
    by_cases y : w = 40 + 3 * n.1
    · subst y
      rw [Rn_u, rr_mid (by omega) (by omega), if_pos (show (40 + 3 * n.1 - 40) % 3 = 0 by omega)]
      by_cases z : k = 1 + 1
      · rw [if_pos z, if_neg (show ¬ k = 1 by omega), if_pos (show k = 2 by omega)]
      · rw [if_neg z]
        by_cases x : k = 1
        · rw [if_pos x, if_pos x]
        · rw [if_neg x, if_neg x, if_neg (show ¬ k = 2 by omega)]
    by_cases y1 : w = 40 + 3 * n.1 + 1
    · subst y1; rw [Rn_1, rr_mid (by omega) (by omega), if_neg (by omega)]
    by_cases y2 : w = 40 + 3 * n.1 + 2
    · subst y2; rw [Rn_2, rr_mid (by omega) (by omega), if_neg (by omega)]
    rw [Rn_old y y1 y2]
    by_cases y13 : w = 13
    · subst y13; rw [rr_13, rr_13]
    · exact rr_oth q y13
theorem Rn_lot (hn : n.1 ≤ 4) (w k : Nat) : up2 (Rn n (60 + 3 * n.2) 3) 13 n.2 (some (60 + 3 * n.2)) w k = rr (n.1, n.2 + 1) w k := by
  by_cases q : w = 13
  · subst q
    rw [rr_13]
    by_cases y : k = n.2
    · subst y; rw [up2_at, vu_at, if_pos (by simp)]
    · rw [up2_nk y, Rn_old (by omega) (by omega) (by omega), rr_13]
      by_cases z : k < n.2
      · rw [if_pos z, if_pos (by simp; omega)]
      · rw [if_neg z, if_neg (by simp; omega)]
  · rw [up2_ne q]
    by_cases y : w = 60 + 3 * n.2
    · subst y
      rw [Rn_u, rr_hi (by omega), if_pos (show (60 + 3 * n.2 - 60) % 3 = 0 by omega)]
      by_cases z : k = 3 + 1
      · rw [if_pos z, if_neg (show ¬ k = 3 by omega), if_pos (show k = 4 by omega)]
      · rw [if_neg z]
        by_cases x : k = 3
        · rw [if_pos x, if_pos x]
        · rw [if_neg x, if_neg x, if_neg (show ¬ k = 4 by omega)]
    by_cases y1 : w = 60 + 3 * n.2 + 1
    · subst y1; rw [Rn_1, rr_hi (by omega), if_neg (by omega)]
    by_cases y2 : w = 60 + 3 * n.2 + 2
    · subst y2; rw [Rn_2, rr_hi (by omega), if_neg (by omega)]
    rw [Rn_old y y1 y2]
    by_cases y5 : w = 5
    · subst y5; rw [rr_5, rr_5]
    · exact rr_oth y5 q
theorem Rg.put (h : Rg S ad L R A) {t a j : Nat} (ht : L t) (ea : ad t = a) (hk : rk t = 8) (hj : j < rn t) {v : Int32} {post : Unit → Mem → Prop} (hp : ∀ S', Rg S' ad L R (aI A t j v) → post () S') : wpX6_put S a (nI j) v post := by
  have hK := h.k ht ea
  rw [hk] at hK
  have h2 := rn_le t
  have e : nI j < 0 ↔ (j : Int) < 0 := by rw [lt0_iff, nI_toInt (by omega)]
  have e2 : nI (rn t) ≤ nI j ↔ rn t ≤ j := nI_leI (by omega) (by omega)
  unfold wpX6_put
  refine ⟨fun c => ?_, fun _ => ⟨hK, fun c => ?_, fun _ => ⟨?_, ?_⟩⟩⟩
  · rw [e] at c; omega
  · rw [h.len ht ea, e2] at c; omega
  · rw [h.len ht ea]; exact vp_in_nI hj (by omega)
  · rintro S5 rfl
    rw [nI_clamp (by omega)]
    exact hp _ (h.i ht ea j v)
theorem gI_aZ {t v : Nat} (h : v ≠ t) : gI (aZ A t) v = gI A v := va_up_ne _ _ h
theorem gI_aZt {t : Nat} : gI (aZ A t) t = fun _ => 0 := vu_at _ _ _
theorem gJ_aZ {t v : Nat} (h : v ≠ t) : gJ (aZ A t) v = gJ A v := va_up_ne _ _ h
theorem gD_aZ {t v : Nat} (h : v ≠ t) : gD (aZ A t) v = gD A v := va_up_ne _ _ h
/-- the new job's cells -/
def AJ (A : AM) (t : Nat) (p : Int32) : AM := aZ (aZ (aI (aZ A t) t 0 p) (t + 1)) (t + 2)
theorem not_live_j {d : Nat} (hn : n.1 < 4) : ¬ live n (40 + 3 * n.1 + d) ∨ 3 ≤ d := by unfold live; omega
theorem sp_newJob (h : Rel S ad n A) (hn : n.1 < 4) (hj : gI A 0 6 = nI n.1) {p : Int32} (hc : vz_chr p) {post : Int32 → Mem → Prop} (hq : ∀ S' ad', Rel S' ad' (n.1 + 1, n.2) (aI (AJ A (40 + 3 * n.1) p) 0 6 (nI (n.1 + 1))) → (∀ w, live n w → ad' w = ad w) → post (nI n.1) S') : ∀ o7 : Nat, o7 ∉ mL S → (∀ S8 : Mem, S8 = (nA S o7 1 0) → (wpX1_init S8 o7 p (fun u10 S9 => isK S9 (ad 5) 10 ∧ (isK S9 o7 1 ∧ (vp_in (mI S (ad 0) 6) (mN S9 (ad 5)) ∧ (∀ S14 : Mem, S14 = (sR S9 (ad 5) (mI S (ad 0) 6).toNatClampNeg (some o7)) → (isK S14 (ad 0) 6 ∧ (∀ x16 : Int32, x16 = ((mI S14 (ad 0) 6) + (nI 1)) → (∀ S17 : Mem, S17 = (sI S14 (ad 0) 6 x16) → (post ((mI S17 (ad 0) 6) - (nI 1)) S17)))))))))) := by
  intro o7 ho7 S8 e8
  subst e8
  have hl0 : live n 0 := live_lt (by decide)
  have hl5 : live n 5 := live_lt (by decide)
  rw [h.i hl0, hj]
  have h2 := h.2.2.2
  have f1 : rk (40 + 3 * n.1) = 1 ∧ rn (40 + 3 * n.1) = 0 := by
    obtain ⟨a, b⟩ := n
    have : ∀ i, i < 4 → rk (40 + 3 * i) = 1 ∧ rn (40 + 3 * i) = 0 := by decide
    exact this a hn
  have f2 : rk (40 + 3 * n.1 + 1) = 8 ∧ rn (40 + 3 * n.1 + 1) = 16 := by
    obtain ⟨a, b⟩ := n
    have : ∀ i, i < 4 → rk (40 + 3 * i + 1) = 8 ∧ rn (40 + 3 * i + 1) = 16 := by decide
    exact this a hn
  have f3 : rk (40 + 3 * n.1 + 2) = 8 ∧ rn (40 + 3 * n.1 + 2) = 8 := by
    obtain ⟨a, b⟩ := n
    have : ∀ i, i < 4 → rk (40 + 3 * i + 2) = 8 ∧ rn (40 + 3 * i + 2) = 8 := by decide
    exact this a hn
  have g0 := h.g.n (u := 40 + 3 * n.1) (q := o7) (by unfold live; omega) ho7 f1.1 f1.2
  refine ⟨?_, hc, ?_⟩
  · have := g0.k (t := 40 + 3 * n.1) (Or.inl rfl) (vu_at _ _ _)
    rw [f1.1] at this; exact this
  intro S3 e3
  subst e3
  have g1 := g0.i (t := 40 + 3 * n.1) (Or.inl rfl) (vu_at _ _ _) 0 p
  intro o4 ho4 S5 e5
  subst e5
  have g2 := g1.n (u := 40 + 3 * n.1 + 1) (q := o4) (by intro w; rcases w with w | w; omega; unfold live at w; omega) ho4 f2.1 f2.2
  intro S6 e6
  subst e6
  have a1 : va_up (va_up ad (40 + 3 * n.1) o7) (40 + 3 * n.1 + 1) o4 (40 + 3 * n.1) = o7 := by rw [va_up_ne _ _ (by omega), vu_at]
  have g3 := g2.r (t := 40 + 3 * n.1) (u := 40 + 3 * n.1 + 1) (k := 1) (Or.inr (Or.inl rfl)) (Or.inl rfl) a1 (vu_at _ _ _)
  intro o7' ho7' S8' e8'
  subst e8'
  have g4 := g3.n (u := 40 + 3 * n.1 + 2) (q := o7') (by intro w; rcases w with w | w | w; omega; omega; unfold live at w; omega) ho7' f3.1 f3.2
  intro S9 e9
  subst e9
  have a2 : va_up (va_up (va_up ad (40 + 3 * n.1) o7) (40 + 3 * n.1 + 1) o4) (40 + 3 * n.1 + 2) o7' (40 + 3 * n.1) = o7 := by rw [va_up_ne _ _ (by omega), a1]
  have g5 := g4.r (t := 40 + 3 * n.1) (u := 40 + 3 * n.1 + 2) (k := 2) (Or.inr (Or.inr (Or.inl rfl))) (Or.inl rfl) a2 (vu_at _ _ _)
  have ao : ∀ w, live n w → va_up (va_up (va_up ad (40 + 3 * n.1) o7) (40 + 3 * n.1 + 1) o4) (40 + 3 * n.1 + 2) o7' w = ad w := by
    intro w hw
    unfold live at hw
    rw [va_up_ne _ _ (by omega), va_up_ne _ _ (by omega), va_up_ne _ _ (by omega)]
  have k5 : isK _ (ad 5) 10 := g5.k (t := 5) (Or.inr (Or.inr (Or.inr hl5))) (ao 5 hl5)
  refine ⟨k5, ?_, ?_, ?_⟩
  · have := g5.k (t := 40 + 3 * n.1) (Or.inr (Or.inr (Or.inl rfl))) a2
    rw [f1.1] at this; exact this
  · rw [g5.len (t := 5) (Or.inr (Or.inr (Or.inr hl5))) (ao 5 hl5)]
    exact vp_in_nI (show n.1 < 4 from hn) (by decide)
  intro S14 e14
  subst e14
  rw [nI_clamp (by omega)]
  have g6 := g5.r (t := 5) (u := 40 + 3 * n.1) (k := n.1) (Or.inr (Or.inr (Or.inr hl5))) (Or.inr (Or.inr (Or.inl rfl))) (ao 5 hl5) a2
  refine ⟨g6.k (t := 0) (Or.inr (Or.inr (Or.inr hl0))) (ao 0 hl0), ?_⟩
  intro x16 e16 S17 e17
  subst e16
  subst e17
  have v6 := g6.vi (t := 0) (Or.inr (Or.inr (Or.inr hl0))) (ao 0 hl0) 6
  have v7 : gI (AJ A (40 + 3 * n.1) p) 0 6 = nI n.1 := by
    unfold AJ
    rw [gI_aZ (by omega), gI_aZ (by omega), gI_aIu _ _ _ _ _ (by omega), gI_aZ (by omega), hj]
  have g7 := g6.i (t := 0) (Or.inr (Or.inr (Or.inr hl0))) (ao 0 hl0) 6 (nI (n.1 + 1))
  have v8 := g7.vi (t := 0) (Or.inr (Or.inr (Or.inr hl0))) (ao 0 hl0) 6
  rw [gI_aI] at v8
  have v9 := v6.trans v7
  rw [v9, nI_add, v8, pk_sub (by omega)]
  refine hq _ _ (g7.rel (fun t ht => ?_) (fun t k _ => Rn_job hn t k) (by show n.1 + 1 ≤ 4; omega) h2) ao
  unfold live at ht
  show t = 40 + 3 * n.1 + 2 ∨ t = 40 + 3 * n.1 + 1 ∨ t = 40 + 3 * n.1 ∨ live n t
  unfold live
  dsimp only at ht
  omega
end
