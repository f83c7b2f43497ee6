/-! ===== new cells: the memory by roles while it grows ===== -/
section
variable {S : Mem} {ad : Nat → Nat} {L : Nat → Prop} {R : Nat → Nat → Option Nat} {A : AM}
def RgAt (S : Mem) (ad : Nat → Nat) (R : Nat → Nat → Option Nat) (A : AM) (t : Nat) : Prop :=
  isK S (ad t) (rk t) ∧ mN S (ad t) = rn t ∧ (∀ k, mR S (ad t) k = (R t k).map ad) ∧ mI S (ad t) = gI A t ∧ mJ S (ad t) = gJ A t ∧ mD S (ad t) = gD A t
def Rg (S : Mem) (ad : Nat → Nat) (L : Nat → Prop) (R : Nat → Nat → Option Nat) (A : AM) : Prop :=
  (∀ t, L t → RgAt S ad R A t) ∧ (∀ t u, L t → L u → ad t = ad u → t = u) ∧ ∀ t k u, L t → R t k = some u → L u
def aZ (A : AM) (t : Nat) : AM := (va_up (gI A) t (fun _ => 0), va_up (gJ A) t (fun _ => 0), va_up (gD A) t (fun _ => 0))
theorem vu_at {α : Type} (f : Nat → α) (a : Nat) (v : α) : va_up f a v a = v := by simp [va_up]
theorem Rg.n (h : Rg S ad L R A) {u q kd len : Nat} (hu : ¬ L u) (hq : q ∉ mL S) (hk : rk u = kd) (hl : rn u = len) : Rg (nA S q kd len) (va_up ad u q) (fun w => w = u ∨ L w) (va_up R u (fun _ => none)) (aZ A u) := by
  have hne : ∀ w, L w → w ≠ u := fun w hw e => hu (e ▸ hw)
  have hadq : ∀ w, L w → ad w ≠ q := fun w hw e => hq (e ▸ (h.1 w hw).1.1)
  refine ⟨fun t ht => ?_, fun t w ht hw e => ?_, fun t k w ht e => ?_⟩
  · by_cases e : t = u
    · subst e
      unfold RgAt
      rw [vu_at, vu_at]
      refine ⟨⟨?_, ?_⟩, ?_, fun k => ?_, ?_, ?_, ?_⟩
      · show q ∈ mL S ++ [q]; simp
      · show va_up (mK S) q kd q = rk t; rw [vu_at, hk]
      · show va_up (mN S) q len q = rn t; rw [vu_at, hl]
      · show va_up (mR S) q (fun _ => none) q k = _; rw [vu_at]; rfl
      · show va_up (mI S) q (fun _ => 0) q = va_up (gI A) t (fun _ => 0) t; rw [vu_at, vu_at]
      · show va_up (mJ S) q (fun _ => 0) q = va_up (gJ A) t (fun _ => 0) t; rw [vu_at, vu_at]
      · show va_up (mD S) q (fun _ => 0) q = va_up (gD A) t (fun _ => 0) t; rw [vu_at, vu_at]
    · have hL : L t := by rcases ht with w | w; exact absurd w e; exact w
      obtain ⟨⟨h1, h1'⟩, h2, h3, h4, h5, h6⟩ := h.1 t hL
      obtain ⟨s1, s2, s3, s4, s5, s6⟩ := nA_same (S := S) (kd := kd) (n := len) (hadq t hL)
      unfold RgAt
      rw [va_up_ne _ _ e, va_up_ne _ _ e]
      refine ⟨⟨?_, s1.trans h1'⟩, s5.trans h2, fun k => ?_, ?_, ?_, ?_⟩
      · show ad t ∈ mL S ++ [q]; simp [h1]
      · rw [s4, h3 k]
        cases hw : R t k with
        | none => rfl
        | some w =>
          show some (ad w) = some (va_up ad u q w)
          rw [va_up_ne _ _ (hne w (h.2.2 t k w hL hw))]
      · rw [s2, h4]; exact (va_up_ne (gI A) _ e).symm
      · rw [s3, h5]; exact (va_up_ne (gJ A) _ e).symm
      · rw [s6, h6]; exact (va_up_ne (gD A) _ e).symm
  · rcases ht with rfl | ht
    · rcases hw with rfl | hw
      · rfl
      · rw [vu_at, va_up_ne _ _ (hne w hw)] at e
        exact absurd e.symm (hadq w hw)
    · rcases hw with rfl | hw
      · rw [vu_at, va_up_ne _ _ (hne t ht)] at e
        exact absurd e (hadq t ht)
      · rw [va_up_ne _ _ (hne t ht), va_up_ne _ _ (hne w hw)] at e
        exact h.2.1 t w ht hw e
  · by_cases q : t = u
    · subst q
      rw [vu_at] at e
      exact absurd e (by simp)
    · have hL : L t := by rcases ht with w | w; exact absurd w q; exact w
      rw [va_up_ne _ _ q] at e
      exact Or.inr (h.2.2 t k w hL e)
theorem aZ_z {t : Nat} (h1 : gI A t = fun _ => 0) (h2 : gJ A t = fun _ => 0) (h3 : gD A t = fun _ => 0) : aZ A t = A := by
  have e : ∀ {α : Type} (f : Nat → α) (v : α), f t = v → va_up f t v = f := by
    intro α f v hv
    funext w
    by_cases q : w = t
    · rw [q, vu_at, hv]
    · rw [va_up_ne _ _ q]
  unfold aZ
  rw [e _ _ h1, e _ _ h2, e _ _ h3]
  rfl
theorem Rg.nz (h : Rg S ad L R A) {u q kd len : Nat} (hu : ¬ L u) (hq : q ∉ mL S) (hk : rk u = kd) (hl : rn u = len) (h1 : gI A u = fun _ => 0) (h2 : gJ A u = fun _ => 0) (h3 : gD A u = fun _ => 0) : Rg (nA S q kd len) (va_up ad u q) (fun w => w = u ∨ L w) (va_up R u (fun _ => none)) A := by
  have := h.n hu hq hk hl
  rw [aZ_z h1 h2 h3] at this
  exact this
theorem Rg.r (h : Rg S ad L R A) {t u k a b : Nat} (ht : L t) (hu : L u) (ea : ad t = a) (eb : ad u = b) : Rg (sR S a k (some b)) ad L (up2 R t k (some u)) A := by
  subst ea eb
  refine ⟨fun w hw => ?_, h.2.1, fun w j x hw e => ?_⟩
  · obtain ⟨h1, h2, h3, h4, h5, h6⟩ := h.1 w hw
    refine ⟨h1, h2, fun j => ?_, h4, h5, h6⟩
    show up2 (mR S) (ad t) k (some (ad u)) (ad w) j = (up2 R t k (some u) w j).map ad
    by_cases e : w = t
    · subst e
      rw [up2_at, up2_at]
      by_cases q : j = k
      · subst q; rw [vu_at, vu_at]; rfl
      · rw [va_up_ne _ _ q, va_up_ne _ _ q]; exact h3 j
    · rw [up2_ne e, up2_ne (fun z => e (h.2.1 _ _ hw ht z))]; exact h3 j
  · by_cases q : w = t
    · subst q
      rw [up2_at] at e
      by_cases y : j = k
      · subst y
        rw [vu_at] at e
        obtain rfl : u = x := by simpa using e
        exact hu
      · rw [va_up_ne _ _ y] at e; exact h.2.2 w j x hw e
    · rw [up2_ne q] at e; exact h.2.2 w j x hw e
theorem Rg.i (h : Rg S ad L R A) {t a : Nat} (ht : L t) (ea : ad t = a) (k : Nat) (v : Int32) : Rg (sI S a k v) ad L R (aI A t k v) := by
  subst ea
  refine ⟨fun u hu => ?_, h.2⟩
  obtain ⟨h1, h2, h3, h4, h5, h6⟩ := h.1 u hu
  refine ⟨h1, h2, h3, ?_, h5, h6⟩
  show up2 (mI S) (ad t) k v (ad u) = up2 (gI A) t k v u
  by_cases e : u = t
  · subst e; rw [up2_at, up2_at, h4]
  · rw [up2_ne e, up2_ne (fun z => e (h.2.1 _ _ hu ht z)), h4]
theorem Rg.k (h : Rg S ad L R A) {t a : Nat} (ht : L t) (ea : ad t = a) : isK S a (rk t) := by subst ea; exact (h.1 t ht).1
theorem Rg.len (h : Rg S ad L R A) {t a : Nat} (ht : L t) (ea : ad t = a) : mN S a = rn t := by subst ea; exact (h.1 t ht).2.1
theorem Rg.rf (h : Rg S ad L R A) {t k u a b : Nat} (ht : L t) (hu : R t k = some u) (ea : ad t = a) (eb : ad u = b) : mR S a k = some b := by subst ea eb; rw [(h.1 t ht).2.2.1 k, hu]; rfl
theorem Rg.vi (h : Rg S ad L R A) {t a : Nat} (ht : L t) (ea : ad t = a) (k : Nat) : mI S a k = gI A t k := by subst ea; exact congrFun (h.1 t ht).2.2.2.1 k
theorem rr_live {n : Nat × Nat} (hn : n.1 ≤ 4) {t k u : Nat} (h : rr n t k = some u) (ht : live n t) : live n u := by
  unfold rr at h
  have g : ∀ (l : List (Option Nat)), (∀ x, x ∈ l → ∀ w, x = some w → w < 21) → l.getD k none = some u → u < 21 := by
    intro l hl e
    rw [List.getD_eq_getElem?_getD] at e
    cases hx : l[k]? with
    | none => rw [hx] at e; exact absurd e (by simp)
    | some x =>
      rw [hx] at e
      exact hl x (List.mem_of_getElem? hx) u e
  unfold live at ht ⊢
  have s0 : ∀ {c : Prop} [Decidable c] {x y : Option Nat}, (if c then x else y) = some u → (c ∧ x = some u) ∨ (¬ c ∧ y = some u) := by
    intro c _ x y e
    by_cases q : c
    · rw [if_pos q] at e; exact Or.inl ⟨q, e⟩
    · rw [if_neg q] at e; exact Or.inr ⟨q, e⟩
  have s1 : ∀ {x : Nat}, some x = some u → x = u := fun e => Option.some.inj e
  rcases s0 h with ⟨c, h⟩ | ⟨c, h⟩
  · exact Or.inl (g _ (by simp) h)
  rcases s0 h with ⟨c, h⟩ | ⟨c, h⟩
  · exact Or.inl (g _ (by simp) h)
  rcases s0 h with ⟨c, h⟩ | ⟨c, h⟩
  · rcases s0 h with ⟨d, h⟩ | ⟨d, h⟩
    · have := s1 h; omega
    · exact absurd h (by simp)
  rcases s0 h with ⟨c, h⟩ | ⟨c, h⟩
  · exact Or.inl (g _ (by simp) h)
  rcases s0 h with ⟨c, h⟩ | ⟨c, h⟩
  · exact Or.inl (g _ (by simp) h)
  rcases s0 h with ⟨c, h⟩ | ⟨c, h⟩
  · rcases s0 h with ⟨d, h⟩ | ⟨d, h⟩
    · have := s1 h; omega
    · exact absurd h (by simp)
  rcases s0 h with ⟨c, h⟩ | ⟨c, h⟩
  · rcases s0 h with ⟨d, h⟩ | ⟨d, h⟩
    · have := s1 h; omega
    · exact absurd h (by simp)
  rcases s0 h with ⟨c, h⟩ | ⟨c, h⟩
  · exact absurd h (by simp)
  rcases s0 h with ⟨c, h⟩ | ⟨c, h⟩
  · rcases s0 h with ⟨d, h⟩ | ⟨d, h⟩
    · rcases s0 h with ⟨e, h⟩ | ⟨e, h⟩
      · have := s1 h; omega
      · rcases s0 h with ⟨f, h⟩ | ⟨f, h⟩
        · have := s1 h; omega
        · exact absurd h (by simp)
    · exact absurd h (by simp)
  · rcases s0 h with ⟨d, h⟩ | ⟨d, h⟩
    · rcases s0 h with ⟨e, h⟩ | ⟨e, h⟩
      · have := s1 h; omega
      · rcases s0 h with ⟨f, h⟩ | ⟨f, h⟩
        · have := s1 h; omega
        · exact absurd h (by simp)
    · exact absurd h (by simp)
theorem Rel.g {n : Nat × Nat} (h : Rel S ad n A) : Rg S ad (live n) (rr n) A := ⟨h.1, h.2.1, fun _ _ _ ht e => rr_live h.2.2.1 e ht⟩
theorem Rg.rel {n : Nat × Nat} (h : Rg S ad L R A) (hL : ∀ t, live n t → L t) (hR : ∀ t k, live n t → R t k = rr n t k) (h1 : n.1 ≤ 4) (h2 : n.2 ≤ 100) : Rel S ad n A := by
  refine ⟨fun t ht => ?_, fun t u ht hu e => h.2.1 t u (hL t ht) (hL u hu) e, h1, h2⟩
  obtain ⟨a1, a2, a3, a4⟩ := h.1 t (hL t ht)
  exact ⟨a1, a2, fun k => by rw [a3 k, hR t k ht], a4⟩
/-- cells that have no role -/
theorem rel_nw {n : Nat × Nat} (h : Rel S ad n A) {q kd len : Nat} (hq : q ∉ mL S) : Rel (nA S q kd len) ad n A := by
  refine ⟨fun t ht => ?_, h.2⟩
  obtain ⟨⟨h1, h1'⟩, h2, h3, h4, h5, h6⟩ := h.1 t ht
  have hne : ad t ≠ q := fun e => hq (e ▸ h1)
  obtain ⟨s1, s2, s3, s4, s5, s6⟩ := nA_same (S := S) (kd := kd) (n := len) hne
  exact ⟨⟨by show ad t ∈ mL S ++ [q]; simp [h1], s1.trans h1'⟩, s5.trans h2, fun k => by rw [s4]; exact h3 k, s2.trans h4, s3.trans h5, s6.trans h6⟩
theorem rel_off {n : Nat × Nat} (h : Rel S ad n A) {q k : Nat} {v : Int32} (hq : ∀ t, live n t → ad t ≠ q) : Rel (sI S q k v) ad n A := by
  refine ⟨fun t ht => ?_, h.2⟩
  obtain ⟨h1, h2, h3, h4, h5, h6⟩ := h.1 t ht
  obtain ⟨s1, s2, s3, s4, s5, s6⟩ := sI_same (S := S) (k := k) (v := v) (hq t ht)
  exact ⟨h1, h2, h3, s2.trans h4, h5, h6⟩
theorem Rg.cong {S' : Mem} (h : Rg S ad L R A) (h0 : ∀ x, x ∈ mL S → x ∈ mL S') (h1 : mK S' = mK S) (h2 : mI S' = mI S) (h3 : mJ S' = mJ S) (h4 : mR S' = mR S) (h5 : mN S' = mN S) (h6 : mD S' = mD S) : Rg S' ad L R A := by
  refine ⟨fun t ht => ?_, h.2⟩
  obtain ⟨⟨a1, a1'⟩, a2, a3, a4, a5, a6⟩ := h.1 t ht
  exact ⟨⟨h0 _ a1, by rw [h1]; exact a1'⟩, by rw [h5]; exact a2, by rw [h4]; exact a3, by rw [h2]; exact a4, by rw [h3]; exact a5, by rw [h6]; exact a6⟩
theorem nM_eq {S : Mem} {q a b c m : Nat} (f : MNf S q a b c) : mR (nM S q a b c m) = mR (sR (sR (sR (nA (nA (nA (nA S q 12 3) a 8 m) b 8 m) c 8 m) q 0 (some a)) q 1 (some b)) q 2 (some c)) := by
  obtain ⟨-, -, -, -, n1, n2, n3, -, -, -⟩ := f
  show va_up (va_up (va_up (va_up (mR S) q _) a (fun _ => none)) b (fun _ => none)) c (fun _ => none) = up2 (up2 (up2 (va_up (va_up (va_up (va_up (mR S) q (fun _ => none)) a (fun _ => none)) b (fun _ => none)) c (fun _ => none)) q 0 (some a)) q 1 (some b)) q 2 (some c)
  funext w
  by_cases e : w = q
  · subst e
    rw [va_up_ne _ _ n3, va_up_ne _ _ n2, va_up_ne _ _ n1, vu_at, up2_at, up2_at, up2_at, va_up_ne _ _ n3, va_up_ne _ _ n2, va_up_ne _ _ n1, vu_at]
    funext k
    by_cases e2 : k = 2
    · subst e2; rw [vu_at]; rfl
    rw [va_up_ne _ _ e2]
    by_cases e1 : k = 1
    · subst e1; rw [vu_at]; rfl
    rw [va_up_ne _ _ e1]
    by_cases e0 : k = 0
    · subst e0; rw [vu_at]; rfl
    rw [va_up_ne _ _ e0, if_neg e0, if_neg e1, if_neg e2]
  · rw [up2_ne e, up2_ne e, up2_ne e]
    by_cases ec : w = c
    · subst ec; rw [vu_at, vu_at]
    rw [va_up_ne _ _ ec, va_up_ne _ _ ec]
    by_cases eb : w = b
    · subst eb; rw [vu_at, vu_at]
    rw [va_up_ne _ _ eb, va_up_ne _ _ eb]
    by_cases ea : w = a
    · subst ea; rw [vu_at, vu_at]
    rw [va_up_ne _ _ ea, va_up_ne _ _ ea, va_up_ne _ _ e, va_up_ne _ _ e]
theorem Rg.m (h : Rg S ad L R A) {q a b c : Nat} (f : MNf S q a b c) (l4 : ¬ L 14) (l5 : ¬ L 15) (l6 : ¬ L 16) (l7 : ¬ L 17) (z : ∀ u, 14 ≤ u → u ≤ 17 → gI A u = (fun _ => 0) ∧ gJ A u = (fun _ => 0) ∧ gD A u = (fun _ => 0)) :
    Rg (nM S q a b c 16) (va_up (va_up (va_up (va_up ad 14 q) 15 a) 16 b) 17 c) (fun w => w = 17 ∨ (w = 16 ∨ (w = 15 ∨ (w = 14 ∨ L w)))) (up2 (up2 (up2 (va_up (va_up (va_up (va_up R 14 (fun _ => none)) 15 (fun _ => none)) 16 (fun _ => none)) 17 (fun _ => none)) 14 0 (some 15)) 14 1 (some 16)) 14 2 (some 17)) A := by
  have e := nM_eq (m := 16) f
  obtain ⟨f1, f2, f3, f4, n1, n2, n3, n4, n5, n6⟩ := f
  have k1 := h.nz (u := 14) (kd := 12) (len := 3) l4 f1 rfl rfl (z 14 (by decide) (by decide)).1 (z 14 (by decide) (by decide)).2.1 (z 14 (by decide) (by decide)).2.2
  have k2 := k1.nz (u := 15) (q := a) (kd := 8) (len := 16) (by simp [l5]) (by show a ∉ mL S ++ [q]; simp [f2, Ne.symm n1]) rfl rfl (z 15 (by decide) (by decide)).1 (z 15 (by decide) (by decide)).2.1 (z 15 (by decide) (by decide)).2.2
  have k3 := k2.nz (u := 16) (q := b) (kd := 8) (len := 16) (by simp [l6]) (by show b ∉ (mL S ++ [q]) ++ [a]; simp [f3, Ne.symm n2, Ne.symm n4]) rfl rfl (z 16 (by decide) (by decide)).1 (z 16 (by decide) (by decide)).2.1 (z 16 (by decide) (by decide)).2.2
  have k4 := k3.nz (u := 17) (q := c) (kd := 8) (len := 16) (by simp [l7]) (by show c ∉ ((mL S ++ [q]) ++ [a]) ++ [b]; simp [f4, Ne.symm n3, Ne.symm n5, Ne.symm n6]) rfl rfl (z 17 (by decide) (by decide)).1 (z 17 (by decide) (by decide)).2.1 (z 17 (by decide) (by decide)).2.2
  have e14 : va_up (va_up (va_up (va_up ad 14 q) 15 a) 16 b) 17 c 14 = q := rfl
  have e15 : va_up (va_up (va_up (va_up ad 14 q) 15 a) 16 b) 17 c 15 = a := rfl
  have e16 : va_up (va_up (va_up (va_up ad 14 q) 15 a) 16 b) 17 c 16 = b := rfl
  have e17 : va_up (va_up (va_up (va_up ad 14 q) 15 a) 16 b) 17 c 17 = c := rfl
  have k5 := k4.r (t := 14) (u := 15) (k := 0) (by simp) (by simp) e14 e15
  have k6 := k5.r (t := 14) (u := 16) (k := 1) (by simp) (by simp) e14 e16
  have k7 := k6.r (t := 14) (u := 17) (k := 2) (by simp) (by simp) e14 e17
  refine k7.cong (fun x hx => ?_) rfl rfl rfl e rfl rfl
  show x ∈ q :: (mL S ++ [a, b, c])
  have hx : x ∈ (((mL S ++ [q]) ++ [a]) ++ [b]) ++ [c] := hx
  simp only [List.mem_append, List.mem_cons, List.not_mem_nil, or_false] at hx ⊢
  rcases hx with (((hx | hx) | hx) | hx) | hx
  · exact Or.inr (Or.inl hx)
  · exact Or.inl hx
  · exact Or.inr (Or.inr (Or.inl hx))
  · exact Or.inr (Or.inr (Or.inr (Or.inl hx)))
  · exact Or.inr (Or.inr (Or.inr (Or.inr hx)))
end
