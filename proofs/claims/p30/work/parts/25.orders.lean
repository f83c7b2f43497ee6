/-! ===== the orders' rows are loaded ===== -/
def ExO (A A' : AM) : Prop := (∀ u, u ≠ 9 → u ≠ 10 → u ≠ 11 → u ≠ 12 → gI A' u = gI A u) ∧ gJ A' = gJ A ∧ gD A' = gD A
theorem ExO.rf (A : AM) : ExO A A := ⟨fun _ _ _ _ _ => rfl, rfl, rfl⟩
theorem ExO.st {A B : AM} (h : ExO A B) {u k : Nat} {v : Int32} (hu : u = 9 ∨ u = 10 ∨ u = 11 ∨ u = 12) : ExO A (aI B u k v) :=
  ⟨fun w h1 h2 h3 h4 => by rw [gI_aIu _ _ _ _ _ (by omega)]; exact h.1 w h1 h2 h3 h4, h.2.1, h.2.2⟩
/-- the orders hold k sheets: what is in front and behind, and what is on the press -/
def VO (A : AM) (k : Nat) (f g : Nat → Nat) (F B : Int32) : Prop :=
  gI A 9 3 = nI k ∧ (∀ i, i < k → gI A 10 i = nI (f i) ∧ gI A 11 i = nI (g i)) ∧ gI A 10 8 = F ∧ gI A 11 8 = B
section
variable {S : Mem} {ad : Nat → Nat} {n : Nat × Nat} {A : AM} {t b np : Nat} {pg sk : Nat → Nat}
theorem VJ.ex {A' : AM} (v : VJ A t b np pg sk) (h0 : gI A' t = gI A t) (h1 : gI A' (t + 1) = gI A (t + 1)) (h2 : gI A' (t + 2) = gI A (t + 2)) : VJ A' t b np pg sk := by
  unfold VJ
  rw [h0, h1, h2]
  exact v
theorem VJ.exO {A' : AM} (v : VJ A t b np pg sk) (e : ExO A A') (ht : 40 ≤ t) : VJ A' t b np pg sk :=
  v.ex (e.1 _ (by omega) (by omega) (by omega) (by omega)) (e.1 _ (by omega) (by omega) (by omega) (by omega)) (e.1 _ (by omega) (by omega) (by omega) (by omega))
theorem JT.ge (h : JT n t) : 40 ≤ t := by obtain ⟨i, -, rfl⟩ := h; omega
theorem sp_loadOrders (h : Rel S ad n A) (ht : JT n t) (v : VJ A t b np pg sk) {st : Nat → Nat} (hst : ∀ c, c < 12 → gI A 2 c = nI (st c)) {post : Unit → Mem → Prop}
    (hq : ∀ S' A', Rel S' ad n A' → ExO A A' → VO A' (cntf b np) (fun i => kpl st b np pg i 0) (fun i => kpl st b np pg i 1) (gI A 6 0) (gI A 6 1) → post () S') : wpX6_loadOrders S (ad 0) (ad t) post := by
  have h8 := cnt_le v
  have hge := ht.ge
  refine ⟨h.jk ht, sp_sheetCount h ht v ⟨h.k L0, ad 9, h.r L0 rfl, ad 6, h.r L0 rfl, h.k L6, h.k L9, ?_⟩⟩
  rw [h.i L6, h.i L6]
  refine sp_start h h8 fun S1 h1 => ?_
  have key : ∀ m i S1 A1, i + m = cntf b np → Rel S1 ad n A1 → ExO A A1 → gI A1 9 3 = nI (cntf b np) → (∀ k, k < i → gI A1 10 k = nI (kpl st b np pg k 0) ∧ gI A1 11 k = nI (kpl st b np pg k 1)) → gI A1 10 8 = gI A 6 0 → gI A1 11 8 = gI A 6 1 → wlX6_loadOrders_29 (ad 0) (ad t) (nI (cntf b np)) post (m + 1) (nI i) S1 := by
    intro m
    induction m with
    | zero =>
      intro i S1 A1 hi h1 e1 e2 e3 e4 e5
      obtain rfl : i = cntf b np := by omega
      exact ⟨fun _ => hq S1 A1 h1 e1 ⟨e2, e3, e4, e5⟩, fun z => absurd (nI_le (Nat.le_refl _) (by omega)) z⟩
    | succ m ih =>
      intro i S1 A1 hi h1 e1 e2 e3 e4 e5
      have v1 := v.exO e1 hge
      have hst1 : ∀ c, c < 12 → gI A1 2 c = nI (st c) := fun c hc => by rw [e1.1 2 (by decide) (by decide) (by decide) (by decide)]; exact hst c hc
      refine ⟨fun z => ?_, fun _ => ⟨h1.k L0, ad 9, h1.r L0 rfl, sp_plateFor h1 ht v1 hst1 (by omega) (by decide) ⟨h1.k L0, sp_plateFor h1 ht v1 hst1 (by omega) (by decide) ⟨h1.k L9, sp_setSheet h1 (by omega) fun S2 h2 => ?_⟩⟩⟩⟩
      · rw [nI_leI (by omega) (by omega)] at z; omega
      · rintro x rfl
        rw [nI_add]
        refine ih (i + 1) S2 _ (by omega) h2 ((e1.st (Or.inr (Or.inl rfl))).st (Or.inr (Or.inr (Or.inl rfl)))) ?_ ?_ ?_ ?_
        · rw [gI_aIu _ _ _ _ _ (by decide), gI_aIu _ _ _ _ _ (by decide)]; exact e2
        · intro k hk
          by_cases q : k = i
          · subst q
            exact ⟨by rw [gI_aIu _ _ _ _ _ (by decide), gI_aI], gI_aI _ _ _ _⟩
          · rw [gI_aIu _ _ _ _ _ (by decide), gI_aIk _ _ _ _ _ q, gI_aIk _ _ _ _ _ q, gI_aIu _ _ _ _ _ (by decide)]
            exact e3 k (by omega)
        · rw [gI_aIu _ _ _ _ _ (by decide), gI_aIk _ _ _ _ _ (by omega)]; exact e4
        · rw [gI_aIk _ _ _ _ _ (by omega), gI_aIu _ _ _ _ _ (by decide)]; exact e5
  refine ⟨_, key (cntf b np) 0 S1 _ (by omega) h1 (((ExO.rf A).st (Or.inl rfl)).st (Or.inr (Or.inl rfl)) |>.st (Or.inr (Or.inr (Or.inl rfl)))) ?_ (fun k hk => absurd hk (by omega)) ?_ ?_⟩
  · rw [gI_aIu _ _ _ _ _ (by decide), gI_aIu _ _ _ _ _ (by decide), gI_aI]
  · rw [gI_aIu _ _ _ _ _ (by decide), gI_aI]
  · rw [gI_aI]
end
