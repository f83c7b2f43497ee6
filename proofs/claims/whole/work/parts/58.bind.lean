/-! ===== bind: what it leaves, the reference's side ===== -/
section
variable {S S1 S' : Mem} {ad ad' : Nat → Nat} {A B A' A1 : AM} {n : Nat × Nat} {s : Sta} {m : Nat} {K P : Mem → Prop} {post : Int32 → Mem → Prop} {J : Int32 → Mem → Prop} {p q r : Int32} {j i c l b np : Nat} {pg st : Nat → Nat} {f : Nat → Nat}
theorem sm_z {f : Nat → Nat} : ∀ {N : Nat}, sm f N = 0 → ∀ k, k < N → f k = 0
  | 0, _, k, hk => absurd hk (by omega)
  | N + 1, h, k, hk => by
    have h' : sm f N + f N = 0 := h
    by_cases y : k = N
    · subst y; omega
    · exact sm_z (N := N) (by omega) k (by omega)
theorem sm_0 {f : Nat → Nat} : ∀ {N : Nat}, (∀ k, k < N → f k = 0) → sm f N = 0
  | 0, _ => rfl
  | N + 1, h => by
    show sm f N + f N = 0
    rw [sm_0 (N := N) fun k hk => h k (by omega), h N (by omega)]
/-- a lot more -/
def sB (s : Sta) (n : Nat × Nat) (j c : Nat) : Sta := fun t k =>
  if t = 6 then (if k / 8 = j ∧ k % 8 < cntf (s 3 j) (s 4 j) then s 6 k - c else s 6 k) else if t = 8 then (if k = n.2 then j else s 8 k)
  else if t = 9 then (if k = n.2 then c else s 9 k) else if t = 10 then (if k = n.2 then s 4 j else s 10 k) else if t = 13 then (if k = n.2 then s 0 1 else s 13 k)
  else if t = 11 then (if k / 16 = n.2 then s 1 (s 5 (16 * j + k % 16)) else s 11 k) else s t k
theorem inv_bind (I : Inv S ad n A s m) (hm : m < 512) (hj : j < n.1) (hn : n.2 < 100) (w : whl (s 3 j) (s 4 j)) (hc : c ≤ 500) (k : Rel S1 ad' (n.1, n.2 + 1) A')
    (e0 : ∀ t, t ≠ 0 → t ≠ 14 → t ≠ 19 → t ≠ 25 → t ≠ 26 → t ≠ 27 → t ≠ 28 → t ≠ 40 + 3 * j + 2 → t ≠ 60 + 3 * n.2 → t ≠ 60 + 3 * n.2 + 1 → t ≠ 60 + 3 * n.2 + 2 → gI A' t = gI A t)
    (e6 : gI A' 0 6 = gI A 0 6) (e7 : gI A' 0 7 = nI (n.2 + 1)) (em : ∀ k, k ≠ 0 → k ≠ 3 → gI A' 14 k = gI A 14 k) (em3 : gI A' 14 3 = nI (n.2 + 1))
    (e19 : ∀ q, q < 32 → gI A' 19 q = nI (if q / 8 = j ∧ q % 8 < cntf (s 3 j) (s 4 j) then s 6 q - c else s 6 q)) (eu2 : ∀ k, k < 8 → gI A' (40 + 3 * j + 2) k = nI (if k < cntf (s 3 j) (s 4 j) then s 6 (8 * j + k) - c else s 6 (8 * j + k)))
    (e25 : ∀ k, gI A' 25 k = if k = n.2 then nI j else gI A 25 k) (e26 : ∀ k, gI A' 26 k = if k = n.2 then nI c else gI A 26 k) (e27 : ∀ k, gI A' 27 k = if k = n.2 then nI (s 4 j) else gI A 27 k)
    (e28 : ∀ l k, l < n.2 → k < 16 → gI A' 28 (16 * l + k) = gI A 28 (16 * l + k)) (e28n : ∀ k, k < s 4 j → gI A' 28 (16 * n.2 + k) = nI (s 1 (s 5 (16 * j + k))))
    (vl : VL A' (60 + 3 * n.2) c (s 4 j) (s 0 1) (jpg s j) (fun k => s 1 (jpg s j k))) (ej : ∀ t, t = 0 ∨ t = 14 → gJ A' t = gJ A t) : Inv S1 ad' (n.1, n.2 + 1) A' (sB s n j c) (m + 1) := by
  obtain ⟨⟨b1, b2, b3, b4, b5, b6, b7, b8⟩, b9, b10, b11, b12, b13, b14, b15, b16⟩ := I.vb
  have h4 : n.1 ≤ 4 := I.h.2.2.1
  have h16 : s 4 j ≤ 16 := b12 j (by omega)
  have E : ∀ t, (1 ≤ t ∧ t < 14) ∨ (15 ≤ t ∧ t < 19) ∨ (20 ≤ t ∧ t < 25) ∨ (29 ≤ t ∧ t < 40) → gI A' t = gI A t := fun t h => e0 t (by omega) (by omega) (by omega) (by omega) (by omega) (by omega) (by omega) (by omega) (by omega) (by omega) (by omega)
  have EL : ∀ l d, l < n.2 → d < 3 → gI A' (60 + 3 * l + d) = gI A (60 + 3 * l + d) := fun l d hl hd => e0 _ (by omega) (by omega) (by omega) (by omega) (by omega) (by omega) (by omega) (by omega) (by omega) (by omega) (by omega)
  have s8 : ∀ l, l < n.2 → sB s n j c 8 l = s 8 l := fun l hl => by
    show (if l = n.2 then j else s 8 l) = s 8 l
    exact if_neg (by omega)
  have s9 : ∀ l, l < n.2 → sB s n j c 9 l = s 9 l := fun l hl => by
    show (if l = n.2 then c else s 9 l) = s 9 l
    exact if_neg (by omega)
  have s10 : ∀ l, l < n.2 → sB s n j c 10 l = s 10 l := fun l hl => by
    show (if l = n.2 then s 4 j else s 10 l) = s 10 l
    exact if_neg (by omega)
  have s13 : ∀ l, l < n.2 → sB s n j c 13 l = s 13 l := fun l hl => by
    show (if l = n.2 then s 0 1 else s 13 l) = s 13 l
    exact if_neg (by omega)
  have s11 : ∀ l k, l < n.2 → k < 16 → sB s n j c 11 (16 * l + k) = s 11 (16 * l + k) := fun l k hl hk => by
    show (if (16 * l + k) / 16 = n.2 then s 1 (s 5 (16 * j + (16 * l + k) % 16)) else s 11 (16 * l + k)) = s 11 (16 * l + k)
    exact if_neg (by omega)
  have t8 : sB s n j c 8 n.2 = j := by
    show (if n.2 = n.2 then j else s 8 n.2) = j
    exact if_pos rfl
  have t9 : sB s n j c 9 n.2 = c := by
    show (if n.2 = n.2 then c else s 9 n.2) = c
    exact if_pos rfl
  have t10 : sB s n j c 10 n.2 = s 4 j := by
    show (if n.2 = n.2 then s 4 j else s 10 n.2) = s 4 j
    exact if_pos rfl
  have t13 : sB s n j c 13 n.2 = s 0 1 := by
    show (if n.2 = n.2 then s 0 1 else s 13 n.2) = s 0 1
    exact if_pos rfl
  have t11 : ∀ k, k < 16 → sB s n j c 11 (16 * n.2 + k) = s 1 (s 5 (16 * j + k)) := by
    intro k hk
    show (if (16 * n.2 + k) / 16 = n.2 then s 1 (s 5 (16 * j + (16 * n.2 + k) % 16)) else s 11 (16 * n.2 + k)) = _
    rw [if_pos (by omega), show (16 * n.2 + k) % 16 = k by omega]
  have hsub : ∀ q, sB s n j c 6 q ≤ s 6 q := by
    intro q
    show (if q / 8 = j ∧ q % 8 < cntf (s 3 j) (s 4 j) then s 6 q - c else s 6 q) ≤ s 6 q
    split
    · exact Nat.sub_le _ _
    · exact Nat.le_refl _
  refine ⟨k, ?_, ?_, ?_, ?_⟩
  · obtain ⟨⟨a1, a2, a3, a4, a5⟩, ⟨f1, f2, f3, f4⟩, c2', c3', c4', cj, cl'⟩ := I.vc
    refine ⟨⟨?_, ?_, e6.trans a3, e7, ?_⟩, ⟨?_, ?_, ?_, ?_⟩, ?_, ?_, ?_, fun i hi => ?_, fun l hl => ?_⟩
    · rw [E 1 (by omega)]; exact a1
    · rw [E 1 (by omega)]; exact a2
    · rw [E 7 (by omega)]; exact a5
    · rw [ej 0 (by omega)]; exact f1
    · rw [ej 0 (by omega)]; exact f2
    · rw [ej 0 (by omega)]; exact f3
    · rw [ej 0 (by omega)]; exact f4
    · rw [E 2 (by omega)]; exact c2'
    · rw [E 3 (by omega)]; exact c3'
    · rw [E 4 (by omega)]; exact c4'
    · show VJ A' (40 + 3 * i) (s 3 i) (s 4 i) (fun k => s 5 (16 * i + k)) (fun k => sB s n j c 6 (8 * i + k))
      obtain ⟨h1, h2, h3, h4', h5, h6⟩ := cj i hi
      have hi' : i < n.1 := hi
      have E1 : gI A' (40 + 3 * i) = gI A (40 + 3 * i) := e0 _ (by omega) (by omega) (by omega) (by omega) (by omega) (by omega) (by omega) (by omega) (by omega) (by omega) (by omega)
      have E2 : gI A' (40 + 3 * i + 1) = gI A (40 + 3 * i + 1) := e0 _ (by omega) (by omega) (by omega) (by omega) (by omega) (by omega) (by omega) (by omega) (by omega) (by omega) (by omega)
      refine ⟨by rw [E1]; exact h1, h2, by rw [E1]; exact h3, h4', by rw [E2]; exact h5, fun k hk => ⟨?_, Nat.le_trans (hsub _) (h6 k hk).2⟩⟩
      show gI A' (40 + 3 * i + 2) k = nI (if (8 * i + k) / 8 = j ∧ (8 * i + k) % 8 < cntf (s 3 j) (s 4 j) then s 6 (8 * i + k) - c else s 6 (8 * i + k))
      rw [show (8 * i + k) / 8 = i by omega, show (8 * i + k) % 8 = k by omega]
      by_cases y : i = j
      · subst y
        rw [eu2 k hk]
        by_cases g : k < cntf (s 3 i) (s 4 i)
        · rw [if_pos g, if_pos ⟨rfl, g⟩]
        · rw [if_neg g, if_neg (fun z => g z.2)]
      · rw [if_neg (fun z => y z.1), e0 _ (by omega) (by omega) (by omega) (by omega) (by omega) (by omega) (by omega) (by omega) (by omega) (by omega) (by omega)]
        exact (h6 k hk).1
    · show VL A' (60 + 3 * l) (sB s n j c 9 l) (sB s n j c 10 l) (sB s n j c 13 l) (fun k => s 5 (16 * sB s n j c 8 l + k)) (fun k => sB s n j c 11 (16 * l + k))
      by_cases y : l = n.2
      · subst y
        rw [t8, t9, t10, t13]
        obtain ⟨g1, g2, g3, g4, g5, g6⟩ := vl
        refine ⟨g1, g2, g3, g4, g5, fun k hk => ?_⟩
        have := g6 k hk
        have e := t11 k (by omega)
        simp only [e]
        exact this
      · have hl' : l < n.2 + 1 := hl
        have hl2 : l < n.2 := by omega
        obtain ⟨g1, g2, g3, g4, g5, g6⟩ := cl' l hl2
        have E0 := EL l 0 hl2 (by decide)
        have E1 := EL l 1 hl2 (by decide)
        have E2 := EL l 2 hl2 (by decide)
        rw [s8 l hl2, s9 l hl2, s10 l hl2, s13 l hl2]
        refine ⟨(congrFun E0 0).trans g1, (congrFun E0 1).trans g2, (congrFun E0 2).trans g3, g4, g5, fun k hk => ?_⟩
        have := g6 k hk
        have e := s11 l k hl2 (by omega)
        simp only [e]
        exact ⟨(congrFun E1 k).trans this.1, (congrFun E2 k).trans this.2.1, this.2.2⟩
  · obtain ⟨⟨a1, a2, a3, a4, a5, a6, a7, a8, a9⟩, ⟨f1, f2⟩, d1, d2, d3, d4, d5, d6, d7, d8⟩ := I.vm
    refine ⟨⟨(em 1 (by decide) (by decide)).trans a1, (em 2 (by decide) (by decide)).trans a2, em3, (em 4 (by decide) (by decide)).trans a4, (em 5 (by decide) (by decide)).trans a5, (em 6 (by decide) (by decide)).trans a6, (em 7 (by decide) (by decide)).trans a7, (em 8 (by decide) (by decide)).trans a8, (em 9 (by decide) (by decide)).trans a9⟩, ⟨?_, ?_⟩, ?_, ?_, ?_, ?_, ?_, e19, ?_, fun l hl => ?_⟩
    · rw [ej 14 (by omega)]; exact f1
    · rw [ej 14 (by omega)]; exact f2
    · rw [E 15 (by omega)]; exact d1
    · rw [E 20 (by omega)]; exact d2
    · rw [E 16 (by omega)]; exact d3
    · rw [E 17 (by omega)]; exact d4
    · rw [E 18 (by omega)]; exact d5
    · rw [E 21 (by omega)]; exact d7
    · show gI A' 25 l = nI (sB s n j c 8 l) ∧ gI A' 26 l = nI (sB s n j c 9 l) ∧ gI A' 27 l = nI (sB s n j c 10 l) ∧ ∀ k, k < sB s n j c 10 l → gI A' 28 (16 * l + k) = nI (sB s n j c 11 (16 * l + k))
      rw [e25, e26, e27]
      by_cases y : l = n.2
      · subst y
        rw [if_pos rfl, if_pos rfl, if_pos rfl, t8, t9, t10]
        exact ⟨rfl, rfl, rfl, fun k hk => by rw [t11 k (by omega)]; exact e28n k hk⟩
      · have hl' : l < n.2 + 1 := hl
        have hl2 : l < n.2 := by omega
        obtain ⟨g1, g2, g3, g4⟩ := d8 l hl2
        have h10 := I.l16 hl2
        rw [if_neg y, if_neg y, if_neg y, s8 l hl2, s9 l hl2, s10 l hl2]
        exact ⟨g1, g2, g3, fun k hk => by rw [s11 l k hl2 (by omega), e28 l k hl2 (by omega)]; exact g4 k hk⟩
  · refine ⟨⟨b1, Nat.le_succ_of_le b2, b3, Nat.le_succ_of_le b4, ?_, ?_, ?_, by omega⟩, b9, b10, b11, b12, b13, b14, fun i hi k hk => ⟨Nat.le_trans (hsub _) (b15 i hi k hk).1, fun z => ?_⟩, fun l hl => ?_⟩
    · show s 0 4 ≤ 55 * (m + 1); omega
    · show s 0 5 ≤ 320000 * (m + 1); omega
    · show s 0 6 ≤ 500 * (m + 1); omega
    · have := (b15 i hi k hk).2 z
      have := hsub (8 * i + k)
      omega
    · by_cases y : l = n.2
      · subst y
        rw [t8, t9, t10, t13]
        refine ⟨hj, Nat.le_refl _, hc, Nat.le_refl _, fun k hk => ?_⟩
        rw [t11 k (by omega)]
        exact (b9 _ (Nat.lt_of_lt_of_le (b13 j (by omega) k hk) b1)).2.2
      · have hl' : l < n.2 + 1 := hl
        have hl2 : l < n.2 := by omega
        have h10 := I.l16 hl2
        obtain ⟨g1, g2, g3, g4, g5⟩ := b16 l hl2
        rw [s8 l hl2, s9 l hl2, s10 l hl2, s13 l hl2]
        exact ⟨g1, g2, g3, g4, fun k hk => by rw [s11 l k hl2 (by omega)]; exact g5 k hk⟩
  · unfold VP
    rw [E 6 (by omega), E 8 (by omega)]
    exact I.vp
theorem mm_b149 (hl : l < 100) (hj : j < 4) (h3 : gI B 14 3 = nI l) (h17 : gI B 17 j = nI np) (hnp : np ≤ 16) (h18 : ∀ k, k < np → gI B 18 (16 * j + k) = nI (pg k) ∧ pg k < 12) (h15 : ∀ c, c < 12 → gI B 15 c = nI (st c)) (k0 : Rel S' ad n B)
    (hq : ∀ S2 A2, Rel S2 ad n (aI A2 14 3 (nI (l + 1))) → (∀ t, t ≠ 28 → gI A2 t = gI B t) → gJ A2 = gJ B → (∀ q, gI A2 28 q = if q / 16 = l ∧ q % 16 < np then nI (st (pg (q % 16))) else gI B 28 q) → post (nI l) S2) : ∃ m, wlX7_bind_149 (ad 14) (nI j) r post J m (nI 0) S' := by
  have key : ∀ m' k S2 A2, k + m' = np → Rel S2 ad n A2 → (∀ t, t ≠ 28 → gI A2 t = gI B t) → gJ A2 = gJ B → (∀ q, gI A2 28 q = if q / 16 = l ∧ q % 16 < k then nI (st (pg (q % 16))) else gI B 28 q) → wlX7_bind_149 (ad 14) (nI j) r post J (m' + 1) (nI k) S2 := by
    intro m'
    induction m' with
    | zero =>
      intro k S2 A2 hk k2 Mo MJ' M28
      have e : k = np := by omega
      subst e
      obtain ⟨f17, v17⟩ := rd k2 (t := 17) (k := j) (by decide) (show j < 4 by omega)
      rw [Mo 17 (by decide), h17] at v17
      refine ⟨k2.k l14, ad 17, k2.r l14 rfl, k2.k (t := 17) LM, f17, ?_⟩
      rw [v17]
      refine ⟨fun _ => ?_, fun z => absurd ((nI_leI (by omega) (by omega)).2 (Nat.le_refl _)) z⟩
      intro x48 e48
      rw [k2.i l14, Mo 14 (by decide), h3, nI_add] at e48
      subst e48
      rintro S49 rfl
      have k3 := k2.sI l14 3 (nI (l + 1))
      rw [k3.i l14, gI_aI, pk_sub (by omega), Nat.add_sub_cancel]
      exact hq _ A2 k3 Mo MJ' M28
    | succ m' ih =>
      intro k S2 A2 hk k2 Mo MJ' M28
      obtain ⟨f17, v17⟩ := rd k2 (t := 17) (k := j) (by decide) (show j < 4 by omega)
      rw [Mo 17 (by decide), h17] at v17
      obtain ⟨e18, hpg⟩ := h18 k (by omega)
      obtain ⟨f18, v18⟩ := rd k2 (t := 18) (k := 16 * j + k) (by decide) (show 16 * j + k < 64 by omega)
      rw [Mo 18 (by decide), e18] at v18
      obtain ⟨f15, v15⟩ := rd k2 (t := 15) (k := pg k) (by decide) (show pg k < 12 from hpg)
      rw [Mo 15 (by decide), h15 _ hpg] at v15
      obtain ⟨f28, -⟩ := rd k2 (t := 28) (k := 16 * l + k) (by decide) (show 16 * l + k < 1600 by omega)
      have e3 : mI S2 (ad 14) 3 = nI l := by rw [k2.i l14, Mo 14 (by decide), h3]
      refine ⟨k2.k l14, ad 17, k2.r l14 rfl, k2.k (t := 17) LM, f17, ?_⟩
      rw [v17]
      refine ⟨fun z => ?_, fun _ => ⟨ad 28, k2.r l14 rfl, ad 15, k2.r l14 rfl, ad 18, k2.r l14 rfl, k2.k (t := 18) LM, ?_⟩⟩
      · rw [nI_leI (by omega) (by omega)] at z; omega
      · rw [pk_mul, nI_add]
        refine ⟨f18, k2.k (t := 15) LM, ?_⟩
        rw [v18]
        refine ⟨f15, ?_⟩
        rw [v15, e3, pk_mul, nI_add]
        rintro x57 rfl
        refine ⟨k2.k (t := 28) LM, f28, ?_⟩
        rintro S60 rfl x61 rfl
        rw [nI_clamp (by omega), nI_add]
        have k3 := k2.sI (LM (t := 28)) (16 * l + k) (nI (st (pg k)))
        refine ih (k + 1) _ _ (by omega) k3 (fun t ht => by rw [gI_aIu _ _ _ _ _ ht]; exact Mo t ht) (by rw [gJ_aI]; exact MJ') fun q => ?_
        rw [gI_if, M28]
        by_cases y : q = 16 * l + k
        · subst y
          rw [if_pos ⟨rfl, rfl⟩, if_pos (by omega), show (16 * l + k) % 16 = k by omega]
        · rw [if_neg (fun z => y z.2)]
          by_cases g : q / 16 = l ∧ q % 16 < k
          · rw [if_pos g, if_pos (by omega)]
          · rw [if_neg g, if_neg (by omega)]
  exact ⟨_, key np 0 S' B (by omega) k0 (fun _ _ => rfl) rfl fun q => (if_neg (by omega)).symm⟩
theorem mm_b82 (hl : l < 100) (v : MJ B j b np pg) (h3 : gI B 14 3 = nI l) (h15 : ∀ c, c < 12 → gI B 15 c = nI (st c)) (hf : ∀ q, q < 32 → gI B 19 q = nI (f q)) (hcl : ∀ i, i < cntf b np → c ≤ f (8 * j + i)) (h8 : cntf b np ≤ 8) (k0 : Rel S' ad n B)
    (hq : ∀ S2 A2, Rel S2 ad n A2 → (∀ t, t ≠ 14 → t ≠ 19 → t ≠ 25 → t ≠ 26 → t ≠ 27 → t ≠ 28 → gI A2 t = gI B t) → (∀ k, k ≠ 3 → gI A2 14 k = gI B 14 k) → gI A2 14 3 = nI (l + 1) → (∀ q, q < 32 → gI A2 19 q = nI (if q / 8 = j ∧ q % 8 < cntf b np then f q - c else f q)) → (∀ k, gI A2 25 k = if k = l then nI j else gI B 25 k) → (∀ k, gI A2 26 k = if k = l then nI c else gI B 26 k) → (∀ k, gI A2 27 k = if k = l then nI np else gI B 27 k) → (∀ q, gI A2 28 q = if q / 16 = l ∧ q % 16 < np then nI (st (pg (q % 16))) else gI B 28 q) → gJ A2 = gJ B → post (nI l) S2) : ∃ m, wlX7_bind_82 (ad 14) (nI j) (nI c) post m (nI 0) S' := by
  have hj := v.1
  have key : ∀ m' i S2 A2, i + m' = cntf b np → Rel S2 ad n A2 → (∀ t, t ≠ 19 → gI A2 t = gI B t) → gJ A2 = gJ B → (∀ q, q < 32 → gI A2 19 q = nI (if q / 8 = j ∧ q % 8 < i then f q - c else f q)) → wlX7_bind_82 (ad 14) (nI j) (nI c) post (m' + 1) (nI i) S2 := by
    intro m'
    induction m' with
    | zero =>
      intro i S2 A2 hi k2 Mo MJ' M19
      have e : i = cntf b np := by omega
      rw [e] at M19 ⊢
      have v2 : MJ A2 j b np pg := v.ex (Mo 16 (by decide)) (Mo 17 (by decide)) (Mo 18 (by decide))
      refine ⟨k2.k l14, mm_count k2 v2 ⟨fun _ => ⟨k2.k l14, ad 25, k2.r l14 rfl, k2.k (t := 25) LM, ?_⟩, fun z => absurd ((nI_leI (by omega) (by omega)).2 (by omega)) z⟩⟩
      have e3 : mI S2 (ad 14) 3 = nI l := by rw [k2.i l14, Mo 14 (by decide), h3]
      rw [e3]
      obtain ⟨f25, -⟩ := rd k2 (t := 25) (k := l) (by decide) (show l < 100 from hl)
      refine ⟨f25, ?_⟩
      rintro S30 rfl
      rw [nI_clamp (by omega)]
      have k3 := k2.sI (LM (t := 25)) l (nI j)
      have e33 : mI (sI S2 (ad 25) l (nI j)) (ad 14) 3 = nI l := by rw [k3.i l14, gI_aIu _ _ _ _ _ (by decide), Mo 14 (by decide), h3]
      rw [e33]
      obtain ⟨f26, -⟩ := rd k3 (t := 26) (k := l) (by decide) (show l < 100 from hl)
      refine ⟨ad 26, k3.r l14 rfl, k3.k (t := 26) LM, f26, ?_⟩
      rintro S34 rfl
      rw [nI_clamp (by omega)]
      have k4 := k3.sI (LM (t := 26)) l (nI c)
      have e34 : mI (sI (sI S2 (ad 25) l (nI j)) (ad 26) l (nI c)) (ad 14) 3 = nI l := by rw [k4.i l14, gI_aIu _ _ _ _ _ (by decide), gI_aIu _ _ _ _ _ (by decide), Mo 14 (by decide), h3]
      rw [e34]
      obtain ⟨f17, v17⟩ := rd k4 (t := 17) (k := j) (by decide) (show j < 4 by omega)
      rw [gI_aIu _ _ _ _ _ (by decide), gI_aIu _ _ _ _ _ (by decide), Mo 17 (by decide), v.2.2.2.1] at v17
      obtain ⟨f27, -⟩ := rd k4 (t := 27) (k := l) (by decide) (show l < 100 from hl)
      refine ⟨ad 27, k4.r l14 rfl, ad 17, k4.r l14 rfl, k4.k (t := 17) LM, f17, ?_⟩
      rw [v17]
      rintro x39 rfl
      refine ⟨k4.k (t := 27) LM, f27, ?_⟩
      rintro S42 rfl
      rw [nI_clamp (by omega)]
      have k5 := k4.sI (LM (t := 27)) l (nI np)
      have o : ∀ t, t ≠ 25 → t ≠ 26 → t ≠ 27 → gI (aI (aI (aI A2 25 l (nI j)) 26 l (nI c)) 27 l (nI np)) t = gI A2 t := fun t g1 g2 g3 => by rw [gI_aIu _ _ _ _ _ g3, gI_aIu _ _ _ _ _ g2, gI_aIu _ _ _ _ _ g1]
      refine mm_b149 hl hj (by rw [o 14 (by decide) (by decide) (by decide), Mo 14 (by decide)]; exact h3) (by rw [o 17 (by decide) (by decide) (by decide), Mo 17 (by decide)]; exact v.2.2.2.1) v.2.2.2.2.1 (fun k hk => by rw [o 18 (by decide) (by decide) (by decide), Mo 18 (by decide)]; exact v.2.2.2.2.2 k hk) (st := st) (fun c hc => by rw [o 15 (by decide) (by decide) (by decide), Mo 15 (by decide)]; exact h15 c hc) k5 fun S6 A6 k6 Y0 YJ Y28 => ?_
      refine hq _ _ k6 (fun t h14 h19 h25 h26 h27 h28 => ?_) (fun k hk => ?_) ?_ (fun q hq => ?_) (fun k => ?_) (fun k => ?_) (fun k => ?_) (fun q => ?_) ?_
      · rw [gI_aIu _ _ _ _ _ h14, Y0 t h28, o t h25 h26 h27, Mo t h19]
      · rw [gI_aIk _ _ _ _ _ hk, Y0 14 (by decide), o 14 (by decide) (by decide) (by decide), Mo 14 (by decide)]
      · rw [gI_aI]
      · rw [gI_aIu _ _ _ _ _ (by decide), Y0 19 (by decide), o 19 (by decide) (by decide) (by decide)]; exact M19 q hq
      · rw [gI_aIu _ _ _ _ _ (by decide), Y0 25 (by decide), gI_aIu _ _ _ _ _ (by decide), gI_aIu _ _ _ _ _ (by decide), gI_if, Mo 25 (by decide)]
        by_cases y : k = l
        · rw [if_pos ⟨rfl, y⟩, if_pos y]
        · rw [if_neg (fun z => y z.2), if_neg y]
      · rw [gI_aIu _ _ _ _ _ (by decide), Y0 26 (by decide), gI_aIu _ _ _ _ _ (by decide), gI_if, gI_aIu _ _ _ _ _ (by decide), Mo 26 (by decide)]
        by_cases y : k = l
        · rw [if_pos ⟨rfl, y⟩, if_pos y]
        · rw [if_neg (fun z => y z.2), if_neg y]
      · rw [gI_aIu _ _ _ _ _ (by decide), Y0 27 (by decide), gI_if, gI_aIu _ _ _ _ _ (by decide), gI_aIu _ _ _ _ _ (by decide), Mo 27 (by decide)]
        by_cases y : k = l
        · rw [if_pos ⟨rfl, y⟩, if_pos y]
        · rw [if_neg (fun z => y z.2), if_neg y]
      · rw [gI_aIu _ _ _ _ _ (by decide), Y28, o 28 (by decide) (by decide) (by decide), Mo 28 (by decide)]
      · rw [gJ_aI, YJ, gJ_aI, gJ_aI, gJ_aI, MJ']
    | succ m' ih =>
      intro i S2 A2 hi k2 Mo MJ' M19
      have v2 : MJ A2 j b np pg := v.ex (Mo 16 (by decide)) (Mo 17 (by decide)) (Mo 18 (by decide))
      obtain ⟨f19, v19⟩ := rd k2 (t := 19) (k := 8 * j + i) (by decide) (show 8 * j + i < 32 by omega)
      rw [M19 _ (by omega), if_neg (by omega)] at v19
      have hle := hcl i (by omega)
      refine ⟨k2.k l14, mm_count k2 v2 ⟨fun z => ?_, fun _ => ⟨k2.k l14, ad 19, k2.r l14 rfl, k2.k (t := 19) LM, ?_⟩⟩⟩
      · rw [nI_leI (by omega) (by omega)] at z; omega
      · rw [pk_mul, nI_add]
        refine ⟨f19, ?_⟩
        rw [v19, pk_sub hle]
        rintro x67 rfl
        refine ⟨f19, ?_⟩
        rintro S69 rfl x70 rfl
        rw [nI_clamp (by omega), nI_add]
        have k3 := k2.sI (LM (t := 19)) (8 * j + i) (nI (f (8 * j + i) - c))
        refine ih (i + 1) _ _ (by omega) k3 (fun t ht => by rw [gI_aIu _ _ _ _ _ ht]; exact Mo t ht) (by rw [gJ_aI]; exact MJ') fun q hq => ?_
        rw [gI_if, M19 q hq]
        by_cases y : q = 8 * j + i
        · subst y
          rw [if_pos ⟨rfl, rfl⟩, if_pos (by omega)]
        · rw [if_neg (fun z => y z.2)]
          by_cases g : q / 8 = j ∧ q % 8 < i
          · rw [if_pos g, if_pos (by omega)]
          · rw [if_neg g, if_neg (by omega)]
  exact ⟨_, key (cntf b np) 0 S' B (by omega) k0 (fun _ _ => rfl) rfl fun q hq => by rw [if_neg (by omega)]; exact hf q hq⟩
end
