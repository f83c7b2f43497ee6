/-! ===== areLeast ===== -/
section
variable {S S1 S' : Mem} {ad ad' : Nat → Nat} {A A' A1 : AM} {n : Nat × Nat} {s : Sta} {m : Nat} {post : Int32 → Mem → Prop} {p q r : Int32} {j i k l c o a1 a2 : Nat}
abbrev jc (s : Sta) (j : Nat) : Nat → Nat → Nat := cm (s 0 7) (s 0 8) (fun i => jm s j i 0) (fun i => jm s j i 1)
theorem side_eq (I : Inv S ad n A s m) (hj : j < n.1) {i l t : Nat} (hi : i < cntf (s 3 j) (s 4 j)) (hl : l < cntf (s 3 j) (s 4 j)) (ht : t < 2) : nI (jk s j i t) = nI (jk s j l t) ↔ jm s j i t = jm s j l t := by
  obtain ⟨o0, k0, m0⟩ := I.side hj hi ht
  obtain ⟨o1, k1, m1⟩ := I.side hj hl ht
  have b0 := (pq_lt o0).1
  have b1 := (pq_lt o1).1
  rw [k0, k1, m0, m1, nI_eq (by omega) (by omega), pq_inj o0 o1, mq_inj o0 o1]
theorem cg_jc (I : Inv S ad n A s m) (hj : j < n.1) (vo : VO A' (cntf (s 3 j) (s 4 j)) (fun i => jk s j i 0) (fun i => jk s j i 1) (gI A 6 0) (gI A 6 1)) : ∀ i l, l < cntf (s 3 j) (s 4 j) → (i < cntf (s 3 j) (s 4 j) ∨ i = 8) → cg A' i l = jc s j i l := by
  intro i l hl hi
  obtain ⟨-, v2, v3, v4⟩ := vo
  obtain ⟨⟨h1, h2, -⟩, -⟩ := I.vp
  have h8 := i_lt I hj
  obtain ⟨o0, k0, m0⟩ := I.side hj hl (t := 0) (by decide)
  obtain ⟨o1, k1, m1⟩ := I.side hj hl (t := 1) (by decide)
  unfold cg jc cm
  rw [(v2 l hl).1, (v2 l hl).2]
  by_cases c : i = 8
  · subst c
    rw [if_pos rfl, v3, v4]
    have q0 : (if gI A 6 0 = nI (jk s j l 0) then 0 else 20) = if jm s j l 0 = s 0 7 then 0 else 20 := ite_sw (by rw [k0, m0]; exact ⟨fun z => (mtd_eq h1 o0).1.1 z.symm, fun z => ((mtd_eq h1 o0).1.2 z).symm⟩)
    have q1 : (if gI A 6 1 = nI (jk s j l 1) then 0 else 20) = if jm s j l 1 = s 0 8 then 0 else 20 := ite_sw (by rw [k1, m1]; exact ⟨fun z => (mtd_eq h2 o1).1.1 z.symm, fun z => ((mtd_eq h2 o1).1.2 z).symm⟩)
    rw [q0, q1]
  · have hi : i < cntf (s 3 j) (s 4 j) := by omega
    rw [if_neg c, (v2 i hi).1, (v2 i hi).2]
    have q0 : (if nI (jk s j i 0) = nI (jk s j l 0) then 0 else 20) = if jm s j i 0 = jm s j l 0 then 0 else 20 := ite_sw (side_eq I hj hi hl (by decide))
    have q1 : (if nI (jk s j i 1) = nI (jk s j l 1) then 0 else 20) = if jm s j i 1 = jm s j l 1 then 0 else 20 := ite_sw (side_eq I hj hi hl (by decide))
    rw [q0, q1]
theorem cnt_pos {b np : Nat} (w : whl b np) : 0 < cntf b np := by
  obtain ⟨h1, h2⟩ := w
  have := plc_pos b
  unfold cntf
  exact Nat.div_pos (Nat.le_of_dvd h1 (Nat.dvd_of_mod_eq_zero h2)) this.1
theorem pc5 : ∀ i, i < 8 → pc (2 ^ i) = 1 := by decide +kernel
/-- the first step of a way, and how much it costs at most -/
theorem pw_f {C : Nat → Nat → Nat} : ∀ {m s i v : Nat}, PW C 0 k m s i v → ∃ i0, i0 < k ∧ C 8 i0 ≤ v := by
  intro m
  induction m with
  | zero => rintro s i v ⟨h1, h2, h3⟩; exact ⟨i, h1, by omega⟩
  | succ m ih =>
    rintro s i v ⟨r, a, w, h1, h2, h3, h4, h5⟩
    obtain ⟨i0, y1, y2⟩ := ih h1
    exact ⟨i0, y1, by omega⟩
theorem pw_n {C : Nat → Nat → Nat} (hk : k < 9) (hC : ∀ i j, C i j ≤ 40) : ∀ {m s i v : Nat}, PW C 0 k m s i v → v ≤ 40 * pc s := by
  intro m
  induction m with
  | zero =>
    rintro s i v ⟨h1, rfl, h3⟩
    rw [pc5 i (by omega)]
    have := hC 8 i
    omega
  | succ m ih =>
    rintro s i v ⟨r, a, w, h1, h2, h3, rfl, h5⟩
    have h := ih h1
    have hl := PW.l hk h1
    have hb := btb k hk
    rw [pc1 r (by omega) i (by omega) h3]
    have := hC a i
    omega
theorem LA.b {C : Nat → Nat → Nat} {v : Nat} (hk : k < 9) (hC : ∀ i j, C i j ≤ 40) (h : LA C 0 k v) : v ≤ 40 * k ∧ ∃ i0, i0 < k ∧ C 8 i0 ≤ v := by
  obtain ⟨⟨m, i, hm⟩, -⟩ := h
  refine ⟨?_, pw_f hm⟩
  have := pw_n hk hC hm
  rw [pc4 k hk] at this
  exact this
theorem cm_le (f g : Nat) (fr bk : Nat → Nat) (i j : Nat) : cm f g fr bk i j ≤ 40 := by
  unfold cm
  split <;> split <;> split <;> omega
abbrev bmn (s : Sta) (j : Nat) : Nat := if s 3 j = s 0 9 then 0 else 15
theorem rds_eq (s : Sta) (j i : Nat) : rds s j i = bmn s j + jc s j 8 i := by
  show rdy _ _ _ _ _ _ = bmn s j + cm _ _ _ _ 8 i
  unfold rdy cm bmn
  rw [if_pos rfl]
  dsimp only
  omega
theorem rd_leastMakeready (I : Inv S ad n A s m) (hj : j < n.1) (h1 : whl (s 3 j) (s 4 j) → ∀ S' A' v, Inv S' ad n A' s m → LK A A' → LA (jc s j) 0 (cntf (s 3 j) (s 4 j)) v → post (nI (bmn s j + v)) S') (h0 : ¬ whl (s 3 j) (s 4 j) → post (-79) S) : wpL_leastMakeready S (ad 0) (nI j) post := by
  have hn := I.h.2.2.1
  refine ⟨I.h.k l0, I.h.k l0, sp_completeJob I.h I.cj I.vj (fun j' hj' e w => ⟨_, rfl, I.h.k l0, ?_⟩) (fun j' hj' e w => ⟨fun q => absurd q (by decide), fun _ => ?_, Or.inr rfl⟩) (fun z => absurd ((inr_nI (by omega)).2 hj) z)⟩
  · have e' := j_eq I hj hj' e
    subst e'
    refine sp_loadOrders I.h (jt hj) (I.vj j hj) (st := s 1) (fun c hc => I.vc.co hc) fun S1 A1 k1 e1 vo => ⟨k1.k l0, ad 6, k1.r l0 rfl, k1.jk (jt hj), k1.k (t := 6) LM, ?_⟩
    have x1 := RO.o e1
    rw [k1.ji (jt hj), x1.1 _ (by omega) (by omega) (by omega) (by omega), (I.vj j hj).1]
    refine sp_bindingMinutes k1 ⟨k1.k l0, ad 9, k1.r l0 rfl, k1.k (t := 9) LM, sp_leastForAllSets k1 vo.1 (by have := i_lt I hj; omega) (cnt_pos w) rfl fun S2 A2 v k2 x2 hv => ?_⟩
    have hb : bm A1 (nI (s 3 j)) = bm A (nI (s 3 j)) := by unfold bm; rw [x1.1 6 (by decide) (by decide) (by decide) (by decide)]
    rw [nI_add, hb, bm_eq I hj]
    have x12 := x1.tr (RO.e12 x2)
    exact h1 w S2 A2 v (I.ro k2 x12) (fun t g1 g2 => x12.1 t (by omega) (by omega) (by omega) (by omega)) (hv.cg (cg_jc I hj vo) (by have := i_lt I hj; omega))
  · have e' := j_eq I hj hj' e
    subst e'
    exact h0 w
theorem rd_leastByTrying (I : Inv S ad n A s m) (hj : j < n.1) (w : whl (s 3 j) (s 4 j)) (h1 : cntf (s 3 j) (s 4 j) ≤ 6 → ∀ S' A' v, Inv S' ad n A' s m → LK A A' → LA (jc s j) 0 (cntf (s 3 j) (s 4 j)) v → post (nI (bmn s j + v)) S') (h0 : ¬ cntf (s 3 j) (s 4 j) ≤ 6 → post (-76) S) : wpL_leastByTrying S (ad 0) (nI j) post := by
  have hn := I.h.2.2.1
  have h8 := i_lt I hj
  refine ⟨I.h.k l0, I.h.k l0, sp_completeJob I.h I.cj I.vj (fun j' hj' e w' => ⟨_, rfl, I.h.jk (jt hj'), sp_sheetCount I.h (jt hj') (I.vj j' hj') ?_⟩) (fun j' hj' e w' => ?_) (fun z => absurd ((inr_nI (by omega)).2 hj) z)⟩
  · have e' := j_eq I hj hj' e
    subst e'
    refine ⟨fun z => ⟨I.h.k l0, sp_loadOrders I.h (jt hj) (I.vj j hj) (st := s 1) (fun c hc => I.vc.co hc) fun S1 A1 k1 e1 vo => ⟨k1.k l0, ad 6, k1.r l0 rfl, k1.jk (jt hj), k1.k (t := 6) LM, ?_⟩⟩, fun z => ⟨fun q => absurd q (by decide), fun q => absurd q (by decide), fun _ => h0 ?_, Or.inr (Or.inr rfl)⟩⟩
    · rw [nI_leI (by omega) (by decide)] at z
      have x1 := RO.o e1
      rw [k1.ji (jt hj), x1.1 _ (by omega) (by omega) (by omega) (by omega), (I.vj j hj).1]
      refine sp_bindingMinutes k1 ⟨k1.k l0, ad 9, k1.r l0 rfl, k1.k (t := 9) LM, sp_leastOfAllOrders k1 vo.1 (by omega) (cnt_pos w) rfl fun v hv => ?_⟩
      have hb : bm A1 (nI (s 3 j)) = bm A (nI (s 3 j)) := by unfold bm; rw [x1.1 6 (by decide) (by decide) (by decide) (by decide)]
      rw [nI_add, hb, bm_eq I hj]
      exact h1 z S1 A1 v (I.ro k1 x1) (fun t g1 g2 => x1.1 t (by omega) (by omega) (by omega) (by omega)) (hv.cg (cg_jc I hj vo) (by omega))
    · intro y
      exact z ((nI_leI (by omega) (by decide)).2 y)
  · have e' := j_eq I hj hj' e
    subst e'
    exact absurd w w'
theorem ae_148 {J : Int32 → Int32 → Mem → Prop} (hJ : J (nI 1) (nI (j + 1)) S) {x : Int32} (hx : x = nI 1 &&& nI 1) {a0 : Nat} : wcL_areLeast_148 a0 a1 a2 post J x (nI j) S := by
  subst hx
  intro x17 e
  subst e
  rw [and11, nI_add]
  exact hJ
theorem ae_35 (I : Inv S ad n A s m) (hj : j < n.1) (w : whl (s 3 j) (s 4 j)) {v : Nat} (hv : LA (jc s j) 0 (cntf (s 3 j) (s 4 j)) v) {J : Int32 → Int32 → Mem → Prop} (hJ : ∀ S' A', Inv S' ad n A' s m → J (nI 1) (nI (j + 1)) S') : ∃ m', m' ≤ 9 ∧ wlL_areLeast_35 (ad 0) a1 a2 post J m' (nI 1) (nI j) (nI (bmn s j + v)) (nI (cntf (s 3 j) (s 4 j))) (nI 999) (nI 0) S := by
  have hn := I.h.2.2.1
  have h8 := i_lt I hj
  obtain ⟨v1, i0, v2, v3⟩ := hv.b (show cntf (s 3 j) (s 4 j) < 9 by omega) (fun _ _ => cm_le _ _ _ _ _ _)
  have hbm : bmn s j ≤ 15 := by unfold bmn; split <;> omega
  have v3 : jc s j 8 i0 ≤ v := v3
  have key : ∀ m' i, i + m' = cntf (s 3 j) (s 4 j) → wlL_areLeast_35 (ad 0) a1 a2 post J (m' + 1) (nI 1) (nI j) (nI (bmn s j + v)) (nI (cntf (s 3 j) (s 4 j))) (nI (mnf 999 (fun _ => true) (rds s j) i)) (nI i) S := by
    intro m'
    induction m' with
    | zero =>
      intro i hi
      have e : i = cntf (s 3 j) (s 4 j) := by omega
      subst e
      have hm := mnf_le (T := 999) (q := fun _ => true) (f := rds s j) (cntf (s 3 j) (s 4 j))
      have hm0 := hm.2 i0 v2 rfl
      rw [rds_eq] at hm0
      refine ⟨fun _ => ⟨fun _ => ⟨fun z => ?_, fun _ => ?_⟩, fun z => absurd (nI_pos' (by omega)) z⟩, fun z => absurd ((nI_leI (by omega) (by omega)).2 (Nat.le_refl _)) z⟩
      · rw [nI_ltI (by omega) (by omega)] at z
        omega
      · rw [pk_mul, nI_add]
        refine ⟨fun z => ?_, fun _ => ⟨fun z => ?_, fun _ => ⟨fun z => ?_, fun z => ?_⟩⟩⟩
        · rw [nI_ltI (by omega) (by omega)] at z
          omega
        · rw [lt0_iff, nI_toInt (by omega)] at z; omega
        · rw [nI_leI (by omega) (by omega)] at z
          refine rd_leastByTrying I hj w (fun _ S' A' v' I' _ hv' => ?_) (fun y => absurd z y)
          rw [hv'.u hv]
          exact ⟨fun y => absurd rfl y, fun _ x e => ae_148 (hJ S' A' I') e⟩
        · rw [nI_leI (by omega) (by omega)] at z
          exact rd_leastByTrying I hj w (fun y => absurd y z) fun _ => ⟨fun y => absurd rfl y, fun _ x e => ae_148 (hJ S A I) e⟩
    | succ m' ih =>
      intro i hi
      have hi' : i < cntf (s 3 j) (s 4 j) := by omega
      have hm := mnf_le (T := 999) (q := fun _ => true) (f := rds s j) i
      have h55 : rds s j i ≤ 55 := rdy_le (s 0 7) (s 0 8) (s 0 9) (jm s j i 0) (jm s j i 1) (s 3 j)
      refine ⟨fun z => ?_, fun _ => rd_makeready I ?_⟩
      · rw [nI_leI (by omega) (by omega)] at z; omega
      · rw [vRd, vJS, vJ1_v hj hn w, ix_nI (by omega), ix_nI (by omega), pif_t ((inr_nI (by omega)).2 hi')]
        intro x26 e26 x27 e27
        rw [min_nI (a := rds s j i) (by omega) (by omega)] at e26
        subst e26 e27
        rw [nI_add]
        exact ih (i + 1) (by omega)
  exact ⟨_, by omega, key (cntf (s 3 j) (s 4 j)) 0 (by omega)⟩
theorem rd_areLeast (I0 : Inv S ad n A s m) (hn3 : n.1 = 3) (hp : ∀ S', post (nI 1) S') : wpL_areLeast S (ad 0) a1 a2 post := by
  have key : ∀ m' j S' A, j + m' = 3 → Inv S' ad n A s m → wlL_areLeast_5 (ad 0) a1 a2 post (m' + 1) (nI 1) (nI j) S' := by
    intro m'
    induction m' with
    | zero =>
      intro j S' A hj I
      have e : j = 3 := by omega
      subst e
      exact ⟨fun _ => ⟨nar1, hp S'⟩, fun z => absurd ((nI_leI (by omega) (by omega)).2 (Nat.le_refl _)) z⟩
    | succ m' ih =>
      intro j S' A hj I
      have hj' : j < n.1 := by omega
      have hJ : ∀ S2 A2, Inv S2 ad n A2 s m → wlL_areLeast_5 (ad 0) a1 a2 post (m' + 1) (nI 1) (nI (j + 1)) S2 := fun S2 A2 I2 => ih (j + 1) S2 A2 (by omega) I2
      refine ⟨fun z => ?_, fun _ => rd_leastMakeready I hj' (fun w S2 A2 v I2 _ hv => rd_sheets I2 ?_) fun w => rd_sheets I ?_⟩
      · rw [nI_leI (by omega) (by omega)] at z; omega
      · rw [vSh, vJ1_v hj' (by omega) w, ix_nI (by omega)]
        exact ae_35 I2 hj' w hv hJ
      · rw [vSh, vJ1_2 hj' (by omega) w]
        exact ⟨1, by decide, fun _ => ⟨fun z => absurd z (by decide), fun _ => ⟨fun y => absurd rfl y, fun _ x e => ae_148 (hJ S' A I) e⟩⟩, fun z => absurd (by decide) z⟩
  exact ⟨4, Nat.le_refl _, key 3 0 S A rfl I0⟩
end
