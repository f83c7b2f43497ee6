/-! ===== areLots ===== -/
section
variable {S S1 S' : Mem} {ad ad' : Nat → Nat} {A A' A1 : AM} {n : Nat × Nat} {s : Sta} {m mk : Nat} {post : Int32 → Mem → Prop} {p q r : Int32} {j i k l c o o3 o6 N a1 a2 : Nat} {f g : Nat → Int32}
theorem bz1 : ∀ mk, mk < 16 → ∀ c, c < 4 → nI mk ||| (nI 1 <<< (nI c &&& 31)) = nI (mk ||| 2 ^ c) ∧ (mk ||| 2 ^ c) < 16 ∧ ∀ d, d < 4 → bt (mk ||| 2 ^ c) d = (bt mk d || d == c) := by decide +kernel
theorem bz2 : ∀ mk, mk < 16 → nI mk ||| nI 0 = nI mk := by decide +kernel
theorem bz3 : ∀ d, d < 4 → bt 0 d = false := by decide +kernel
theorem al_221 (I : Inv S ad n A s m) (h00 : s 0 0 = 4) (T : TA S ad n o3 4 f) (hf : ∀ c, c < 4 → f c = nI (sm (oF n s c) n.2)) (hp : post (nI 1) S) : ∃ m', m' ≤ 5 ∧ wlL_areLots_221 (ad 0) a1 a2 post m' o3 (nI 1) (nI 0) S := by
  have hn := I.h.2.2.2
  have key : ∀ m' c, c + m' = 4 → wlL_areLots_221 (ad 0) a1 a2 post (m' + 1) o3 (nI 1) (nI c) S := by
    intro m'
    induction m' with
    | zero =>
      intro c hc
      have e : c = 4 := by omega
      subst e
      exact ⟨fun _ => ⟨nar1, hp⟩, fun z => absurd ((nI_leI (by omega) (by omega)).2 (Nat.le_refl _)) z⟩
    | succ m' ih =>
      intro c hc
      refine ⟨fun z => ?_, fun _ => rd_outdated I ⟨T.1, T.in (by omega) (by decide), ?_⟩⟩
      · rw [nI_leI (by omega) (by omega)] at z; omega
      · rw [T.at (by omega), hf c (by omega), vOd, pif_t ((inr_nI (by omega)).2 (by omega)), ix_nI (by omega), sm_zero hn fun k hk => (oF_ok n s c k).2 fun y => by omega]
        refine ⟨fun z => absurd rfl z, fun _ x14 e14 x15 e15 => ?_⟩
        subst e14 e15
        rw [and11, nI_add]
        exact ih (c + 1) (by omega)
  exact ⟨5, Nat.le_refl _, key 4 0 rfl⟩
theorem al_172 (hl : l < n.2) (hmk : mk < 16) (hb : ∀ c, c < 4 → (bt mk c = true ↔ stale s c l)) {J : Nat → Int32 → Int32 → Mem → Prop} (hJ : ∀ S' f', Inv S' ad n A s m → TA S' ad n o3 4 f' → (∀ c, c < 4 → f' c = nI (sm (oF n s c) (l + 1))) → J o3 (nI 1) (nI (l + 1)) S') (I0 : Inv S ad n A s m) (T0 : TA S ad n o3 4 f) (hf : ∀ c, c < 4 → f c = nI (sm (oF n s c) l)) : ∃ m', m' ≤ 5 ∧ wlL_areLots_172 (ad 0) a1 a2 post J m' o3 (nI 1) (nI l) (nI mk) (nI 0) S := by
  have key : ∀ m' c S' f, c + m' = 4 → Inv S' ad n A s m → TA S' ad n o3 4 f → (∀ d, d < 4 → f d = nI (sm (oF n s d) (if d < c then l + 1 else l))) → wlL_areLots_172 (ad 0) a1 a2 post J (m' + 1) o3 (nI 1) (nI l) (nI mk) (nI c) S' := by
    intro m'
    induction m' with
    | zero =>
      intro c S' f hc I T hf
      have e : c = 4 := by omega
      subst e
      refine ⟨fun _ x31 e => ?_, fun z => absurd ((nI_leI (by omega) (by omega)).2 (Nat.le_refl _)) z⟩
      subst e
      rw [nI_add]
      exact hJ S' f I T fun d hd => by rw [hf d hd, if_pos hd]
    | succ m' ih =>
      intro c S' f hc I T hf
      have e1 : sm (oF n s c) (l + 1) = sm (oF n s c) l + oF n s c l := rfl
      have nx : ∀ (v : Int32) S2, v = nI (sm (oF n s c) (l + 1)) → S2 = sI S' o3 (nI c).toNatClampNeg v → wcL_areLots_206 (ad 0) a1 a2 post (wlL_areLots_172 (ad 0) a1 a2 post J (m' + 1)) o3 (nI 1) (nI l) (nI mk) (nI c) S2 := by
        intro v S2 hv h2 x38 e38
        subst e38
        rw [nI_add]
        rw [nI_clamp (by omega)] at h2
        subst h2
        obtain ⟨k2, T2⟩ := ta_put I.h T c v
        refine ih (c + 1) _ _ (by omega) (I.ro k2 (RO.rf A)) T2 fun d hd => ?_
        by_cases e : d = c
        · subst e
          rw [vu_at, if_pos (Nat.lt_succ_self d), hv]
        · rw [va_up_ne _ _ e, hf d hd]
          by_cases y : d < c
          · rw [if_pos y, if_pos (by omega)]
          · rw [if_neg y, if_neg (by omega)]
      have fc := hf c (by omega)
      rw [if_neg (by omega)] at fc
      refine ⟨fun z => ?_, fun _ => ⟨T.1, T.in (by omega) (by decide), fun z x35 e35 => ⟨T.in (by omega) (by decide), fun S37 e37 => nx x35 S37 ?_ e37⟩, fun z => rn_copies I hl fun x41 e41 => ⟨T.1, T.in (by omega) (by decide), fun S44 e44 => nx x41 S44 ?_ e44⟩⟩⟩
      · rw [nI_leI (by omega) (by omega)] at z; omega
      · have hs : ¬ stale s c l := fun y => z ((bt3 mk (by omega) c (by omega)).2 ((hb c (by omega)).2 y))
        rw [e35, T.at (by omega), fc, nI_add, e1, (oF_ok n s c l).2 (fun y => hs y.2)]
      · have hs : stale s c l := (hb c (by omega)).1 ((bt3 mk (by omega) c (by omega)).1 z)
        rw [e41, T.at (by omega), fc, nI_add, e1, (oF_ok n s c l).1 ⟨hl, hs⟩]
  exact ⟨5, Nat.le_refl _, key 4 0 S f rfl I0 T0 fun d hd => by rw [if_neg (by omega)]; exact hf d hd⟩
/-- which contents of the first k pages of a lot are late -/
def lat (s : Sta) (l k c : Nat) : Prop := ∃ k', k' < k ∧ s 5 (16 * s 8 l + k') = c ∧ s 11 (16 * l + k') < s 1 c
theorem al_46 (h00 : s 0 0 = 4) (hn3 : n.1 = 3) (hL : LA0 A n s) (hl : l < n.2) (hf : ∀ c, c < 4 → f c = nI (sm (oF n s c) l)) {J : Nat → Int32 → Int32 → Mem → Prop} (hJ : ∀ S' f', Inv S' ad n A s m → TA S' ad n o3 4 f' → (∀ c, c < 4 → f' c = nI (sm (oF n s c) (l + 1))) → J o3 (nI 1) (nI (l + 1)) S') : ∀ m' k S' mk g, k + m' = s 10 l + 1 → 1 ≤ k → Inv S' ad n A s m → TA S' ad n o3 4 f → TA S' ad n o6 4 g → o3 ≠ o6 → mk < 16 → (∀ c, c < 4 → (bt mk c = true ↔ lat s l (k - 1) c)) → (∀ c, c < 4 → g c = -1 ∨ g c = nI (cl (s 12) c (s 13 l))) → wlL_areLots_46 (ad 0) (ad 14) (ad 20) post J (m' + 1) o3 (nI 1) (nI l) o6 (nI mk) (nI k) S' := by
  intro m'
  induction m' with
  | zero =>
    intro k S' mk g hk h1 I T3 T6 ne hmk hb hg
    have h16 := I.l16 hl
    obtain ⟨b1, b2, b3, b4, b5⟩ := lotB I hl
    have h4 : s 8 l < 4 := by omega
    refine rd_stateIn I hl h1 (by omega) (fun z => absurd z (by omega)) fun _ => ⟨fun _ => al_172 hl hmk (fun c hc => (hb c hc).trans ?_) hJ I T3 hf, fun z => absurd (by decide) z⟩
    constructor
    · rintro ⟨k', y1, y2, y3⟩
      exact ⟨k', by omega, y2, by omega⟩
    · rintro ⟨k', y1, y2, y3⟩
      refine ⟨k', by omega, y2, ?_⟩
      have e := b5 k' y1
      have e2 := (I.vb.2.1 c (by omega)).2.2
      have := cl_mono (s 12) c b4
      rw [y2] at e
      omega
  | succ m' ih =>
    intro k S' mk g hk h1 I T3 T6 ne hmk hb hg
    have hn2 := I.h.2.2.2
    have h16 := I.l16 hl
    obtain ⟨b1, b2, b3, b4, b5⟩ := lotB I hl
    have h8 : s 8 l < 3 := by omega
    obtain ⟨L1, L2, L3, L4⟩ := hL
    have hcc : s 5 (16 * s 8 l + (k - 1)) < 4 := by
      have := I.vb.2.2.2.2.2.1 _ (show s 8 l < 4 by omega) (k - 1) (by omega)
      omega
    have hst := b5 (k - 1) (by omega)
    have he2 := (I.vb.2.1 (s 5 (16 * s 8 l + (k - 1))) (by omega)).2.2
    have hle : s 11 (16 * l + (k - 1)) ≤ s 1 (s 5 (16 * s 8 l + (k - 1))) := by
      rw [hst, he2]
      exact cl_mono _ _ b4
    have h99 := I.s99 (c := s 5 (16 * s 8 l + (k - 1))) (by omega)
    obtain ⟨f1, f2⟩ := rd I.h (t := 20) (k := l) (by decide) (show l < 100 by omega)
    rw [L4 l hl] at f2
    have f3 : mR S' (ad 14) (s 8 l) = some (ad (s 8 l + 15)) := I.h.r (t := 14) LM (by show (if s 8 l < 3 then some (s 8 l + 15) else none) = _; rw [if_pos h8])
    have hrow : s 8 l = 0 ∨ s 8 l = 1 ∨ s 8 l = 2 := by omega
    have hrk : rk (s 8 l + 15) = 8 ∧ rn (s 8 l + 15) = 16 := by rcases hrow with e | e | e <;> rw [e] <;> exact ⟨rfl, rfl⟩
    obtain ⟨f4, f5⟩ := rd I.h (t := s 8 l + 15) (k := k - 1) (by omega) (by rw [hrk.2]; omega)
    have f6 := L3 (s 8 l) (k - 1) b1 (by omega)
    rw [Nat.add_comm 15 (s 8 l)] at f6
    rw [f6] at f5
    have kr := I.h.k (t := s 8 l + 15) (live_lt (by omega))
    rw [hrk.1] at kr
    generalize hcd : s 5 (16 * s 8 l + (k - 1)) = cc at hcc hst he2 hle h99 f5 f6
    generalize hsd : s 11 (16 * l + (k - 1)) = st at hst hle
    have fin : ∀ x : Int32, x = nI 1 &&& nI 1 → wcL_areLots_132 (ad 0) (ad 14) (ad 20) post (wlL_areLots_46 (ad 0) (ad 14) (ad 20) post J (m' + 1)) o3 x (nI l) o6 (nI mk) (nI k) (nI cc) (nI st) S' := by
      intro x hx
      subst hx
      rw [and11]
      refine ⟨T6.1, T6.in (by omega) (by decide), fun S68 e68 => ?_⟩
      rw [nI_clamp (by omega)] at e68
      obtain ⟨k2, T62⟩ := ta_put I.h T6 cc (nI st)
      have T32 := ta_off T3 (q := o6) (k := cc) (v := nI st) ne
      rw [← e68] at k2 T62 T32
      have I2 := I.ro k2 (RO.rf A)
      have hg2 : ∀ c, c < 4 → va_up g cc (nI st) c = -1 ∨ va_up g cc (nI st) c = nI (cl (s 12) c (s 13 l)) := by
        intro c hc
        by_cases e : c = cc
        · subst e
          rw [vu_at, hst]
          exact Or.inr rfl
        · rw [va_up_ne _ _ e]
          exact hg c hc
      have go : ∀ mk', mk' < 16 → (∀ c, c < 4 → (bt mk' c = true ↔ lat s l k c)) → wcL_areLots_163 (ad 0) (ad 14) (ad 20) post (wlL_areLots_46 (ad 0) (ad 14) (ad 20) post J (m' + 1)) o3 (nI 1) (nI l) o6 (nI mk') (nI k) S68 := by
        intro mk' h' hb' x73 e73
        subst e73
        rw [nI_add]
        exact ih (k + 1) S68 mk' _ (by omega) (by omega) I2 T32 T62 ne h' (by rw [Nat.add_sub_cancel]; exact hb') hg2
      have lat_s : ∀ c, lat s l k c ↔ lat s l (k - 1) c ∨ (cc = c ∧ st < s 1 c) := by
        intro c
        constructor
        · rintro ⟨k', y1, y2, y3⟩
          by_cases e : k' = k - 1
          · subst e
            rw [hcd] at y2
            rw [hsd] at y3
            exact Or.inr ⟨y2, y3⟩
          · exact Or.inl ⟨k', by omega, y2, y3⟩
        · rintro (⟨k', y1, y2, y3⟩ | ⟨y1, y2⟩)
          · exact ⟨k', by omega, y2, y3⟩
          · exact ⟨k - 1, by omega, hcd.trans y1, by rw [hsd]; exact y2⟩
      refine rn_state I2 (by omega) ⟨fun z x72 e72 => ?_, fun z x74 e74 => ?_⟩
      · subst e72
        rw [bz2 mk hmk]
        rw [nI_leI (by omega) (by omega)] at z
        refine go mk hmk fun c hc => (hb c hc).trans ?_
        rw [lat_s c]
        exact ⟨Or.inl, fun y => y.elim id fun w => by have := w.1; subst this; omega⟩
      · obtain ⟨z1, z2, z3⟩ := bz1 mk hmk cc hcc
        subst e74
        rw [z1]
        rw [nI_leI (by omega) (by omega)] at z
        refine go _ z2 fun c hc => ?_
        rw [z3 c hc, lat_s c, Bool.or_eq_true, hb c hc, beq_iff_eq]
        exact ⟨fun y => y.elim Or.inl fun w => Or.inr ⟨w.symm, by subst w; omega⟩, fun y => y.elim Or.inl fun w => Or.inr w.1.symm⟩
    refine rd_stateIn I hl h1 (by omega) (fun hk2 => ?_) fun z => absurd z (by omega)
    rw [hsd]
    refine ⟨fun z => ?_, fun _ => ⟨I.h.k (t := 20) LM, f1, I.h.k (t := 14) LM, ?_⟩⟩
    · rw [lt0_iff, nI_toInt (by omega)] at z; omega
    rw [f2, nI_clamp (by omega)]
    refine ⟨?_, ad (s 8 l + 15), f3, kr, ?_⟩
    · rw [I.h.len (t := 14) LM]
      exact vp_in_nI (show s 8 l < 3 from h8) (by decide)
    rw [pk_sub h1]
    refine ⟨f4, fun x53 e53 => ?_⟩
    rw [f5] at e53
    subst e53
    refine rn_stateIn I hl h1 hk2 (rn_stateByReplay I hl h1 hk2 ⟨fun z => absurd rfl z, fun _ => rn_state I (by omega) ⟨fun z => ?_, fun _ => ⟨T6.1, T6.in (by omega) (by decide), ?_⟩⟩⟩)
    · rw [hsd, nI_ltI (by omega) (by omega)] at z; omega
    · rw [hsd, T6.at (by omega)]
      refine ⟨fun _ x e => fin x e, fun z => ⟨T6.in (by omega) (by decide), fun y => absurd ?_ y, fun _ x e => fin x e⟩⟩
      rcases hg cc hcc with w | w
      · rw [w] at z; exact absurd (by decide) z
      · rw [w, hst]
theorem rd_areLots (I0 : Inv S ad n A s m) (h00 : s 0 0 = 4) (hn3 : n.1 = 3) (hL : LA0 A n s) (hp : ∀ S', Inv S' ad n A s m → post (nI 1) S') : wpL_areLots S (ad 0) (ad 14) (ad 20) post := by
  intro o3 ho S2 e2
  subst e2
  have hn2 := I0.h.2.2.2
  obtain ⟨k0, T0⟩ := ta_new (N := 4) I0.h ho
  have key : ∀ m' l S' f, l + m' = n.2 → Inv S' ad n A s m → TA S' ad n o3 4 f → (∀ c, c < 4 → f c = nI (sm (oF n s c) l)) → wlL_areLots_10 (ad 0) (ad 14) (ad 20) post (m' + 1) o3 (nI 1) (nI l) S' := by
    intro m'
    induction m' with
    | zero =>
      intro l S' f hl I T hf
      have e : l = n.2 := by omega
      subst e
      exact ⟨I.h.k l0, rd_lots I ⟨fun _ => al_221 I h00 T hf (hp S' I), fun z => absurd ((nI_leI (by omega) (by omega)).2 (Nat.le_refl _)) z⟩⟩
    | succ m' ih =>
      intro l S' f hl I T hf
      have h16 := I.l16 (l := l) (by omega)
      refine ⟨I.h.k l0, rd_lots I ⟨fun z => ?_, fun _ o6 ho6 S18 e18 => ?_⟩⟩
      · rw [nI_leI (by omega) (by omega)] at z; omega
      subst e18
      obtain ⟨k1, T1⟩ := ta_new (N := 4) I.h ho6
      obtain ⟨T3, ne⟩ := ta_nA T ho6 (M := 4)
      refine ⟨T1.in (by decide) (by decide), ?_⟩
      rintro S20 rfl
      rw [nI_clamp (by decide)]
      obtain ⟨k2, T2⟩ := ta_put k1 T1 0 (-1)
      have T32 := ta_off T3 (q := o6) (k := 0) (v := -1) ne
      refine ⟨T2.in (by decide) (by decide), ?_⟩
      rintro S22 rfl
      rw [nI_clamp (by decide)]
      obtain ⟨k3, T2⟩ := ta_put k2 T2 1 (-1)
      have T32 := ta_off T32 (q := o6) (k := 1) (v := -1) ne
      refine ⟨T2.in (by decide) (by decide), ?_⟩
      rintro S24 rfl
      rw [nI_clamp (by decide)]
      obtain ⟨k4, T2⟩ := ta_put k3 T2 2 (-1)
      have T32 := ta_off T32 (q := o6) (k := 2) (v := -1) ne
      refine ⟨T2.in (by decide) (by decide), ?_⟩
      rintro S26 rfl
      rw [nI_clamp (by decide)]
      obtain ⟨k5, T2⟩ := ta_put k4 T2 3 (-1)
      have T32 := ta_off T32 (q := o6) (k := 3) (v := -1) ne
      refine ⟨s 10 l + 1, by omega, al_46 h00 hn3 hL (show l < n.2 by omega) hf (fun S2 f2 I2 T2 h2 => ih (l + 1) S2 f2 (by omega) I2 T2 h2) (s 10 l) 1 _ 0 _ (by omega) (Nat.le_refl _) (I.ro k5 (RO.rf A)) T32 T2 ne (by decide) (fun c hc => ?_) fun c hc => Or.inl ?_⟩
      · rw [bz3 c hc]
        exact ⟨fun y => absurd y (by decide), fun ⟨k', y, _⟩ => absurd y (Nat.not_lt_zero _)⟩
      · have e : c = 0 ∨ c = 1 ∨ c = 2 ∨ c = 3 := by omega
        rcases e with rfl | rfl | rfl | rfl <;> rfl
  exact ⟨n.2 + 1, by omega, key n.2 0 _ _ (by omega) (I0.ro k0 (RO.rf A)) T0 fun c hc => rfl⟩
end
