/-! ===== the law's own arrays; its drawn numbers; its sum ===== -/
section
variable {S S1 S' : Mem} {ad ad' : Nat → Nat} {A A' A1 : AM} {n : Nat × Nat} {s : Sta} {m b np : Nat} {post : Int32 → Mem → Prop} {p q r : Int32} {j i k l c o N : Nat} {f : Nat → Int32}
/-- an array without a role -/
def TA (S : Mem) (ad : Nat → Nat) (n : Nat × Nat) (o N : Nat) (f : Nat → Int32) : Prop := isK S o 8 ∧ mN S o = N ∧ (∀ t, live n t → ad t ≠ o) ∧ mI S o = f
theorem ta_new (h : Rel S ad n A) (ho : o ∉ mL S) : Rel (nA S o 8 N) ad n A ∧ TA (nA S o 8 N) ad n o N (fun _ => 0) := by
  refine ⟨rel_nw h ho, nA_kind, ?_, fun t ht e => ho (e ▸ (h.k ht).1), ?_⟩
  · show va_up (mN S) o N o = N
    rw [vu_at]
  · show va_up (mI S) o (fun _ => 0) o = _
    rw [vu_at]
theorem ta_put (h : Rel S ad n A) (T : TA S ad n o N f) (k : Nat) (v : Int32) : Rel (sI S o k v) ad n A ∧ TA (sI S o k v) ad n o N (va_up f k v) := by
  obtain ⟨t1, t2, t3, t4⟩ := T
  refine ⟨rel_off h t3, t1, t2, t3, ?_⟩
  show up2 (mI S) o k v o = va_up f k v
  rw [up2_at, t4]
theorem ta_nA (T : TA S ad n o N f) {q M : Nat} (hq : q ∉ mL S) : TA (nA S q 8 M) ad n o N f ∧ o ≠ q := by
  obtain ⟨t1, t2, t3, t4⟩ := T
  have ne : o ≠ q := fun e => hq (e ▸ t1.1)
  obtain ⟨s1, s2, s3, s4, s5, s6⟩ := nA_same (S := S) (kd := 8) (n := M) ne
  exact ⟨⟨nA_keep t1 hq, s5.trans t2, t3, s2.trans t4⟩, ne⟩
theorem ta_off (T : TA S ad n o N f) {q k : Nat} {v : Int32} (hq : o ≠ q) : TA (sI S q k v) ad n o N f := by
  obtain ⟨t1, t2, t3, t4⟩ := T
  exact ⟨t1, t2, t3, (up2_ne hq).trans t4⟩
theorem ta_role (T : TA S ad n o N f) {t k : Nat} {v : Int32} (ht : live n t) : TA (sI S (ad t) k v) ad n o N f := ta_off T (T.2.2.1 t ht).symm
theorem TA.in (T : TA S ad n o N f) {k : Nat} (hk : k < N) (hN : N < 2147483648) : vp_in (nI k) (mN S o) := by rw [T.2.1]; exact vp_in_nI hk (by omega)
theorem TA.at (T : TA S ad n o N f) {k : Nat} (hk : k < 2147483648) : mI S o (nI k).toNatClampNeg = f k := by rw [nI_clamp (by omega), T.2.2.2]
theorem lg_same (v : Int64) : lg_cmp v v = 0 := by unfold lg_cmp; simp
theorem and11 : nI 1 &&& nI 1 = nI 1 := by decide
/-- a drawn number -/
theorem ushr1 (x : Int32) : ∃ z, z < 2147483648 ∧ (x.toUInt32 >>> ((nI 1).toUInt32 &&& Int32.toUInt32 31)).toInt32 = nI z := by
  have h := pk_ushr x (nI 1) 1 (by decide)
  refine ⟨x.toBitVec.toNat / 2 ^ 1, ?_, ?_⟩
  · have := x.toBitVec.isLt
    omega
  · apply Int32.toBitVec_inj.1
    apply BitVec.eq_of_toNat_eq
    rw [h, pk_tn]
    have := x.toBitVec.isLt
    omega
theorem rd_pick {L : Nat} {xs : Nat → Int32} (hL : L ≤ 260) (hk : k < 100000) (h0 : 0 < N) (hN : N < 100000) (hp : ∀ v, v < N → post (nI v) S) : wpL_pick S L xs (nI k) (nI N) post := by
  have e0 : ¬ nI N = 0 := nI_ne0 h0 (by omega)
  have fin : ∀ x : Int32, post ((x.toUInt32 >>> ((nI 1).toUInt32 &&& Int32.toUInt32 31)).toInt32 - (x.toUInt32 >>> ((nI 1).toUInt32 &&& Int32.toUInt32 31)).toInt32 / nI N * nI N) S := by
    intro x
    obtain ⟨z, hz, e⟩ := ushr1 x
    rw [e, pk_rem (by omega) h0 (by omega)]
    exact hp _ (Nat.mod_lt _ h0)
  refine ⟨fun _ => ⟨e0, fin _⟩, fun z => ⟨?_, e0, fin _⟩⟩
  rw [nI_leI (by omega) (by omega)] at z
  exact vp_in_nI (by omega) (by omega)
/-- the law's sum: a number of the memory -/
theorem rd_sum100 (I : Inv S ad n A s m) (j : Nat) : ∀ m' i (w : Int64), i + m' = 4 → ∃ v : Int64, ∀ (post : Int64 → Mem → Prop) (J : Int64 → Int32 → Mem → Prop), J v (nI (j + 1)) S → wlL_sum_100 (ad 0) post J (m' + 1) w (nI j) (nI i) S := by
  intro m'
  induction m' with
  | zero =>
    intro i w hi
    have e : i = 4 := by omega
    subst e
    exact ⟨w, fun post J hJ => ⟨fun _ x17 e => by subst e; rw [nI_add]; exact hJ, fun z => absurd ((nI_leI (by omega) (by omega)).2 (Nat.le_refl _)) z⟩⟩
  | succ m' ih =>
    intro i w hi
    obtain ⟨v, hv⟩ := ih (i + 1) ((((31 : Int64) * w) + (vSk n s (nI j) (nI i)).toInt64) + ((7 : Int64) * (vRd n s (nI j) (nI i)).toInt64)) (by omega)
    refine ⟨v, fun post J hJ => ⟨fun z => ?_, fun _ => rd_stock I (rd_makeready I fun x e => ?_)⟩⟩
    · rw [nI_leI (by omega) (by omega)] at z; omega
    · subst e
      rw [nI_add]
      exact hv post J hJ
theorem rd_sum68 (I : Inv S ad n A s m) : ∀ m' j (w : Int64), j + m' = 3 → ∃ v : Int64, ∀ post : Int64 → Mem → Prop, post v S → wlL_sum_68 (ad 0) post (m' + 1) w (nI j) S := by
  intro m'
  induction m' with
  | zero =>
    intro j w hj
    have e : j = 3 := by omega
    subst e
    exact ⟨w, fun post hp => ⟨fun _ => hp, fun z => absurd ((nI_leI (by omega) (by omega)).2 (Nat.le_refl _)) z⟩⟩
  | succ m' ih =>
    intro j w hj
    obtain ⟨v1, h1⟩ := rd_sum100 I j 4 0 ((((31 : Int64) * w) + (vPg n s (nI j)).toInt64) + ((7 : Int64) * (vNd A n s (nI j)).toInt64)) rfl
    obtain ⟨v2, h2⟩ := ih (j + 1) v1 (by omega)
    refine ⟨v2, fun post hp => ⟨fun z => ?_, fun _ => rd_pages I (rd_platesNeeded I ⟨5, Nat.le_refl _, h1 post _ (h2 post hp)⟩)⟩⟩
    rw [nI_leI (by omega) (by omega)] at z; omega
theorem rd_sum31 (I : Inv S ad n A s m) : ∀ m' c (w : Int64), c + m' = 4 → ∃ v : Int64, ∀ post : Int64 → Mem → Prop, post v S → wlL_sum_31 (ad 0) post (m' + 1) w (nI c) S := by
  intro m'
  induction m' with
  | zero =>
    intro c w hc
    have e : c = 4 := by omega
    subst e
    obtain ⟨v, hv⟩ := rd_sum68 I 3 0 w rfl
    exact ⟨v, fun post hp => ⟨fun _ => ⟨4, Nat.le_refl _, hv post hp⟩, fun z => absurd ((nI_leI (by omega) (by omega)).2 (Nat.le_refl _)) z⟩⟩
  | succ m' ih =>
    intro c w hc
    obtain ⟨v, hv⟩ := ih (c + 1) ((((31 : Int64) * w) + (vSt s (nI c)).toInt64) + ((17 : Int64) * (vOd n s (nI c)).toInt64)) (by omega)
    refine ⟨v, fun post hp => ⟨fun z => ?_, fun _ => rd_state I (rd_outdated I fun x e => ?_)⟩⟩
    · rw [nI_leI (by omega) (by omega)] at z; omega
    · subst e
      rw [nI_add]
      exact hv post hp
theorem rd_sum (I : Inv S ad n A s m) : ∃ v : Int64, ∀ post : Int64 → Mem → Prop, post v S → wpL_sum S (ad 0) post := by
  obtain ⟨v, hv⟩ := rd_sum31 I 4 0 ((((31 : Int64) * (nI (s 0 2)).toInt64) + ((101 : Int64) * (nI n.2).toInt64)) + ((7 : Int64) * (lN (s 0 5)))) rfl
  exact ⟨v, fun post hp => ⟨I.h.k l0, rd_plates I ⟨I.h.k l0, rd_lots I ⟨I.h.k l0, rd_waste I ⟨5, Nat.le_refl _, hv post hp⟩⟩⟩⟩⟩
end
