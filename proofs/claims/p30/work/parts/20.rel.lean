/-! ===== the memory by roles: ad gives each role its address; what stands there is said by role =====
roles: 0 desk, 1 contents, 2 states, 3 approvals, 4 corrected, 5 jobList, 6 press, 7 rack, 8 latest, 9 orders, 10 fronts, 11 backs, 12 leastEnding, 13 lotList; the law's own: 14 content, 15..17 its rows, 18 count, 19 binding, 20 lotJob; job i: 40+3i, its shown, its piles; lot i: 60+3i, its shown, its kept -/
def live (n : Nat × Nat) (t : Nat) : Prop := t < 21 ∨ (40 ≤ t ∧ t < 40 + 3 * n.1) ∨ (60 ≤ t ∧ t < 60 + 3 * n.2)
def rk (t : Nat) : Nat :=
  if t < 21 then ([6, 0, 8, 8, 8, 10, 5, 4, 8, 3, 8, 8, 8, 11, 12, 8, 8, 8, 8, 9, 8] : List Nat).getD t 0
  else if t < 60 then (if (t - 40) % 3 = 0 then 1 else 8) else (if (t - 60) % 3 = 0 then 2 else 8)
def rn (t : Nat) : Nat :=
  if t < 21 then ([0, 0, 12, 12, 1188, 4, 0, 0, 156, 0, 9, 9, 2048, 100, 3, 16, 16, 16, 3, 3, 100] : List Nat).getD t 0
  else if t < 60 then (if (t - 40) % 3 = 0 then 0 else if (t - 40) % 3 = 1 then 16 else 8) else (if (t - 60) % 3 = 0 then 0 else 16)
def rr (n : Nat × Nat) (t k : Nat) : Option Nat :=
  if t = 0 then ([some 1, some 5, some 6, some 7, some 9, some 13] : List (Option Nat)).getD k none
  else if t = 1 then ([some 2, some 3, some 4] : List (Option Nat)).getD k none
  else if t = 5 then (if k < n.1 then some (40 + 3 * k) else none)
  else if t = 7 then ([some 8] : List (Option Nat)).getD k none
  else if t = 9 then ([some 10, some 11, some 12] : List (Option Nat)).getD k none
  else if t = 13 then (if k < n.2 then some (60 + 3 * k) else none)
  else if t = 14 then (if k < 3 then some (k + 15) else none)
  else if t < 40 then none
  else if t < 60 then (if (t - 40) % 3 = 0 then (if k = 1 then some (t + 1) else if k = 2 then some (t + 2) else none) else none)
  else (if (t - 60) % 3 = 0 then (if k = 3 then some (t + 1) else if k = 4 then some (t + 2) else none) else none)
abbrev AM : Type := (Nat → Nat → Int32) × (Nat → Nat → Int64) × (Nat → Nat → UInt64)
def gI (A : AM) : Nat → Nat → Int32 := A.1
def gJ (A : AM) : Nat → Nat → Int64 := A.2.1
def gD (A : AM) : Nat → Nat → UInt64 := A.2.2
def aI (A : AM) (t k : Nat) (v : Int32) : AM := (up2 (gI A) t k v, gJ A, gD A)
def aJ (A : AM) (t k : Nat) (v : Int64) : AM := (gI A, up2 (gJ A) t k v, gD A)
def aD (A : AM) (t k : Nat) (v : UInt64) : AM := (gI A, gJ A, up2 (gD A) t k v)
/-- what stands at a role's address -/
def RelAt (S : Mem) (ad : Nat → Nat) (n : Nat × Nat) (A : AM) (t : Nat) : Prop :=
  isK S (ad t) (rk t) ∧ mN S (ad t) = rn t ∧ (∀ k, mR S (ad t) k = (rr n t k).map ad) ∧ mI S (ad t) = gI A t ∧ mJ S (ad t) = gJ A t ∧ mD S (ad t) = gD A t
def Rel (S : Mem) (ad : Nat → Nat) (n : Nat × Nat) (A : AM) : Prop :=
  (∀ t, live n t → RelAt S ad n A t) ∧ (∀ t u, live n t → live n u → ad t = ad u → t = u) ∧ n.1 ≤ 4 ∧ n.2 ≤ 100
section
variable {S : Mem} {ad : Nat → Nat} {n : Nat × Nat} {A : AM}
theorem live_lt {t : Nat} (h : t < 21) : live n t := Or.inl h
theorem live_j {i d : Nat} (hi : i < n.1) (hd : d < 3) : live n (40 + 3 * i + d) := Or.inr (Or.inl (by omega))
theorem live_l {i d : Nat} (hi : i < n.2) (hd : d < 3) : live n (60 + 3 * i + d) := Or.inr (Or.inr (by omega))
theorem Rel.k (h : Rel S ad n A) {t : Nat} (ht : live n t) : isK S (ad t) (rk t) := (h.1 t ht).1
theorem Rel.len (h : Rel S ad n A) {t : Nat} (ht : live n t) : mN S (ad t) = rn t := (h.1 t ht).2.1
theorem Rel.r (h : Rel S ad n A) {t : Nat} (ht : live n t) {k u : Nat} (hu : rr n t k = some u) : mR S (ad t) k = some (ad u) := by rw [(h.1 t ht).2.2.1 k, hu]; rfl
theorem Rel.rn (h : Rel S ad n A) {t : Nat} (ht : live n t) {k : Nat} (hu : rr n t k = none) : mR S (ad t) k = none := by rw [(h.1 t ht).2.2.1 k, hu]; rfl
theorem Rel.i (h : Rel S ad n A) {t : Nat} (ht : live n t) (k : Nat) : mI S (ad t) k = gI A t k := congrFun (h.1 t ht).2.2.2.1 k
theorem Rel.j (h : Rel S ad n A) {t : Nat} (ht : live n t) (k : Nat) : mJ S (ad t) k = gJ A t k := congrFun (h.1 t ht).2.2.2.2.1 k
theorem Rel.d (h : Rel S ad n A) {t : Nat} (ht : live n t) (k : Nat) : mD S (ad t) k = gD A t k := congrFun (h.1 t ht).2.2.2.2.2 k
theorem Rel.sI (h : Rel S ad n A) {t : Nat} (ht : live n t) (k : Nat) (v : Int32) : Rel (sI S (ad t) k v) ad n (aI A t k v) := by
  refine ⟨fun u hu => ?_, h.2⟩
  obtain ⟨h1, h2, h3, h4, h5, h6⟩ := h.1 u hu
  refine ⟨h1, h2, h3, ?_, h5, h6⟩
  show up2 (mI S) (ad t) k v (ad u) = up2 (gI A) t k v u
  by_cases e : u = t
  · subst e; rw [up2_at, up2_at, h4]
  · rw [up2_ne e, up2_ne (fun z => e (h.2.1 _ _ hu ht z)), h4]
theorem Rel.sJ (h : Rel S ad n A) {t : Nat} (ht : live n t) (k : Nat) (v : Int64) : Rel (sJ S (ad t) k v) ad n (aJ A t k v) := by
  refine ⟨fun u hu => ?_, h.2⟩
  obtain ⟨h1, h2, h3, h4, h5, h6⟩ := h.1 u hu
  refine ⟨h1, h2, h3, h4, ?_, h6⟩
  show up2 (mJ S) (ad t) k v (ad u) = up2 (gJ A) t k v u
  by_cases e : u = t
  · subst e; rw [up2_at, up2_at, h5]
  · rw [up2_ne e, up2_ne (fun z => e (h.2.1 _ _ hu ht z)), h5]
theorem Rel.sD (h : Rel S ad n A) {t : Nat} (ht : live n t) (k : Nat) (v : UInt64) : Rel (sD S (ad t) k v) ad n (aD A t k v) := by
  refine ⟨fun u hu => ?_, h.2⟩
  obtain ⟨h1, h2, h3, h4, h5, h6⟩ := h.1 u hu
  refine ⟨h1, h2, h3, h4, h5, ?_⟩
  show up2 (mD S) (ad t) k v (ad u) = up2 (gD A) t k v u
  by_cases e : u = t
  · subst e; rw [up2_at, up2_at, h6]
  · rw [up2_ne e, up2_ne (fun z => e (h.2.1 _ _ hu ht z)), h6]
end
/-! numbers -/
theorem i0 : (0 : Int32) = nI 0 := rfl
theorem cl_of {p : Int32} (h : 0 ≤ p.toInt) : p.toNatClampNeg = p.toInt.toNat := rfl
/-- an index, tested -/
def inr (p : Int32) (N : Nat) : Prop := 0 ≤ p.toInt ∧ p.toInt < N
theorem rn_le (t : Nat) : rn t ≤ 2048 := by
  unfold rn
  split
  · rename_i h
    have : ∀ t, t < 21 → ([0, 0, 12, 12, 1188, 4, 0, 0, 156, 0, 9, 9, 2048, 100, 3, 16, 16, 16, 3, 3, 100] : List Nat).getD t 0 ≤ 2048 := by decide
    exact this t h
  · split <;> split <;> first | omega | (split <;> omega)
theorem lt0_iff (p : Int32) : p < 0 ↔ p.toInt < 0 := Int32.lt_iff_toInt_lt
theorem le0_iff (p : Int32) : p ≤ 0 ↔ p.toInt ≤ 0 := Int32.le_iff_toInt_le
theorem ilt_iff (p q : Int32) : p < q ↔ p.toInt < q.toInt := Int32.lt_iff_toInt_lt
theorem ile_iff (p q : Int32) : p ≤ q ↔ p.toInt ≤ q.toInt := Int32.le_iff_toInt_le
theorem ieq_iff (p q : Int32) : p = q ↔ p.toInt = q.toInt := Int32.toInt_inj.symm
theorem inr_nI {j N : Nat} (hj : j < 2147483648) : inr (nI j) N ↔ j < N := by
  unfold inr; rw [nI_toInt hj]; omega
theorem inr_of {p : Int32} {N : Nat} (h : inr p N) : ∃ j, j < N ∧ p = nI j ∧ j < 2147483648 := by
  obtain ⟨h1, h2⟩ := h
  have h3 : p.toInt < 2147483648 := (Int32.toInt_lt p)
  refine ⟨p.toInt.toNat, by omega, ?_, by omega⟩
  rw [ieq_iff, nI_toInt (by omega)]; omega
section
variable {S : Mem} {ad : Nat → Nat} {n : Nat × Nat} {A : AM}
theorem sp_at (h : Rel S ad n A) {t : Nat} (ht : live n t) (hk : rk t = 8) {j : Nat} (hj : j < rn t) {post : Int32 → Mem → Prop} (hp : post (gI A t j) S) : wpX6_at S (ad t) (nI j) post := by
  have hK := h.k ht
  rw [hk] at hK
  have h2 := rn_le t
  have e : nI j < 0 ↔ (j : Int) < 0 := by rw [lt0_iff, nI_toInt (by omega)]
  have e2 : nI (rn t) ≤ nI j ↔ rn t ≤ j := nI_leI (by omega) (by omega)
  unfold wpX6_at
  refine ⟨fun c => ?_, fun _ => ⟨hK, fun c => ?_, fun _ => ⟨?_, ?_⟩⟩⟩
  · rw [e] at c; omega
  · rw [h.len ht, e2] at c; omega
  · rw [h.len ht]; exact vp_in_nI hj (by omega)
  · rw [nI_clamp (by omega), h.i ht]; exact hp
theorem sp_put (h : Rel S ad n A) {t : Nat} (ht : live n t) (hk : rk t = 8) {j : Nat} (hj : j < rn t) {v : Int32} {post : Unit → Mem → Prop} (hp : ∀ S', Rel S' ad n (aI A t j v) → post () S') : wpX6_put S (ad t) (nI j) v post := by
  have hK := h.k ht
  rw [hk] at hK
  have h2 := rn_le t
  have e : nI j < 0 ↔ (j : Int) < 0 := by rw [lt0_iff, nI_toInt (by omega)]
  have e2 : nI (rn t) ≤ nI j ↔ rn t ≤ j := nI_leI (by omega) (by omega)
  unfold wpX6_put
  refine ⟨fun c => ?_, fun _ => ⟨hK, fun c => ?_, fun _ => ⟨?_, ?_⟩⟩⟩
  · rw [e] at c; omega
  · rw [h.len ht, e2] at c; omega
  · rw [h.len ht]; exact vp_in_nI hj (by omega)
  · rintro S5 rfl
    rw [nI_clamp (by omega)]
    exact hp _ (h.sI ht j v)
theorem sp_stateOf (h : Rel S ad n A) {j : Nat} (hj : j < 12) {post : Int32 → Mem → Prop} (hp : post (gI A 2 j) S) : wpX0_stateOf S (ad 1) (nI j) post :=
  ⟨h.k (t := 1) (live_lt (by decide)), ad 2, h.r (t := 1) (live_lt (by decide)) rfl, sp_at h (t := 2) (live_lt (by decide)) rfl hj hp⟩
theorem nar0 : vz_nar (nI 0) := by unfold vz_nar; rfl
theorem nar1 : vz_nar (nI 1) := by unfold vz_nar; rfl
theorem sp_isApproved (h : Rel S ad n A) {j a : Nat} (hj : j < 12) (ha : gI A 3 j = nI a) (ha1 : a ≤ 1) {post : Int32 → Mem → Prop} (hp : post (nI a) S) : wpX0_isApproved S (ad 1) (nI j) post :=
  ⟨h.k (t := 1) (live_lt (by decide)), ad 3, h.r (t := 1) (live_lt (by decide)) rfl, sp_at h (t := 3) (live_lt (by decide)) rfl hj (by
    rw [ha]
    refine ⟨fun c => ⟨nar0, ?_⟩, fun c => ⟨nar1, ?_⟩⟩
    · rw [nI_eq (by omega) (by omega)] at c
      obtain rfl : a = 0 := by omega
      exact hp
    · rw [nI_eq (by omega) (by omega)] at c
      rw [c] at hp; exact hp)⟩
theorem sp_setApproved (h : Rel S ad n A) {j a : Nat} (hj : j < 12) (ha1 : a ≤ 1) {post : Unit → Mem → Prop} (hp : ∀ S', Rel S' ad n (aI A 3 j (nI a)) → post () S') : wpX0_setApproved S (ad 1) (nI j) (nI a) post := by
  refine ⟨h.k (t := 1) (live_lt (by decide)), ad 3, h.r (t := 1) (live_lt (by decide)) rfl, fun c => ?_, fun c => ?_⟩
  · rw [i0, nI_eq (by omega) (by omega)] at c
    subst c
    exact sp_put h (t := 3) (live_lt (by decide)) rfl hj hp
  · rw [i0, nI_eq (by omega) (by omega)] at c
    obtain rfl : a = 1 := by omega
    exact sp_put h (t := 3) (live_lt (by decide)) rfl hj hp
theorem sp_noteCorrection (h : Rel S ad n A) {j v k : Nat} (hj : j < 12) (hv : gI A 2 j = nI v) (hk : gI A 1 4 = nI k) (hk2 : k < 1188) {post : Unit → Mem → Prop}
    (hp : ∀ S', Rel S' ad n (aI (aI (aI (aI A 2 j (nI (v + 1))) 3 j (nI 0)) 4 k (nI j)) 1 4 (nI (k + 1))) → post () S') : wpX0_noteCorrection S (ad 1) (nI j) post := by
  refine ⟨h.k (t := 1) (live_lt (by decide)), ad 2, h.r (t := 1) (live_lt (by decide)) rfl, ?_⟩
  refine sp_stateOf h hj ?_
  rw [hv, nI_add]
  refine sp_put h (t := 2) (live_lt (by decide)) rfl hj fun S1 h1 => ⟨h1.k (t := 1) (live_lt (by decide)), ?_⟩
  refine sp_setApproved h1 (a := 0) hj (by decide) fun S2 h2 => ⟨h2.k (t := 1) (live_lt (by decide)), ad 4, h2.r (t := 1) (live_lt (by decide)) rfl, ?_⟩
  have e2 : mI S2 (ad 1) 4 = nI k := by rw [h2.i (live_lt (by decide))]; exact hk
  rw [e2]
  refine sp_put h2 (t := 4) (live_lt (by decide)) rfl hk2 fun S3 h3 => ⟨h3.k (t := 1) (live_lt (by decide)), ?_⟩
  have e3 : mI S3 (ad 1) 4 = nI k := by rw [h3.i (live_lt (by decide))]; exact hk
  rintro x rfl S4 rfl
  rw [e3, nI_add]
  exact hp _ (h3.sI (t := 1) (live_lt (by decide)) 4 _)
end
