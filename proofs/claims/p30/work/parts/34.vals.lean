/-! ===== the answers of the calls that leave all as it was ===== -/
section
variable {S S1 S' : Mem} {ad : Nat → Nat} {A A' A1 : AM} {n : Nat × Nat} {s : Sta} {m : Nat} {post : Int32 → Mem → Prop} {p q r : Int32} {j i k l c : Nat}
noncomputable def pif {α : Type} (p : Prop) (a b : α) : α := @ite α p (Classical.propDecidable p) a b
theorem pif_t {α : Type} {p : Prop} {a b : α} (h : p) : pif p a b = a := @if_pos p (Classical.propDecidable p) h α a b
theorem pif_f {α : Type} {p : Prop} {a b : α} (h : ¬ p) : pif p a b = b := @if_neg p (Classical.propDecidable p) h α a b
def ix (p : Int32) : Nat := p.toInt.toNat
theorem ix_nI (h : j < 2147483648) : ix (nI j) = j := by unfold ix; rw [nI_toInt h]; rfl
noncomputable def vSt (s : Sta) (p : Int32) : Int32 := pif (inr p (s 0 0)) (nI (s 1 (ix p))) (-77)
noncomputable def vPg (n : Nat × Nat) (s : Sta) (p : Int32) : Int32 := pif (inr p n.1) (nI (s 4 (ix p))) (-77)
noncomputable def vJ1 (n : Nat × Nat) (s : Sta) (p v : Int32) : Int32 := pif (inr p n.1) (pif (whl (s 3 (ix p)) (s 4 (ix p))) v (-79)) (-77)
noncomputable def vJS (n : Nat × Nat) (s : Sta) (p q v : Int32) : Int32 := vJ1 n s p (pif (inr q (cntf (s 3 (ix p)) (s 4 (ix p)))) v (-75))
noncomputable def vSh (n : Nat × Nat) (s : Sta) (p : Int32) : Int32 := vJ1 n s p (nI (cntf (s 3 (ix p)) (s 4 (ix p))))
noncomputable def vSk (n : Nat × Nat) (s : Sta) (p q : Int32) : Int32 := vJS n s p q (nI (s 6 (8 * ix p + ix q)))
abbrev rds (s : Sta) (j i : Nat) : Nat := rdy (s 0 7) (s 0 8) (s 0 9) (jm s j i 0) (jm s j i 1) (s 3 j)
noncomputable def vRd (n : Nat × Nat) (s : Sta) (p q : Int32) : Int32 := vJS n s p q (nI (rds s (ix p) (ix q)))
abbrev ndd (A : AM) (s : Sta) (j : Nat) : Nat := (tk A s j (2 * cntf (s 3 j) (s 4 j))).2.2 - s 0 2
noncomputable def vNd (A : AM) (n : Nat × Nat) (s : Sta) (p : Int32) : Int32 := vJ1 n s p (nI (ndd A s (ix p)))
noncomputable def oF (n : Nat × Nat) (s : Sta) (c l : Nat) : Nat := pif (l < n.2 ∧ stale s c l) (s 9 l) 0
noncomputable def vOd (n : Nat × Nat) (s : Sta) (p : Int32) : Int32 := pif (inr p (s 0 0)) (nI (sm (oF n s (ix p)) 100)) (-77)
noncomputable def vLk (n : Nat × Nat) (s : Sta) (p q : Int32) : Int32 := pif (inr p n.1) (pif (1 ≤ q.toInt ∧ q.toInt ≤ 500) (pif (whl (s 3 (ix p)) (s 4 (ix p))) (nI (sm (fun k => ix q - s 6 (8 * ix p + k)) (cntf (s 3 (ix p)) (s 4 (ix p))))) (-79)) (-78)) (-77)
theorem vJ1_v {v : Int32} (hj : j < n.1) (h4 : n.1 ≤ 4) (w : whl (s 3 j) (s 4 j)) : vJ1 n s (nI j) v = v := by
  unfold vJ1
  rw [pif_t ((inr_nI (by omega)).2 hj), ix_nI (by omega), pif_t w]
theorem vJ1_2 {v : Int32} (hj : j < n.1) (h4 : n.1 ≤ 4) (w : ¬ whl (s 3 j) (s 4 j)) : vJ1 n s (nI j) v = -79 := by
  unfold vJ1
  rw [pif_t ((inr_nI (by omega)).2 hj), ix_nI (by omega), pif_f w]
theorem vJ1_1 {v : Int32} (z : ¬ inr p n.1) : vJ1 n s p v = -77 := pif_f z
theorem rd_state (I : Inv S ad n A s m) (hp : post (vSt s p) S) : wpL_state S (ad 0) p post := by
  have hn := I.nc
  refine ⟨I.h.k l0, I.h.k l0, sp_requireContent I.h I.vc.1.1 hn (fun c hc e => ?_) (fun z => ⟨fun _ => ?_, rfl⟩)⟩
  · subst e
    refine ⟨I.h.k l0, ad 1, I.h.r l0 rfl, I.h.k (t := 1) LM, sp_stateOf I.h (by omega) ?_⟩
    rw [I.vc.co (by omega)]
    rw [vSt, pif_t ((inr_nI (by omega)).2 hc), ix_nI (by omega)] at hp
    exact hp
  · rw [vSt, pif_f z] at hp; exact hp
theorem rd_pages (I : Inv S ad n A s m) (hp : post (vPg n s p) S) : wpL_pages S (ad 0) p post := by
  have hn := I.h.2.2.1
  refine ⟨I.h.k l0, I.h.k l0, sp_existingJob I.h I.cj (fun j hj e => ⟨_, rfl, I.h.jk (jt hj), ?_⟩) (fun z => ⟨fun _ => ?_, rfl⟩)⟩
  · subst e
    rw [I.h.ji (jt hj), (I.vj j hj).2.2.1]
    rw [vPg, pif_t ((inr_nI (by omega)).2 hj), ix_nI (by omega)] at hp
    exact hp
  · rw [vPg, pif_f z] at hp; exact hp
theorem rd_sheets (I : Inv S ad n A s m) (hp : post (vSh n s p) S) : wpL_sheets S (ad 0) p post := by
  have hn := I.h.2.2.1
  refine ⟨I.h.k l0, I.h.k l0, sp_completeJob I.h I.cj I.vj (fun j hj e w => ⟨_, rfl, I.h.jk (jt hj), sp_sheetCount I.h (jt hj) (I.vj j hj) ?_⟩) (fun j hj e w => ⟨fun q => absurd q (by decide), fun _ => ?_, Or.inr rfl⟩) (fun z => ⟨fun _ => ?_, fun q => absurd q (by decide), Or.inl rfl⟩)⟩
  · subst e
    rw [vSh, vJ1_v hj hn w, ix_nI (by omega)] at hp; exact hp
  · subst e
    rw [vSh, vJ1_2 hj hn w] at hp; exact hp
  · rw [vSh, vJ1_1 z] at hp; exact hp
theorem rd_waste (I : Inv S ad n A s m) {post : Int64 → Mem → Prop} (hp : post (lN (s 0 5)) S) : wpX6_waste S (ad 0) post := ⟨I.h.k l0, by rw [I.h.j l0, I.vc.2.1.1]; exact hp⟩
theorem rd_lots (I : Inv S ad n A s m) (hp : post (nI n.2) S) : wpX6_lots S (ad 0) post := ⟨I.h.k l0, by rw [I.h.i l0, I.cl]; exact hp⟩
theorem rd_plates (I : Inv S ad n A s m) (hp : post (nI (s 0 2)) S) : wpX6_plates S (ad 0) post := ⟨I.h.k l0, ad 7, I.h.r l0 rfl, I.h.k (t := 7) LM, by rw [I.h.i (t := 7) LM, I.vc.1.2.2.2.2]; exact hp⟩
theorem rd_stock (I : Inv S ad n A s m) (hp : post (vSk n s p q) S) : wpL_stock S (ad 0) p q post := by
  have hn := I.h.2.2.1
  refine ⟨I.h.k l0, I.h.k l0, sp_completeJob I.h I.cj I.vj (fun j hj e w => ⟨_, rfl, sp_requireSheet I.h (jt hj) (I.vj j hj) (fun i hi e2 => ⟨I.h.jk (jt hj), ?_⟩) (fun z => ⟨fun q => absurd q (by decide), fun q => absurd q (by decide), fun _ => ?_, Or.inr (Or.inr rfl)⟩)⟩) (fun j hj e w => ⟨fun q => absurd q (by decide), fun _ => ?_, fun q => absurd q (by decide), Or.inr (Or.inl rfl)⟩) (fun z => ⟨fun _ => ?_, fun q => absurd q (by decide), fun q => absurd q (by decide), Or.inl rfl⟩)⟩
  · subst e
    subst e2
    have h8 := i_lt I hj
    refine sp_stockOf I.h (jt hj) (I.vj j hj) (by omega) ?_
    rw [vSk, vJS, vJ1_v hj hn w, ix_nI (by omega), ix_nI (by omega), pif_t ((inr_nI (by omega)).2 hi)] at hp
    exact hp
  · subst e
    rw [vSk, vJS, vJ1_v hj hn w, ix_nI (by omega), pif_f z] at hp; exact hp
  · subst e
    rw [vSk, vJS, vJ1_2 hj hn w] at hp; exact hp
  · rw [vSk, vJS, vJ1_1 z] at hp; exact hp
theorem rd_makeready (I : Inv S ad n A s m) (hp : post (vRd n s p q) S) : wpL_makeready S (ad 0) p q post := by
  have hn := I.h.2.2.1
  refine ⟨I.h.k l0, I.h.k l0, sp_completeJob I.h I.cj I.vj (fun j hj e w => ⟨_, rfl, sp_requireSheet I.h (jt hj) (I.vj j hj) (fun i hi e2 => ⟨I.h.k l0, ad 6, I.h.r l0 rfl, ?_⟩) (fun z => ⟨fun q => absurd q (by decide), fun q => absurd q (by decide), fun _ => ?_, Or.inr (Or.inr rfl)⟩)⟩) (fun j hj e w => ⟨fun q => absurd q (by decide), fun _ => ?_, fun q => absurd q (by decide), Or.inr (Or.inl rfl)⟩) (fun z => ⟨fun _ => ?_, fun q => absurd q (by decide), fun q => absurd q (by decide), Or.inl rfl⟩)⟩
  · subst e
    subst e2
    have h8 := i_lt I hj
    refine sp_plateFor I.h (jt hj) (I.vj j hj) (st := s 1) (fun c hc => I.vc.co hc) hi (by decide) ⟨I.h.k l0, sp_plateFor I.h (jt hj) (I.vj j hj) (st := s 1) (fun c hc => I.vc.co hc) hi (by decide) ⟨I.h.jk (jt hj), I.h.k (t := 6) LM, ?_⟩⟩
    rw [I.h.ji (jt hj), (I.vj j hj).1]
    refine sp_minutesFor I.h ?_
    rw [mf_rdy I hj hi]
    rw [vRd, vJS, vJ1_v hj hn w, ix_nI (by omega), ix_nI (by omega), pif_t ((inr_nI (by omega)).2 hi)] at hp
    exact hp
  · subst e
    rw [vRd, vJS, vJ1_v hj hn w, ix_nI (by omega), pif_f z] at hp; exact hp
  · subst e
    rw [vRd, vJS, vJ1_2 hj hn w] at hp; exact hp
  · rw [vRd, vJS, vJ1_1 z] at hp; exact hp
theorem rd_platesNeeded (I : Inv S ad n A s m) (hp : post (vNd A n s p) S) : wpL_platesNeeded S (ad 0) p post := by
  have hn := I.h.2.2.1
  refine ⟨I.h.k l0, I.h.k l0, sp_completeJob I.h I.cj I.vj (fun j hj e w => ⟨_, rfl, I.h.jk (jt hj), sp_sheetCount I.h (jt hj) (I.vj j hj) fun x8 e8 => ?_⟩) (fun j hj e w => ⟨fun q => absurd q (by decide), fun _ => ?_, Or.inr rfl⟩) (fun z => ⟨fun _ => ?_, fun q => absurd q (by decide), Or.inl rfl⟩)⟩
  · subst e
    subst e8
    rw [pk_mul]
    refine sp_pn19 I hj ?_
    rw [vNd, vJ1_v hj hn w, ix_nI (by omega)] at hp
    exact hp
  · subst e
    rw [vNd, vJ1_2 hj hn w] at hp; exact hp
  · rw [vNd, vJ1_1 z] at hp; exact hp
theorem oF_ok (n : Nat × Nat) (s : Sta) (c : Nat) : ∀ l, (l < n.2 ∧ stale s c l → oF n s c l = s 9 l) ∧ (¬ (l < n.2 ∧ stale s c l) → oF n s c l = 0) := fun _ => ⟨fun h => pif_t h, fun h => pif_f h⟩
theorem rd_outdated (I : Inv S ad n A s m) (hp : post (vOd n s p) S) : wpL_outdated S (ad 0) p post := by
  have hn := I.nc
  refine ⟨I.h.k l0, I.h.k l0, sp_requireContent I.h I.vc.1.1 hn (fun c hc e => ?_) (fun z => ⟨fun _ => ?_, rfl⟩)⟩
  · subst e
    have h12 : c < 12 := by omega
    refine ⟨I.h.k l0, ad 1, I.h.r l0 rfl, I.h.k (t := 1) LM, sp_stateOf I.h h12 ?_⟩
    rw [I.vc.co h12]
    refine sp_od19 I h12 (oF_ok n s c) ?_
    rw [vOd, pif_t ((inr_nI (by omega)).2 hc), ix_nI (by omega)] at hp
    exact hp
  · rw [vOd, pif_f z] at hp; exact hp
theorem rd_lacks (I : Inv S ad n A s m) (hp : post (vLk n s p q) S) : wpL_lacks S (ad 0) p q post := by
  have hn := I.h.2.2.1
  refine ⟨I.h.k l0, I.h.k l0, sp_existingJob I.h I.cj (fun j hj e => ⟨_, rfl, sp_requireCount (fun c h1 h2 e2 => sp_requireComplete I.h (jt hj) (I.vj j hj) (fun w => ?_) (fun w => ⟨fun q => absurd q (by decide), fun _ => ?_, fun q => absurd q (by decide), Or.inr (Or.inl rfl)⟩)) (fun z => ⟨fun q => absurd q (by decide), fun q => absurd q (by decide), fun _ => ?_, Or.inr (Or.inr rfl)⟩)⟩) (fun z => ⟨fun _ => ?_, fun q => absurd q (by decide), fun q => absurd q (by decide), Or.inl rfl⟩)⟩
  · subst e
    subst e2
    refine ⟨I.h.jk (jt hj), sp_lackFor I.h (jt hj) (I.vj j hj) h2 ?_⟩
    rw [vLk, pif_t ((inr_nI (by omega)).2 hj), pif_t (by rw [nI_toInt (by omega)]; omega), ix_nI (by omega), ix_nI (by omega), pif_t w] at hp
    exact hp
  · subst e
    subst e2
    rw [vLk, pif_t ((inr_nI (by omega)).2 hj), pif_t (by rw [nI_toInt (by omega)]; omega), ix_nI (by omega), pif_f w] at hp
    exact hp
  · subst e
    rw [vLk, pif_t ((inr_nI (by omega)).2 hj), pif_f z] at hp
    exact hp
  · rw [vLk, pif_f z] at hp; exact hp
/-- asked for what is there -/
theorem rd_pageAt (I : Inv S ad n A s m) (hj : j < n.1) (w : whl (s 3 j) (s 4 j)) (hi : i < cntf (s 3 j) (s 4 j)) (hk : k < plc (s 3 j)) (hp : post (nI (pgOn (s 3 j) (s 4 j) i k)) S) : wpL_pageAt S (ad 0) (nI j) (nI i) (nI k) post := by
  have hn := I.h.2.2.1
  have h8 := i_lt I hj
  have hpl := plc_pos (s 3 j)
  refine ⟨I.h.k l0, I.h.k l0, sp_completeJob I.h I.cj I.vj (fun j' hj' e w => ⟨_, rfl, ?_⟩) (fun j' hj' e w' => ?_) (fun z => absurd ((inr_nI (by omega)).2 hj) z)⟩
  · have e' := j_eq I hj hj' e
    subst e'
    refine sp_requireSheet I.h (jt hj) (I.vj j hj) (fun i' hi' e2 => ?_) (fun z => absurd ((inr_nI (by omega)).2 hi) z)
    refine ⟨fun z => ?_, fun _ => ⟨I.h.jk (jt hj), sp_placeCount I.h (jt hj) (I.vj j hj) ⟨fun _ => ⟨I.h.jk (jt hj), sp_pageOn I.h (jt hj) (I.vj j hj) hi hk hp⟩, fun z => ?_⟩⟩⟩
    · rw [lt0_iff, nI_toInt (by omega)] at z; omega
    · rw [nI_ltI (by omega) (by omega)] at z; omega
  · have e' := j_eq I hj hj' e
    subst e'
    exact absurd w w'
theorem rd_sheetOf (I : Inv S ad n A s m) (hj : j < n.1) (w : whl (s 3 j) (s 4 j)) (h1 : 1 ≤ c) (h2 : c ≤ s 4 j) (hp : ∀ i, i < cntf (s 3 j) (s 4 j) → (∃ p, p < plc (s 3 j) ∧ pgOn (s 3 j) (s 4 j) i p = c) → post (nI i) S) : wpL_sheetOf S (ad 0) (nI j) (nI c) post := by
  have hn := I.h.2.2.1
  have h16 := (I.vj j hj).2.2.2.1
  refine ⟨I.h.k l0, I.h.k l0, sp_completeJob I.h I.cj I.vj (fun j' hj' e w => ⟨_, rfl, ?_⟩) (fun j' hj' e w' => ?_) (fun z => absurd ((inr_nI (by omega)).2 hj) z)⟩
  · have e' := j_eq I hj hj' e
    subst e'
    refine ⟨fun z => ?_, fun _ => ⟨I.h.jk (jt hj), ?_⟩⟩
    · rw [nI_ltI (by omega) (by omega)] at z; omega
    rw [I.h.ji (jt hj), (I.vj j hj).2.2.1]
    refine ⟨fun _ => sp_sheetWith I.h (jt hj) (I.vj j hj) (c := c) (by omega) (fun i hi hx hmin => hp i hi hx) (fun hno => ?_), fun z => ?_⟩
    · obtain ⟨i, hi, hx⟩ := pg_ex (I.vj j hj).2.1 w h1 h2
      exact absurd hx (hno i hi)
    · rw [nI_leI (by omega) (by omega)] at z; omega
  · have e' := j_eq I hj hj' e
    subst e'
    exact absurd w w'
theorem l_eq (I : Inv S ad n A s m) {l' : Nat} (hl : l < n.2) (hl' : l' < n.2) (e : nI l = nI l') : l = l' := by
  have := I.h.2.2.2
  rwa [nI_eq (by omega) (by omega)] at e
theorem rd_stateIn (I : Inv S ad n A s m) (hl : l < n.2) (h1 : 1 ≤ k) (h17 : k ≤ 17) (hp : k ≤ s 10 l → post (nI (s 11 (16 * l + (k - 1)))) S) (hz : s 10 l < k → post (-75) S) : wpL_stateIn S (ad 0) (nI l) (nI k) post := by
  have hn := I.h.2.2.2
  have h16 := I.l16 hl
  refine ⟨I.h.k l0, I.h.k l0, sp_existingLot I.h I.cl (fun l' hl' e => ⟨_, rfl, ?_⟩) (fun z => absurd ((inr_nI (by omega)).2 hl) z)⟩
  have e' := l_eq I hl hl' e
  subst e'
  refine sp_requirePage I.h (ltt hl) (I.lv hl) (fun k' h1' h2' e2 => ⟨I.h.lk (ltt hl), ?_⟩) (fun z => ⟨fun q => absurd q (by decide), fun _ => hz ?_, Or.inr rfl⟩)
  · rw [nI_eq (by omega) (by omega)] at e2
    subst e2
    exact sp_keptState I.h (ltt hl) (I.lv hl) h1 h2' (hp h2')
  · rw [nI_toInt (by omega)] at z; omega
theorem sn_requireContent (I : Inv S ad n A s m) (hc : c < s 0 0) {post : Unit → Mem → Prop} (hp : post () S) : wpX6_requireContentn S (ad 0) (nI c) post := by
  have hn := I.nc
  refine ⟨fun z => ?_, fun _ => ⟨I.h.k l0, ad 1, I.h.r l0 rfl, I.h.k (t := 1) LM, ?_⟩⟩
  · rw [lt0_iff, nI_toInt (by omega)] at z; omega
  · rw [I.h.i (t := 1) LM, I.vc.1.1, nI_ltI (by omega) (by omega)]
    exact ⟨fun _ => hp, fun z => z hc⟩
theorem rn_state (I : Inv S ad n A s m) (hc : c < s 0 0) (hp : post (nI (s 1 c)) S) : wpL_staten S (ad 0) (nI c) post := by
  have hn := I.nc
  refine ⟨I.h.k l0, I.h.k l0, sn_requireContent I hc ⟨I.h.k l0, ad 1, I.h.r l0 rfl, I.h.k (t := 1) LM, sp_stateOf I.h (by omega) ?_⟩⟩
  rw [I.vc.co (by omega)]
  exact hp
theorem sn_existingLot (I : Inv S ad n A s m) (hl : l < n.2) {post : Option Nat → Mem → Prop} (hp : post (some (ad (60 + 3 * l))) S) : wpX6_existingLotn S (ad 0) (nI l) post := by
  have hn := I.h.2.2.2
  refine ⟨I.h.k l0, sp_findLot I.h I.cl (fun l' hl' e => ⟨fun z => (nomatch z), fun o z => ?_⟩) (fun z => absurd ((inr_nI (by omega)).2 hl) z)⟩
  cases z
  have e' := l_eq I hl hl' e
  subst e'
  exact hp
theorem sn_requirePage (I : Inv S ad n A s m) (hl : l < n.2) (h1 : 1 ≤ k) (h2 : k ≤ s 10 l) {post : Unit → Mem → Prop} (hp : post () S) : wpX6_requirePagen S (ad (60 + 3 * l)) (nI k) post := by
  have h16 := I.l16 hl
  refine ⟨fun z => ?_, fun _ => ⟨I.h.lk (ltt hl), ?_⟩⟩
  · rw [nI_ltI (by omega) (by omega)] at z; omega
  · rw [I.h.li (ltt hl), (I.lv hl).2.1, nI_leI (by omega) (by omega)]
    exact ⟨fun _ => hp, fun z => z h2⟩
theorem rn_stateIn (I : Inv S ad n A s m) (hl : l < n.2) (h1 : 1 ≤ k) (h2 : k ≤ s 10 l) (hp : post (nI (s 11 (16 * l + (k - 1)))) S) : wpL_stateInn S (ad 0) (nI l) (nI k) post :=
  ⟨I.h.k l0, I.h.k l0, sn_existingLot I hl ⟨_, rfl, sn_requirePage I hl h1 h2 ⟨I.h.lk (ltt hl), sp_keptState I.h (ltt hl) (I.lv hl) h1 h2 hp⟩⟩⟩
theorem rn_stateByReplay (I : Inv S ad n A s m) (hl : l < n.2) (h1 : 1 ≤ k) (h2 : k ≤ s 10 l) (hp : post (nI (s 11 (16 * l + (k - 1)))) S) : wpL_stateByReplayn S (ad 0) (nI l) (nI k) post := by
  obtain ⟨b1, b2, b3, b4, b5⟩ := lotB I hl
  have h4 : s 8 l < 4 := by have := I.h.2.2.1; omega
  have hc : s 5 (16 * s 8 l + (k - 1)) < 12 := Nat.lt_of_lt_of_le (I.vb.2.2.2.2.2.1 _ h4 (k - 1) (by omega)) I.nc
  have hlog : ∀ i, i < s 13 l → gI A 4 i = nI (s 12 i) ∧ s 12 i < 12 := fun i hi => ⟨I.vc.2.2.2.2.1 i (by omega), I.vb.2.2.1 i (by omega)⟩
  refine ⟨I.h.k l0, I.h.k l0, sn_existingLot I hl ⟨_, rfl, sn_requirePage I hl h1 h2 ⟨I.h.k l0, ad 1, I.h.r l0 rfl, I.h.lk (ltt hl), sp_lotContentOf I.h (ltt hl) (I.lv hl) h1 h2 ⟨I.h.k (t := 1) LM, ?_⟩⟩⟩⟩
  rw [I.h.li (ltt hl), (I.lv hl).2.2.1]
  refine sp_stateAfter I.h (by have := I.vb.1.2.1; have := I.vb.1.2.2.2.2.2.2.2; omega) hlog hc ?_
  rw [← b5 (k - 1) (by omega)]
  exact hp
theorem rn_copies (I : Inv S ad n A s m) (hl : l < n.2) (hp : post (nI (s 9 l)) S) : wpL_copiesn S (ad 0) (nI l) post := by
  refine ⟨I.h.k l0, I.h.k l0, sn_existingLot I hl ⟨_, rfl, I.h.lk (ltt hl), ?_⟩⟩
  rw [I.h.li (ltt hl), (I.lv hl).1]
  exact hp
theorem rd_copies (I : Inv S ad n A s m) (hl : l < n.2) (hp : post (nI (s 9 l)) S) : wpL_copies S (ad 0) (nI l) post := by
  have hn := I.h.2.2.2
  refine ⟨I.h.k l0, I.h.k l0, sp_existingLot I.h I.cl (fun l' hl' e => ⟨_, rfl, I.h.lk (ltt hl'), ?_⟩) (fun z => absurd ((inr_nI (by omega)).2 hl) z)⟩
  have e' := l_eq I hl hl' e
  subst e'
  rw [I.h.li (ltt hl), (I.lv hl).1]
  exact hp
end
