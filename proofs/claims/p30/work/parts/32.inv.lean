/-! ===== what the class holds, as numbers: s tag index: 0 numbers [contents, corrections, made, prints, minutes, wasted, printed, front, back, onPress of the reference], 1 states, 2 approvals, 3 bindings, 4 page counts, 5 pages (16 j + k), 6 stock (8 j + i), 7 the reference's plates, 8 9 10 13 of a lot: job, copies, pages, corrections before it, 11 its states (16 l + k), 12 the corrections in order ===== -/
section
abbrev Sta : Type := Nat → Nat → Nat
variable {A : AM} {n : Nat × Nat} {s : Sta} {m : Nat}
def VC (A : AM) (n : Nat × Nat) (s : Sta) : Prop :=
  (gI A 1 3 = nI (s 0 0) ∧ gI A 1 4 = nI (s 0 1) ∧ gI A 0 6 = nI n.1 ∧ gI A 0 7 = nI n.2 ∧ gI A 7 1 = nI (s 0 2)) ∧
  (gJ A 0 8 = lN (s 0 5) ∧ gJ A 0 9 = lN (s 0 6) ∧ gJ A 0 10 = lN (s 0 3) ∧ gJ A 0 11 = lN (s 0 4)) ∧
  (∀ c, c < 12 → gI A 2 c = nI (s 1 c)) ∧ (∀ c, c < 12 → gI A 3 c = nI (s 2 c)) ∧
  (∀ i, i < s 0 1 → gI A 4 i = nI (s 12 i)) ∧
  (∀ j, j < n.1 → VJ A (40 + 3 * j) (s 3 j) (s 4 j) (fun k => s 5 (16 * j + k)) (fun i => s 6 (8 * j + i))) ∧
  (∀ l, l < n.2 → VL A (60 + 3 * l) (s 9 l) (s 10 l) (s 13 l) (fun k => s 5 (16 * s 8 l + k)) (fun k => s 11 (16 * l + k)))
/-- the bounds, behind m calls -/
def VB (n : Nat × Nat) (s : Sta) (m : Nat) : Prop :=
  (s 0 0 ≤ 12 ∧ s 0 1 ≤ m ∧ s 0 2 ≤ 2 * s 0 3 ∧ s 0 3 ≤ m ∧ s 0 4 ≤ 55 * m ∧ s 0 5 ≤ 320000 * m ∧ s 0 6 ≤ 500 * m ∧ m ≤ 512) ∧
  (∀ c, c < 12 → s 1 c ≤ 99 ∧ s 2 c ≤ 1 ∧ s 1 c = cl (s 12) c (s 0 1)) ∧ (∀ i, i < s 0 1 → s 12 i < 12) ∧
  (∀ j, j < n.1 → isB (s 3 j)) ∧ (∀ j, j < 4 → s 4 j ≤ 16) ∧ (∀ j, j < 4 → ∀ k, k < s 4 j → s 5 (16 * j + k) < s 0 0) ∧ (∀ j, n.1 ≤ j → s 4 j = 0) ∧
  (∀ j, j < 4 → ∀ i, i < 8 → s 6 (8 * j + i) ≤ 9999 ∧ (¬ (j < n.1 ∧ whl (s 3 j) (s 4 j) ∧ i < cntf (s 3 j) (s 4 j)) → s 6 (8 * j + i) = 0)) ∧
  (∀ l, l < n.2 → s 8 l < n.1 ∧ s 10 l ≤ s 4 (s 8 l) ∧ s 9 l ≤ 500 ∧ s 13 l ≤ s 0 1 ∧ ∀ k, k < s 10 l → s 11 (16 * l + k) = cl (s 12) (s 5 (16 * s 8 l + k)) (s 13 l))
/-- a plate's number in the class and in the reference: p tells the contents -/
def pq (p a r : Nat) : Nat := p * 10000 + a * 100 + r
def mq (p a r : Nat) : Nat := if p % 13 = 0 then 1 + (100 * (p / 13) + a) else 2000 + 1200 * (100 * (p / 13) + a) + (100 * (p % 13 - 1) + r)
def okp (p a r : Nat) : Prop := p < 156 ∧ a ≤ 99 ∧ r ≤ 99 ∧ (p % 13 = 0 → r = 0)
def lep (s : Sta) (p a r : Nat) : Prop := a ≤ s 1 (p / 13) ∧ (p % 13 ≠ 0 → r ≤ s 1 (p % 13 - 1))
/-- the present states of p's contents -/
def c1 (s : Sta) (p : Nat) : Nat := s 1 (p / 13)
def c2 (s : Sta) (p : Nat) : Nat := if p % 13 = 0 then 0 else s 1 (p % 13 - 1)
def mtd (x : Int32) (f : Nat) : Prop := (f = 0 ∧ x = -1) ∨ ∃ p a r, okp p a r ∧ f = mq p a r ∧ x = nI (pq p a r)
def VP (A : AM) (s : Sta) : Prop :=
  (mtd (gI A 6 0) (s 0 7) ∧ mtd (gI A 6 1) (s 0 8) ∧ gI A 6 2 = nI (if s 0 9 = 0 then 32 else s 0 9) ∧ (s 0 9 = 0 ∨ isB (s 0 9))) ∧
  (∀ k, k < s 0 2 → ∃ p a r, okp p a r ∧ s 7 k = mq p a r ∧ lep s p a r) ∧
  (∀ p, p < 156 → gI A 8 p = -1 ∨ ∃ a r, okp p a r ∧ gI A 8 p = nI (pq p a r) ∧ lep s p a r) ∧
  (∀ p, p < 156 → (gI A 8 p = nI (pq p (c1 s p) (c2 s p)) ↔ made (s 7) (s 0 2) (mq p (c1 s p) (c2 s p))))
def Inv (S : Mem) (ad : Nat → Nat) (n : Nat × Nat) (A : AM) (s : Sta) (m : Nat) : Prop := Rel S ad n A ∧ VC A n s ∧ VB n s m ∧ VP A s
theorem mq_lt {p a r : Nat} (h : okp p a r) : 0 < mq p a r ∧ mq p a r < 1500000 := by
  obtain ⟨h1, h2, h3, -⟩ := h
  unfold mq
  split <;> omega
theorem pq_lt {p a r : Nat} (h : okp p a r) : pq p a r < 1560000 ∧ pq p a r / 10000 = p := by
  obtain ⟨h1, h2, h3, -⟩ := h
  unfold pq
  omega
theorem pq_inj {p a r p' a' r' : Nat} (h : okp p a r) (h' : okp p' a' r') : pq p a r = pq p' a' r' ↔ p = p' ∧ a = a' ∧ r = r' := by
  obtain ⟨h1, h2, h3, -⟩ := h
  obtain ⟨h1', h2', h3', -⟩ := h'
  unfold pq
  omega
theorem mq_inj {p a r p' a' r' : Nat} (h : okp p a r) (h' : okp p' a' r') : mq p a r = mq p' a' r' ↔ p = p' ∧ a = a' ∧ r = r' := by
  obtain ⟨h1, h2, h3, h4⟩ := h
  obtain ⟨h1', h2', h3', h4'⟩ := h'
  refine ⟨fun e => ?_, fun ⟨e1, e2, e3⟩ => by rw [e1, e2, e3]⟩
  unfold mq at e
  by_cases c : p % 13 = 0
  · by_cases c' : p' % 13 = 0
    · rw [if_pos c, if_pos c'] at e
      have := h4 c
      have := h4' c'
      omega
    · rw [if_pos c, if_neg c'] at e; omega
  · by_cases c' : p' % 13 = 0
    · rw [if_neg c, if_pos c'] at e; omega
    · rw [if_neg c, if_neg c'] at e; omega
theorem mtd_eq {x : Int32} {f p a r : Nat} (h : mtd x f) (o : okp p a r) : (nI (pq p a r) = x ↔ mq p a r = f) ∧ f < 1500000 := by
  rcases h with ⟨rfl, rfl⟩ | ⟨p', a', r', o', rfl, rfl⟩
  · have h1 := mq_lt o
    have h2 := pq_lt o
    refine ⟨⟨fun e => ?_, fun e => by omega⟩, by decide⟩
    have := (ieq_iff _ _).1 e
    rw [nI_toInt (by omega)] at this
    have e2 : (-1 : Int32).toInt = -1 := rfl
    omega
  · have h2 := pq_lt o
    have h2' := pq_lt o'
    refine ⟨?_, (mq_lt o').2⟩
    rw [nI_eq (by omega) (by omega), pq_inj o o', mq_inj o o']
/-- which contents a side shows -/
def psd (b np : Nat) (pg : Nat → Nat) (i t : Nat) : Nat := if b = 119 then 13 * conOn b np pg i t else 13 * conOn b np pg i (2 * t) + conOn b np pg i (2 * t + 1) + 1
theorem psd_ok {st : Nat → Nat} {b np : Nat} {pg : Nat → Nat} (hs : ∀ c, c < 12 → st c ≤ 99) (hst : ∀ c, s 1 c = st c) {i t : Nat} (hc : ∀ p, p < plc b → conOn b np pg i p < 12) (ht : t < 2) : okp (psd b np pg i t) (c1 s (psd b np pg i t)) (c2 s (psd b np pg i t)) ∧ kpl st b np pg i t = pq (psd b np pg i t) (c1 s (psd b np pg i t)) (c2 s (psd b np pg i t)) ∧ mpl st b np pg i t = mq (psd b np pg i t) (c1 s (psd b np pg i t)) (c2 s (psd b np pg i t)) := by
  unfold psd kpl mpl c1 c2
  by_cases hb : b = 119
  · have hp : plc b = 2 := by unfold plc; rw [if_pos hb]
    have h1 := hc t (by omega)
    rw [if_pos hb, if_pos hb, if_pos hb]
    have e1 : 13 * conOn b np pg i t % 13 = 0 := by omega
    have e2 : 13 * conOn b np pg i t / 13 = conOn b np pg i t := by omega
    have h2 := hs _ h1
    rw [if_pos e1, e2, hst]
    refine ⟨⟨by omega, h2, by omega, fun _ => rfl⟩, ?_, ?_⟩
    · unfold kp1 pq; omega
    · unfold mq; rw [if_pos e1, e2]
  · have hp : plc b = 4 := by unfold plc; rw [if_neg hb]
    have h1 := hc (2 * t) (by omega)
    have h2 := hc (2 * t + 1) (by omega)
    rw [if_neg hb, if_neg hb, if_neg hb]
    have e1 : (13 * conOn b np pg i (2 * t) + conOn b np pg i (2 * t + 1) + 1) % 13 = conOn b np pg i (2 * t + 1) + 1 := by omega
    have e2 : (13 * conOn b np pg i (2 * t) + conOn b np pg i (2 * t + 1) + 1) / 13 = conOn b np pg i (2 * t) := by omega
    have h3 := hs _ h1
    have h4 := hs _ h2
    rw [e1, if_neg (by omega), e2, Nat.add_sub_cancel, hst, hst]
    refine ⟨⟨by omega, h3, h4, fun q => by omega⟩, ?_, ?_⟩
    · unfold kp2 pq; omega
    · unfold mq; rw [e1, if_neg (by omega), e2, Nat.add_sub_cancel]
end
