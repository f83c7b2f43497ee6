/-! ===== small laws and words ===== -/
section
variable {S : Mem} {ad : Nat → Nat} {n : Nat × Nat} {A : AM} {b np : Nat} {pg : Nat → Nat}
theorem LM {t : Nat} (h : t < 21 := by decide) : live n t := live_lt h
theorem rd (h : Rel S ad n A) {t k : Nat} (ht : t < 21) (hk : k < rn t) : vp_in (nI k) (mN S (ad t)) ∧ mI S (ad t) (nI k).toNatClampNeg = gI A t k := by
  have := rn_le t
  rw [h.len (live_lt ht), nI_clamp (by omega), h.i (live_lt ht)]
  exact ⟨vp_in_nI hk (by omega), rfl⟩
theorem t0 : (nI 0 : Int32) = 0 := rfl
theorem n10 : ¬ (nI 1 : Int32) = 0 := by decide
def mpl (st : Nat → Nat) (b np : Nat) (pg : Nat → Nat) (i s : Nat) : Nat :=
  if b = 119 then 1 + (100 * conOn b np pg i s + st (conOn b np pg i s)) else 2000 + 1200 * (100 * conOn b np pg i (2 * s) + st (conOn b np pg i (2 * s))) + (100 * conOn b np pg i (2 * s + 1) + st (conOn b np pg i (2 * s + 1)))
theorem isB_lt (h : isB b) : b < 200 := by rcases h with h | h | h <;> omega
def rdy (f k o x y b : Nat) : Nat := (if x = f then 0 else 20) + (if y = k then 0 else 20) + (if b = o then 0 else 15)
theorem rdy_le (f k o x y b : Nat) : rdy f k o x y b ≤ 55 := by unfold rdy; split <;> split <;> split <;> omega
def made (pl : Nat → Nat) (m x : Nat) : Prop := ∃ k, k < m ∧ pl k = x
def cm (f g : Nat) (fr bk : Nat → Nat) (i j : Nat) : Nat := if i = 8 then (if fr j = f then 0 else 20) + (if bk j = g then 0 else 20) else (if fr i = fr j then 0 else 20) + (if bk i = bk j then 0 else 20)
end
