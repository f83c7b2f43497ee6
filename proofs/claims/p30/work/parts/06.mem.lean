/-! ===== the memory: one pool of cells, by address: L the addresses, K the kind of each (0..6 objects, 8 int[], 9 char[], 10 Job[], 11 Lot[], 12 int[][]), I, J, R, D what is in its places, N the length of an array ===== -/
abbrev Mem : Type := List Nat × (Nat → Nat) × (Nat → Nat → Int32) × (Nat → Nat → Int64) × (Nat → Nat → Option Nat) × (Nat → Nat) × (Nat → Nat → UInt64)
def mL (S : Mem) : List Nat := S.1
def mK (S : Mem) : Nat → Nat := S.2.1
def mI (S : Mem) : Nat → Nat → Int32 := S.2.2.1
def mJ (S : Mem) : Nat → Nat → Int64 := S.2.2.2.1
def mR (S : Mem) : Nat → Nat → Option Nat := S.2.2.2.2.1
def mN (S : Mem) : Nat → Nat := S.2.2.2.2.2.1
def mD (S : Mem) : Nat → Nat → UInt64 := S.2.2.2.2.2.2
def up2 {α : Type} (f : Nat → Nat → α) (a k : Nat) (v : α) : Nat → Nat → α := va_up f a (va_up (f a) k v)
def sI (S : Mem) (a k : Nat) (v : Int32) : Mem := (mL S, mK S, up2 (mI S) a k v, mJ S, mR S, mN S, mD S)
def sJ (S : Mem) (a k : Nat) (v : Int64) : Mem := (mL S, mK S, mI S, up2 (mJ S) a k v, mR S, mN S, mD S)
def sR (S : Mem) (a k : Nat) (v : Option Nat) : Mem := (mL S, mK S, mI S, mJ S, up2 (mR S) a k v, mN S, mD S)
def sD (S : Mem) (a k : Nat) (v : UInt64) : Mem := (mL S, mK S, mI S, mJ S, mR S, mN S, up2 (mD S) a k v)
/-- a new cell of the kind kd, of n places -/
def nA (S : Mem) (a kd n : Nat) : Mem := (mL S ++ [a], va_up (mK S) a kd, va_up (mI S) a (fun _ => 0), va_up (mJ S) a (fun _ => 0), va_up (mR S) a (fun _ => none), va_up (mN S) a n, va_up (mD S) a (fun _ => 0))
def isK (S : Mem) (a k : Nat) : Prop := a ∈ mL S ∧ mK S a = k
/-- the fields of each class, in the order of its slots: 0 of 32 bits, 1 long, 2 a reference -/
def lay : Nat → List Nat
  | 0 => [2, 2, 2, 0, 0]
  | 1 => [0, 2, 2, 0]
  | 2 => [0, 0, 0, 2, 2]
  | 3 => [2, 2, 2, 0]
  | 4 => [2, 0]
  | 5 => [0, 0, 0]
  | 6 => [2, 2, 2, 2, 2, 2, 0, 0, 1, 1, 1, 1]
  | _ => []
abbrev vcl : List vw_C := [(RX0, TX0, 5), (RX1, TX1, 4), (RX2, TX2, 5), (RX3, TX3, 4), (RX4, TX4, 2), (RX5, TX5, 3), (RX6, TX6, 12)]
abbrev GT : Type := va_G × (Nat → ClassId)
abbrev tys (G : GT) : List (ClassId × FieldType) := [(G.2 8, .int), (G.2 9, .char), (G.2 10, .object RX1), (G.2 11, .object RX2), (G.2 12, .array .int)]
def sl1 (S : Mem) (a k : Nat) : Nat → Value
  | 0 => .int (mI S a k)
  | 1 => .long (mJ S a k)
  | _ => va_rf (mR S a k)
def slv (S : Mem) (a : Nat) : Nat → List Nat → List Value
  | _, [] => []
  | k, t :: ts => sl1 S a k t :: slv S a (k + 1) ts
def arc (S : Mem) (a : Nat) : Nat → vp_A
  | 10 => (mN S a, .inr (.inr (.inr (.inr (mR S a)))))
  | 11 => (mN S a, .inr (.inr (.inr (.inr (mR S a)))))
  | 12 => (mN S a, .inr (.inr (.inr (.inr (mR S a)))))
  | _ => (mN S a, .inl (mI S a))
def cel (G : GT) (S : Mem) (a : Nat) : va_E := if mK S a < 8 then .inr (mK S a, slv S a 0 (lay (mK S a))) else .inl (G.2 (mK S a), arc S a (mK S a))
def wl (G : GT) (S : Mem) : va_W := va_pl (mL S) (cel G S)
theorem cel_o {G : GT} {S : Mem} {a kd : Nat} (h : mK S a = kd) (hk : kd < 8) : cel G S a = .inr (kd, slv S a 0 (lay kd)) := by
  subst h
  exact if_pos hk
theorem cel_a {G : GT} {S : Mem} {a kd : Nat} (h : mK S a = kd) (hk : ¬ kd < 8) : cel G S a = .inl (G.2 kd, arc S a kd) := by
  subst h
  exact if_neg hk
theorem wl_at {G : GT} {S : Mem} {a : Nat} (h : a ∈ mL S) : ∃ k : Nat, (wl G S)[k]? = some (a, cel G S a) := by
  obtain ⟨k, hk⟩ := va_pl_get (X := []) (f := cel G S) h
  exact ⟨k, hk⟩
theorem wl_set {A : Nat → Prop} {G : GT} {S S' : Mem} {a k : Nat} {e : va_E} (hD : va_D A (wl G S)) (hL : a ∈ mL S) (hk : (wl G S)[k]? = some (a, cel G S a)) (hL' : mL S' = mL S) (ha : cel G S' a = e) (hb : ∀ b, b ≠ a → cel G S' b = cel G S b) : (wl G S).set k (a, e) = wl G S' := by
  have h := va_pl_set (X := []) (f := cel G S) (e := e) hD hL hk
  refine Eq.trans h ?_
  show va_pl (mL S) (va_up (cel G S) a e) = va_pl (mL S') (cel G S')
  rw [hL']
  refine va_pl_congr fun b => ?_
  by_cases q : b = a
  · rw [q, ha]; simp [va_up]
  · rw [hb b q]; simp [va_up, q]
theorem up2_ne {α : Type} {f : Nat → Nat → α} {a b k : Nat} {v : α} (h : b ≠ a) : up2 f a k v b = f b := va_up_ne f _ h
theorem up2_at {α : Type} {f : Nat → Nat → α} {a k : Nat} {v : α} : up2 f a k v a = va_up (f a) k v := by simp [up2, va_up]
theorem up2_nk {α : Type} {f : Nat → Nat → α} {a k j : Nat} {v : α} (h : j ≠ k) : up2 f a k v a j = f a j := by rw [up2_at]; exact va_up_ne _ _ h
theorem up2_eq {α : Type} {f : Nat → Nat → α} {a k : Nat} {v : α} : up2 f a k v a k = v := by rw [up2_at]; simp [va_up]
/-- two memories that agree at an address have one cell there -/
def mSame (S S' : Mem) (b : Nat) : Prop := mK S' b = mK S b ∧ mI S' b = mI S b ∧ mJ S' b = mJ S b ∧ mR S' b = mR S b ∧ mN S' b = mN S b ∧ mD S' b = mD S b
theorem slv_same {S S' : Mem} {b : Nat} (h : mSame S S' b) : ∀ (L : List Nat) (i : Nat), slv S' b i L = slv S b i L
  | [], _ => rfl
  | t :: ts, i => by
    have h1 : sl1 S' b i t = sl1 S b i t := by
      obtain ⟨-, h2, h3, h4, -, -⟩ := h
      match t with
      | 0 => exact congrArg Value.int (congrFun h2 i)
      | 1 => exact congrArg Value.long (congrFun h3 i)
      | _ + 2 => exact congrArg va_rf (congrFun h4 i)
    show sl1 S' b i t :: slv S' b (i + 1) ts = sl1 S b i t :: slv S b (i + 1) ts
    rw [h1, slv_same h ts (i + 1)]
theorem arc_same {S S' : Mem} {b : Nat} (h : mSame S S' b) (kd : Nat) : arc S' b kd = arc S b kd := by
  obtain ⟨-, h2, h3, h4, h5, h6⟩ := h
  unfold arc
  split <;> simp only [h2, h3, h4, h5, h6]
theorem cel_same {G : GT} {S S' : Mem} {b : Nat} (h : mSame S S' b) : cel G S' b = cel G S b := by
  unfold cel
  rw [h.1, slv_same h, arc_same h]
theorem sI_same {S : Mem} {a k b : Nat} {v : Int32} (h : b ≠ a) : mSame S (sI S a k v) b := ⟨rfl, up2_ne h, rfl, rfl, rfl, rfl⟩
theorem sJ_same {S : Mem} {a k b : Nat} {v : Int64} (h : b ≠ a) : mSame S (sJ S a k v) b := ⟨rfl, rfl, up2_ne h, rfl, rfl, rfl⟩
theorem sR_same {S : Mem} {a k b : Nat} {v : Option Nat} (h : b ≠ a) : mSame S (sR S a k v) b := ⟨rfl, rfl, rfl, up2_ne h, rfl, rfl⟩
theorem sD_same {S : Mem} {a k b : Nat} {v : UInt64} (h : b ≠ a) : mSame S (sD S a k v) b := ⟨rfl, rfl, rfl, rfl, rfl, up2_ne h⟩
theorem nA_same {S : Mem} {a kd n b : Nat} (h : b ≠ a) : mSame S (nA S a kd n) b := ⟨va_up_ne _ _ h, va_up_ne _ _ h, va_up_ne _ _ h, va_up_ne _ _ h, va_up_ne _ _ h, va_up_ne _ _ h⟩
/-- one place written -/
theorem slv_put {S S' : Mem} {a k : Nat} {v : Value} {t : Nat} (h1 : ∀ j u, j ≠ k → sl1 S' a j u = sl1 S a j u) (h2 : sl1 S' a k t = v) : ∀ (L : List Nat) (i j : Nat), i + j = k → L[j]? = some t → (slv S a i L).set j v = slv S' a i L
  | [], _, _, _, h => by simp at h
  | u :: us, i, 0, hk, h => by
    have hu : u = t := by simpa using h
    subst hu
    have hi : i = k := hk
    subst hi
    have h3 : ∀ (M : List Nat) (m : Nat), i < m → slv S' a m M = slv S a m M := by
      intro M
      induction M with
      | nil => intro m _; rfl
      | cons w ws ih =>
        intro m hm
        show sl1 S' a m w :: slv S' a (m + 1) ws = sl1 S a m w :: slv S a (m + 1) ws
        rw [h1 m w (by omega), ih (m + 1) (by omega)]
    show v :: slv S a (i + 1) us = sl1 S' a i u :: slv S' a (i + 1) us
    rw [h2, h3 us (i + 1) (by omega)]
  | u :: us, i, j + 1, hk, h => by
    show sl1 S a i u :: (slv S a (i + 1) us).set j v = sl1 S' a i u :: slv S' a (i + 1) us
    rw [slv_put h1 h2 us (i + 1) j (by omega) (by simpa using h), h1 i u (by omega)]
theorem sl1_sI {S : Mem} {a k : Nat} {v : Int32} : ∀ j u, j ≠ k → sl1 (sI S a k v) a j u = sl1 S a j u := fun j u h => by
  match u with
  | 0 => exact congrArg Value.int (up2_nk h)
  | 1 => rfl
  | _ + 2 => rfl
theorem sl1_sJ {S : Mem} {a k : Nat} {v : Int64} : ∀ j u, j ≠ k → sl1 (sJ S a k v) a j u = sl1 S a j u := fun j u h => by
  match u with
  | 0 => rfl
  | 1 => exact congrArg Value.long (up2_nk h)
  | _ + 2 => rfl
theorem sl1_sR {S : Mem} {a k : Nat} {v : Option Nat} : ∀ j u, j ≠ k → sl1 (sR S a k v) a j u = sl1 S a j u := fun j u h => by
  match u with
  | 0 => rfl
  | 1 => rfl
  | _ + 2 => exact congrArg va_rf (up2_nk h)
theorem put_I {A : Nat → Prop} {G : GT} {S : Mem} {a k kd q : Nat} {v : Int32} (hD : va_D A (wl G S)) (h : isK S a kd) (hkd : kd < 8) (hq : (wl G S)[q]? = some (a, cel G S a)) (ht : (lay kd)[k]? = some 0) : (wl G S).set q (a, .inr (kd, (slv S a 0 (lay kd)).set k (.int v))) = wl G (sI S a k v) :=
  wl_set hD h.1 hq rfl (by rw [cel_o (show mK (sI S a k v) a = kd from h.2) hkd, slv_put (S := S) (S' := sI S a k v) (a := a) (k := k) (v := .int v) (t := 0) sl1_sI (congrArg Value.int (up2_eq (f := mI S) (a := a) (k := k) (v := v))) (lay kd) 0 k (Nat.zero_add k) ht]) (fun b hb => cel_same (sI_same hb))
theorem put_J {A : Nat → Prop} {G : GT} {S : Mem} {a k kd q : Nat} {v : Int64} (hD : va_D A (wl G S)) (h : isK S a kd) (hkd : kd < 8) (hq : (wl G S)[q]? = some (a, cel G S a)) (ht : (lay kd)[k]? = some 1) : (wl G S).set q (a, .inr (kd, (slv S a 0 (lay kd)).set k (.long v))) = wl G (sJ S a k v) :=
  wl_set hD h.1 hq rfl (by rw [cel_o (show mK (sJ S a k v) a = kd from h.2) hkd, slv_put (S := S) (S' := sJ S a k v) (a := a) (k := k) (v := .long v) (t := 1) sl1_sJ (congrArg Value.long (up2_eq (f := mJ S) (a := a) (k := k) (v := v))) (lay kd) 0 k (Nat.zero_add k) ht]) (fun b hb => cel_same (sJ_same hb))
theorem put_R {A : Nat → Prop} {G : GT} {S : Mem} {a k kd q : Nat} {v : Option Nat} (hD : va_D A (wl G S)) (h : isK S a kd) (hkd : kd < 8) (hq : (wl G S)[q]? = some (a, cel G S a)) (ht : (lay kd)[k]? = some 2) : (wl G S).set q (a, .inr (kd, (slv S a 0 (lay kd)).set k (va_rf v))) = wl G (sR S a k v) :=
  wl_set hD h.1 hq rfl (by rw [cel_o (show mK (sR S a k v) a = kd from h.2) hkd, slv_put (S := S) (S' := sR S a k v) (a := a) (k := k) (v := va_rf v) (t := 2) sl1_sR (congrArg va_rf (up2_eq (f := mR S) (a := a) (k := k) (v := v))) (lay kd) 0 k (Nat.zero_add k) ht]) (fun b hb => cel_same (sR_same hb))
theorem put_aI {A : Nat → Prop} {G : GT} {S : Mem} {a k kd q : Nat} {v : Int32} (hD : va_D A (wl G S)) (h : isK S a kd) (hkd : kd = 8 ∨ kd = 9) (hq : (wl G S)[q]? = some (a, cel G S a)) : (wl G S).set q (a, .inl (G.2 kd, mN S a, .inl (upd (mI S a) k v))) = wl G (sI S a k v) :=
  wl_set hD h.1 hq rfl (by
    have e : mI (sI S a k v) a = upd (mI S a) k v := up2_at
    rcases hkd with rfl | rfl
    · rw [cel_a (show mK (sI S a k v) a = 8 from h.2) (by decide)]; show _ = (Sum.inl (G.2 8, mN S a, Sum.inl (upd (mI S a) k v)) : va_E); rw [← e]; rfl
    · rw [cel_a (show mK (sI S a k v) a = 9 from h.2) (by decide)]; show _ = (Sum.inl (G.2 9, mN S a, Sum.inl (upd (mI S a) k v)) : va_E); rw [← e]; rfl) (fun b hb => cel_same (sI_same hb))
theorem put_aR {A : Nat → Prop} {G : GT} {S : Mem} {a k kd q : Nat} {v : Option Nat} (hD : va_D A (wl G S)) (h : isK S a kd) (hkd : kd = 10 ∨ kd = 11) (hq : (wl G S)[q]? = some (a, cel G S a)) : (wl G S).set q (a, .inl (G.2 kd, mN S a, .inr (.inr (.inr (.inr (va_up (mR S a) k v)))))) = wl G (sR S a k v) :=
  wl_set hD h.1 hq rfl (by
    have e : mR (sR S a k v) a = va_up (mR S a) k v := up2_at
    rcases hkd with rfl | rfl
    · rw [cel_a (show mK (sR S a k v) a = 10 from h.2) (by decide), ← e]; rfl
    · rw [cel_a (show mK (sR S a k v) a = 11 from h.2) (by decide), ← e]; rfl) (fun b hb => cel_same (sR_same hb))
theorem nil_I {G : GT} {S : Mem} {a kd n : Nat} (hkd : kd < 8) : cel G (nA S a kd n) a = .inr (kd, slv (nA S a kd n) a 0 (lay kd)) := cel_o (by show va_up (mK S) a kd a = kd; simp [va_up]) hkd
/-- a new cell at the end -/
theorem wl_new {G : GT} {S : Mem} {a kd n : Nat} {e : va_E} (ha : a ∉ mL S) (he : cel G (nA S a kd n) a = e) : wl G S ++ [(a, e)] = wl G (nA S a kd n) := by
  show va_pl (mL S) (cel G S) ++ [(a, e)] = va_pl (mL S ++ [a]) (cel G (nA S a kd n))
  rw [va_pl_push ha]
  refine va_pl_congr fun b => ?_
  by_cases q : b = a
  · rw [q, he]; simp [va_up]
  · rw [va_up_ne _ _ q]; exact (cel_same (nA_same q)).symm
theorem wl_fresh {A : Nat → Prop} {G : GT} {S : Mem} {a : Nat} {e : va_E} (hD : va_D A (wl G S ++ [(a, e)])) : a ∉ mL S := by
  intro h
  obtain ⟨k, hk⟩ := wl_at (G := G) h
  have hlt : k < (wl G S).length := (List.getElem?_eq_some_iff.mp hk).1
  have h1 : (wl G S ++ [(a, e)])[k]? = some (a, cel G S a) := by rw [List.getElem?_append_left hlt]; exact hk
  have h2 : (wl G S ++ [(a, e)])[(wl G S).length]? = some (a, e) := by rw [List.getElem?_append_right (Nat.le_refl _)]; simp
  have h3 := hD.1 _ _ _ _ h1 h2 rfl
  omega
/-- new int[n][m], with n = 3: the outer array at q, its rows at a, b, c -/
def nM (S : Mem) (q a b c m : Nat) : Mem := (q :: (mL S ++ [a, b, c]), va_up (va_up (va_up (va_up (mK S) q 12) a 8) b 8) c 8, va_up (va_up (va_up (va_up (mI S) q (fun _ => 0)) a (fun _ => 0)) b (fun _ => 0)) c (fun _ => 0), va_up (va_up (va_up (va_up (mJ S) q (fun _ => 0)) a (fun _ => 0)) b (fun _ => 0)) c (fun _ => 0), va_up (va_up (va_up (va_up (mR S) q (fun k => if k = 0 then some a else if k = 1 then some b else if k = 2 then some c else none)) a (fun _ => none)) b (fun _ => none)) c (fun _ => none), va_up (va_up (va_up (va_up (mN S) q 3) a m) b m) c m, va_up (va_up (va_up (va_up (mD S) q (fun _ => 0)) a (fun _ => 0)) b (fun _ => 0)) c (fun _ => 0))
theorem nM_same {S : Mem} {q a b c m x : Nat} (h1 : x ≠ q) (h2 : x ≠ a) (h3 : x ≠ b) (h4 : x ≠ c) : mSame S (nM S q a b c m) x := by
  have e : ∀ {α : Type} (f : Nat → α) (u v w y : α), va_up (va_up (va_up (va_up f q u) a v) b w) c y x = f x := fun f u v w y => by
    rw [va_up_ne _ _ h4, va_up_ne _ _ h3, va_up_ne _ _ h2, va_up_ne _ _ h1]
  exact ⟨e _ _ _ _ _, e _ _ _ _ _, e _ _ _ _ _, e _ _ _ _ _, e _ _ _ _ _, e _ _ _ _ _⟩
