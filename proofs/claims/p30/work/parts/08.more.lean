section RA
variable {p : Program} {l : Launch} {e : Env} {R : Room} {s : State} {m : MethodId} {args : Array Value} {below : List Frame} {meth : Method} {c : Code} {H : Heap} {locs : List Loc} {cells slots : Nat} {Q : State → Prop}
variable {cc : ByteArray} {nL : Nat} {own : String} {G : GT} {A : Nat → Prop} {S : Mem} {pc : Nat} {ls : Array Slot} {rest st0 : List Value} {mc ms : Nat} {rm : Room} {y : MethodName} {bytes : ByteArray} {maxL index n : Nat} {ret : Option FieldType} {ws : List Cond}
variable {α : Type} {emb : α → Option Value} {post : α → Mem → Prop} {postX : Nat → Mem → Prop} {As : List Value}
def dfl : List Nat → List Value
  | [] => []
  | 0 :: ts => .int 0 :: dfl ts
  | 1 :: ts => .long 0 :: dfl ts
  | _ :: ts => .null :: dfl ts
theorem slv_new (S : Mem) (a kd n : Nat) : ∀ (L : List Nat) (i : Nat), slv (nA S a kd n) a i L = dfl L
  | [], _ => rfl
  | t :: ts, i => by
    have h1 : mI (nA S a kd n) a = fun _ => 0 := by show va_up (mI S) a _ a = _; simp [va_up]
    have h2 : mJ (nA S a kd n) a = fun _ => 0 := by show va_up (mJ S) a _ a = _; simp [va_up]
    have h3 : mR (nA S a kd n) a = fun _ => none := by show va_up (mR S) a _ a = _; simp [va_up]
    show sl1 (nA S a kd n) a i t :: slv (nA S a kd n) a (i + 1) ts = dfl (t :: ts)
    rw [slv_new S a kd n ts (i + 1)]
    match t with
    | 0 => show Value.int (mI (nA S a kd n) a i) :: _ = _; rw [h1]; rfl
    | 1 => show Value.long (mJ (nA S a kd n) a i) :: _ = _; rw [h2]; rfl
    | _ + 2 => show va_rf (mR (nA S a kd n) a i) :: _ = _; rw [h3]; rfl
theorem nA_kind {S : Mem} {a kd n : Nat} : isK (nA S a kd n) a kd := ⟨List.mem_append_right _ (List.mem_singleton.mpr rfl), by show va_up (mK S) a kd a = kd; simp [va_up]⟩
theorem nA_keep {S : Mem} {a b kd kb n : Nat} (hb : isK S b kb) (ha : a ∉ mL S) : isK (nA S a kd n) b kb := ⟨List.mem_append_left _ hb.1, by
  have h : b ≠ a := fun e => ha (e ▸ hb.1)
  show va_up (mK S) a kd b = kb
  rw [va_up_ne _ _ h]; exact hb.2⟩
/-- new objects and arrays -/
theorem r_new (X : Cx p s m args meth c cc nL own G A) (h : Hx G A s.heap H locs S) (kd : Nat) {C : String} {T : u_T} {N ix : Nat} (hkd : kd < 8) (hc : vcl[kd]? = some (C, T, N)) (hin : ∀ w ∈ u_ws C T N, w ∈ lwA) (ty0 : Nat → FieldType) (hty : ∀ k, k < N → parseFieldDescriptor (T k).2.2.1 = some (ty0 k)) (hl : Cond.classLink own ix C ∈ lwA) (hi : Cond.instantiable C N ∈ lwA) (hini : Cond.initialized C ∈ lwA) (hfs : ∀ j, j < N → defaultValue (ty0 j) = vp_V (dfl (lay kd)) j) (hf : cells + 1 ≤ R.cells ∧ slots + N ≤ R.slots) (d : decode cc pc = .ok (.new ix, 3))
    (kk : ∀ (q : Nat) (H1 : Heap), q ∉ mL S → Hx G A s.heap H1 locs (nA S q kd 0) → W p l e R s m args below meth c H1 locs (cells + 1) (slots + N) Q (F0 m (pc + 3) ls (.ref q :: rest))) : W p l e R s m args below meth c H locs cells slots Q (F0 m pc ls rest) :=
  va_new X.1 X.2.1 X.2.2.2.2.1 hin ty0 hty X.2.2.2.1 (X.hts hl) (X.hts hi) (X.hts hini) X.2.2.2.2.2.1 h.1 h.2.1 h.2.2 X.2.2.2.2.2.2.2.1 hc (fs := dfl (lay kd)) hfs hf.1 hf.2 d (fun q H1 hP hD hS => by
    have hq : q ∉ mL S := wl_fresh hD
    have e9 := wl_new (G := G) (S := S) (a := q) (kd := kd) (n := 0) hq ((nil_I hkd).trans (by rw [slv_new]))
    exact kk q H1 hq ⟨e9 ▸ hP, e9 ▸ hD, hS⟩)
theorem ka_eq (X : Cx p s m args meth c cc nL own G A) {k : Nat} {ty : FieldType} {cA cB : ClassId} (hk : (tys G)[k]? = some (cB, ty)) (h : va_K G.1 vcl (tys G ++ [(cA, ty)]) s) : cA = cB := by
  have h1 := (X.2.2.2.2.2.1.2 k (cB, ty) hk).2
  have h2 := (h.2 5 (cA, ty) rfl).2
  cases ty with
  | object C =>
    obtain ⟨-, -, -, -, -, h3⟩ := h1
    obtain ⟨-, -, -, -, -, h4⟩ := h2
    exact Option.some.inj (h4.symm.trans h3)
  | _ => exact Option.some.inj (h2.symm.trans h1)
theorem r_newI (X : Cx p s m args meth c cc nL own G A) (h : Hx G A s.heap H locs S) (N : Nat) (harr : Cond.arrayClass .int ∈ lwA) (hN : N < 2 ^ 20) (hf : cells + 1 ≤ R.cells ∧ slots + N ≤ R.slots) (d : decode cc pc = .ok (.newarray .int, 2))
    (kk : ∀ (q : Nat) (H1 : Heap), q ∉ mL S → Hx G A s.heap H1 locs (nA S q 8 N) → W p l e R s m args below meth c H1 locs (cells + 1) (slots + N) Q (F0 m (pc + 2) ls (.ref q :: rest))) : W p l e R s m args below meth c H locs cells slots Q (F0 m pc ls (.int (nI N) :: rest)) :=
  va_newa (atype := .int) X.1 X.2.1 (X.hts harr) (ty := .int) rfl X.2.2.2.2.2.1 h.1 h.2.1 h.2.2 X.2.2.2.2.2.2.2.1 (a0 := (N, .inl (fun _ => 0))) (N' := N) (fun cA => rfl) (nI_pos (by omega)) (nI_clamp (by omega)) (by show N * 4 ≤ _; omega) hf.1 hf.2 d (fun q cA H1 hK hP hD hS => by
    have hq : q ∉ mL S := wl_fresh hD
    have e0 := ka_eq X (k := 0) rfl hK
    subst e0
    have e9 := wl_new (G := G) (S := S) (a := q) (kd := 8) (n := N) (e := .inl (G.2 8, N, .inl (fun _ => 0))) hq (by
      rw [cel_a (nA_kind).2 (by decide)]
      show (Sum.inl (G.2 8, mN (nA S q 8 N) q, Sum.inl (mI (nA S q 8 N) q)) : va_E) = _
      have h1 : mI (nA S q 8 N) q = fun _ => 0 := by show va_up (mI S) q _ q = _; simp [va_up]
      have h2 : mN (nA S q 8 N) q = N := by show va_up (mN S) q _ q = _; simp [va_up]
      rw [h1, h2])
    exact kk q H1 hq ⟨e9 ▸ hP, e9 ▸ hD, hS⟩)
theorem r_newC (X : Cx p s m args meth c cc nL own G A) (h : Hx G A s.heap H locs S) (N : Nat) (harr : Cond.arrayClass .char ∈ lwA) (hN : N < 2 ^ 20) (hf : cells + 1 ≤ R.cells ∧ slots + N ≤ R.slots) (d : decode cc pc = .ok (.newarray .char, 2))
    (kk : ∀ (q : Nat) (H1 : Heap), q ∉ mL S → Hx G A s.heap H1 locs (nA S q 9 N) → W p l e R s m args below meth c H1 locs (cells + 1) (slots + N) Q (F0 m (pc + 2) ls (.ref q :: rest))) : W p l e R s m args below meth c H locs cells slots Q (F0 m pc ls (.int (nI N) :: rest)) :=
  va_newa (atype := .char) X.1 X.2.1 (X.hts harr) (ty := .char) rfl X.2.2.2.2.2.1 h.1 h.2.1 h.2.2 X.2.2.2.2.2.2.2.1 (a0 := (N, .inl (fun _ => 0))) (N' := N) (fun cA => rfl) (nI_pos (by omega)) (nI_clamp (by omega)) (by show N * 2 ≤ _; omega) hf.1 hf.2 d (fun q cA H1 hK hP hD hS => by
    have hq : q ∉ mL S := wl_fresh hD
    have e0 := ka_eq X (k := 1) rfl hK
    subst e0
    have e9 := wl_new (G := G) (S := S) (a := q) (kd := 9) (n := N) (e := .inl (G.2 9, N, .inl (fun _ => 0))) hq (by
      rw [cel_a (nA_kind).2 (by decide)]
      show (Sum.inl (G.2 9, mN (nA S q 9 N) q, Sum.inl (mI (nA S q 9 N) q)) : va_E) = _
      have h1 : mI (nA S q 9 N) q = fun _ => 0 := by show va_up (mI S) q _ q = _; simp [va_up]
      have h2 : mN (nA S q 9 N) q = N := by show va_up (mN S) q _ q = _; simp [va_up]
      rw [h1, h2])
    exact kk q H1 hq ⟨e9 ▸ hP, e9 ▸ hD, hS⟩)
theorem r_newJob (X : Cx p s m args meth c cc nL own G A) (h : Hx G A s.heap H locs S) (N : Nat) {ix : Nat} (hl : Cond.classLink own ix RX1 ∈ lwA) (hN : N < 2 ^ 20) (hf : cells + 1 ≤ R.cells ∧ slots + N ≤ R.slots) (d : decode cc pc = .ok (.anewarray ix, 3))
    (kk : ∀ (q : Nat) (H1 : Heap), q ∉ mL S → Hx G A s.heap H1 locs (nA S q 10 N) → W p l e R s m args below meth c H1 locs (cells + 1) (slots + N) Q (F0 m (pc + 3) ls (.ref q :: rest))) : W p l e R s m args below meth c H locs cells slots Q (F0 m pc ls (.int (nI N) :: rest)) :=
  va_newq X.1 X.2.1 X.2.2.2.1 (X.hts hl) X.2.2.2.2.2.2.1.2.2.2.2.2.1 X.2.2.2.2.2.1 h.1 h.2.1 h.2.2 X.2.2.2.2.2.2.2.1 (N' := N) (nI_pos (by omega)) (nI_clamp (by omega)) (by omega) hf.1 hf.2 d (fun q cA H1 hK hP hD hS => by
    have hq : q ∉ mL S := wl_fresh hD
    have e0 := ka_eq X (k := 2) rfl hK
    subst e0
    have e9 := wl_new (G := G) (S := S) (a := q) (kd := 10) (n := N) (e := .inl (G.2 10, N, .inr (.inr (.inr (.inr (fun _ => none)))))) hq (by
      rw [cel_a (nA_kind).2 (by decide)]
      show (Sum.inl (G.2 10, mN (nA S q 10 N) q, Sum.inr (Sum.inr (Sum.inr (Sum.inr (mR (nA S q 10 N) q))))) : va_E) = _
      have h1 : mR (nA S q 10 N) q = fun _ => none := by show va_up (mR S) q _ q = _; simp [va_up]
      have h2 : mN (nA S q 10 N) q = N := by show va_up (mN S) q _ q = _; simp [va_up]
      rw [h1, h2])
    exact kk q H1 hq ⟨e9 ▸ hP, e9 ▸ hD, hS⟩)
theorem r_newLot (X : Cx p s m args meth c cc nL own G A) (h : Hx G A s.heap H locs S) (N : Nat) {ix : Nat} (hl : Cond.classLink own ix RX2 ∈ lwA) (hN : N < 2 ^ 20) (hf : cells + 1 ≤ R.cells ∧ slots + N ≤ R.slots) (d : decode cc pc = .ok (.anewarray ix, 3))
    (kk : ∀ (q : Nat) (H1 : Heap), q ∉ mL S → Hx G A s.heap H1 locs (nA S q 11 N) → W p l e R s m args below meth c H1 locs (cells + 1) (slots + N) Q (F0 m (pc + 3) ls (.ref q :: rest))) : W p l e R s m args below meth c H locs cells slots Q (F0 m pc ls (.int (nI N) :: rest)) :=
  va_newq X.1 X.2.1 X.2.2.2.1 (X.hts hl) X.2.2.2.2.2.2.1.2.2.2.2.2.2 X.2.2.2.2.2.1 h.1 h.2.1 h.2.2 X.2.2.2.2.2.2.2.1 (N' := N) (nI_pos (by omega)) (nI_clamp (by omega)) (by omega) hf.1 hf.2 d (fun q cA H1 hK hP hD hS => by
    have hq : q ∉ mL S := wl_fresh hD
    have e0 := ka_eq X (k := 3) rfl hK
    subst e0
    have e9 := wl_new (G := G) (S := S) (a := q) (kd := 11) (n := N) (e := .inl (G.2 11, N, .inr (.inr (.inr (.inr (fun _ => none)))))) hq (by
      rw [cel_a (nA_kind).2 (by decide)]
      show (Sum.inl (G.2 11, mN (nA S q 11 N) q, Sum.inr (Sum.inr (Sum.inr (Sum.inr (mR (nA S q 11 N) q))))) : va_E) = _
      have h1 : mR (nA S q 11 N) q = fun _ => none := by show va_up (mR S) q _ q = _; simp [va_up]
      have h2 : mN (nA S q 11 N) q = N := by show va_up (mN S) q _ q = _; simp [va_up]
      rw [h1, h2])
    exact kk q H1 hq ⟨e9 ▸ hP, e9 ▸ hD, hS⟩)
theorem r_astJob (X : Cx p s m args meth c cc nL own G A) (h : Hx G A s.heap H locs S) {a v : Nat} (hk : isK S a 10) (hv : isK S v 1) {i : Int32} (hi : vp_in i (mN S a)) (d : decode cc pc = .ok (.aastore, 1))
    (kk : ∀ (H1 : Heap) (locs1 : List Loc), Hx G A s.heap H1 locs1 (sR S a i.toNatClampNeg (some v)) → W p l e R s m args below meth c H1 locs1 cells slots Q (F0 m (pc + 1) ls rest)) : W p l e R s m args below meth c H locs cells slots Q (F0 m pc ls (.ref v :: .int i :: .ref a :: rest)) := by
  obtain ⟨q, hq⟩ := wl_at (G := G) hk.1
  obtain ⟨qv, hqv⟩ := wl_at (G := G) hv.1
  have e9 := put_aR (v := some v) (k := i.toNatClampNeg) h.2.1 hk (Or.inl rfl) hq
  rw [cel_a hk.2 (by decide)] at hq
  rw [cel_o hv.2 (by decide)] at hqv
  refine va_astq X.1 X.2.1 X.2.2.2.2.2.1 h.1 h.2.1 h.2.2 q 2 qv 1 (r := (RX1, TX1, 4)) hq rfl hqv rfl hi d (fun H1 locs1 hP hD hS => ?_)
  exact kk H1 locs1 ⟨e9 ▸ hP, e9 ▸ hD, hS⟩
theorem r_astLot (X : Cx p s m args meth c cc nL own G A) (h : Hx G A s.heap H locs S) {a v : Nat} (hk : isK S a 11) (hv : isK S v 2) {i : Int32} (hi : vp_in i (mN S a)) (d : decode cc pc = .ok (.aastore, 1))
    (kk : ∀ (H1 : Heap) (locs1 : List Loc), Hx G A s.heap H1 locs1 (sR S a i.toNatClampNeg (some v)) → W p l e R s m args below meth c H1 locs1 cells slots Q (F0 m (pc + 1) ls rest)) : W p l e R s m args below meth c H locs cells slots Q (F0 m pc ls (.ref v :: .int i :: .ref a :: rest)) := by
  obtain ⟨q, hq⟩ := wl_at (G := G) hk.1
  obtain ⟨qv, hqv⟩ := wl_at (G := G) hv.1
  have e9 := put_aR (v := some v) (k := i.toNatClampNeg) h.2.1 hk (Or.inr rfl) hq
  rw [cel_a hk.2 (by decide)] at hq
  rw [cel_o hv.2 (by decide)] at hqv
  refine va_astq X.1 X.2.1 X.2.2.2.2.2.1 h.1 h.2.1 h.2.2 q 3 qv 2 (r := (RX2, TX2, 5)) hq rfl hqv rfl hi d (fun H1 locs1 hP hD hS => ?_)
  exact kk H1 locs1 ⟨e9 ▸ hP, e9 ▸ hD, hS⟩
/-- Math.min, Math.max -/
theorem r_min (X : Cx p s m args meth c cc nL own G A) (hls : ls.size = nL) (h1 : Cond.methodLink own index Lib.Math.min.name ∈ lwA) (h2 : Cond.static Lib.Math.min.name ∈ lwA) (h3 : Cond.initialized "java/lang/Math" ∈ lwA) (h4 : Cond.code Lib.Math.min.name Lib.Math.min.code 2 (some .int) ∈ lwA) (hR : 1 ≤ R.frames ∧ (rest.map fun v => v.category).sum + 13 ≤ R.locals) (hf : cells ≤ R.cells ∧ slots ≤ R.slots) {x y : Int32} (d : decode cc pc = .ok (.invokestatic index, 3))
    (kk : W p l e R s m args below meth c H locs cells slots Q (F0 m (pc + 3) ls (.int (if y < x then y else x) :: rest))) : W p l e R s m args below meth c H locs cells slots Q (F0 m pc ls (.int y :: .int x :: rest)) :=
  va_mmin X.1 X.2.1 (X.2.2.1.trans hls.symm) X.2.2.2.1 (X.hts h1) (X.hts h2) (X.hts h3) (X.hts h4) hR.1 hR.2 hf.1 hf.2 d kk
theorem r_max (X : Cx p s m args meth c cc nL own G A) (hls : ls.size = nL) (h1 : Cond.methodLink own index Lib.Math.max.name ∈ lwA) (h2 : Cond.static Lib.Math.max.name ∈ lwA) (h3 : Cond.initialized "java/lang/Math" ∈ lwA) (h4 : Cond.code Lib.Math.max.name Lib.Math.max.code 2 (some .int) ∈ lwA) (hR : 1 ≤ R.frames ∧ (rest.map fun v => v.category).sum + 13 ≤ R.locals) (hf : cells ≤ R.cells ∧ slots ≤ R.slots) {x y : Int32} (d : decode cc pc = .ok (.invokestatic index, 3))
    (kk : W p l e R s m args below meth c H locs cells slots Q (F0 m (pc + 3) ls (.int (if x < y then y else x) :: rest))) : W p l e R s m args below meth c H locs cells slots Q (F0 m pc ls (.int y :: .int x :: rest)) :=
  va_mmax X.1 X.2.1 (X.2.2.1.trans hls.symm) X.2.2.2.1 (X.hts h1) (X.hts h2) (X.hts h3) (X.hts h4) hR.1 hR.2 hf.1 hf.2 d kk
/-- the rest of a constructor's call of Object's -/
theorem r_obj (X : Cx p s m args meth c cc nL own G A) (hls : ls.size = nL) (h1 : Cond.methodLink own index Lib.objectInit ∈ lwA) (h2 : Cond.instanceMethod Lib.objectInit ∈ lwA) (h3 : Cond.code Lib.objectInit ⟨#[0xb1]⟩ 1 none ∈ lwA) {a : Nat} (hR : 1 ≤ R.frames ∧ (rest.map fun v => v.category).sum + 12 ≤ R.locals) (hf : cells ≤ R.cells ∧ slots ≤ R.slots) (d : decode cc pc = .ok (.invokespecial index, 3))
    (kk : W p l e R s m args below meth c H locs cells slots Q (F0 m (pc + 3) ls rest)) : W p l e R s m args below meth c H locs cells slots Q (F0 m pc ls (.ref a :: rest)) :=
  W.objInit (own := own) (idx := index) (g := F0 m pc ls (.ref a :: rest)) (a := a) (rest := rest) X.1 X.2.1 X.2.2.2.1 (X.hts h1) (X.hts h2) (X.hts h3) rfl (hls.trans X.2.2.1.symm) rfl d hR.1 (show 2 * 0 + (rest.map fun v => v.category).sum + 12 ≤ R.locals by omega) kk
/-- ends -/
theorem en_r {post : Option Nat → Mem → Prop} (X : Cx p s m args meth c cc nL own G A) (h : Hx G A s.heap H locs S) {r : Option Nat} {v : Value} (hv : va_rf r = v) {C : String} (hr : meth.sig.returnType = some (.object C)) (hw : post r S) (hc : cells ≤ mc) (hs : slots ≤ ms) (d : decode cc pc = .ok (.areturn, 1)) : W p l e R s m args below meth c H locs cells slots (MQ below (QN emR post G A) args s mc ms A) (F0 m pc ls [v]) := by
  subst hv
  exact W.widen hc hs (W.aret X.1 X.2.1 hr (Or.inl ⟨_, rfl⟩) (by cases r with | none => exact Or.inl rfl | some a => exact Or.inr ⟨a, rfl⟩) (en_q X h r hw) h.2.2.2.2 d X.2.2.2.2.2.2.2.2)
theorem en_f {post : UInt32 → Mem → Prop} (X : Cx p s m args meth c cc nL own G A) (h : Hx G A s.heap H locs S) {v : UInt32} (hr : meth.sig.returnType = some .float) (hw : post v S) (hc : cells ≤ mc) (hs : slots ≤ ms) (d : decode cc pc = .ok (.freturn, 1)) : W p l e R s m args below meth c H locs cells slots (MQ below (QN emF post G A) args s mc ms A) (F0 m pc ls [.float v]) :=
  W.widen hc hs (W.fret X.1 X.2.1 hr (en_q X h v hw) h.2.2.2.2 d X.2.2.2.2.2.2.2.2)
theorem en_d {post : UInt64 → Mem → Prop} (X : Cx p s m args meth c cc nL own G A) (h : Hx G A s.heap H locs S) {v : UInt64} (hr : meth.sig.returnType = some .double) (hw : post v S) (hc : cells ≤ mc) (hs : slots ≤ ms) (d : decode cc pc = .ok (.dreturn, 1)) : W p l e R s m args below meth c H locs cells slots (MQ below (QN emD post G A) args s mc ms A) (F0 m pc ls [.double v]) :=
  W.widen hc hs (W.dret X.1 X.2.1 hr (en_q X h v hw) h.2.2.2.2 d X.2.2.2.2.2.2.2.2)
/-- throw new X(text) -/
abbrev xnm : List String := ["java/lang/RuntimeException", "java/lang/Exception"]
def ThrowOk (own cls text : String) (ik is ic : Nat) : Prop := Bundle.fit cls = true ∧ Cond.classLink own ik cls ∈ lwA ∧ Cond.initialized cls ∈ lwA ∧ (own, is, text) ∈ strl ∧ (∀ w ∈ vx_atS own ic cls xnm, w ∈ lwA ∨ w ∈ nwl) ∧ (∀ w ∈ Cond.classLink own ik cls :: Cond.initialized cls :: vx_atS own ic cls xnm, vx_ot w = true)
theorem en_x {Qc : Array Value → State → Outcome → State → Prop} {text : String} {ik is ic : Nat} (k : Nat) (X : Cx p s m args meth c cc nL own G A) (h : Hx G A s.heap H locs S) (hl9 : l.stackTraces = false) (hok : ThrowOk own (xn k) text ik is ic) (hls : ls.size = nL) (hno : ∀ x ∈ c.exceptionTable.toList, False)
    (d0 : decode cc pc = .ok (.new ik, 3)) (d3 : decode cc (pc + 3) = .ok (.dup, 1)) (d4 : decode cc (pc + 4) = .ok (.ldc is, 2)) (d6 : decode cc (pc + 6) = .ok (.invokespecial ic, 3)) (d9 : decode cc (pc + 9) = .ok (.athrow, 1))
    (hR : 5 < R.frames ∧ (rest.map fun v => v.category).sum + 82 ≤ R.locals) (hf : cells + 1 ≤ R.cells ∧ slots + 6 ≤ R.slots) (hg : cells + 1 ≤ mc ∧ slots + 6 ≤ ms) (hw : postX k S) :
    W p l e R s m args below meth c H locs cells slots (vx_MQ below Qc (QX postX G A) args s mc ms A) (F0 m pc ls rest) := by
  obtain ⟨sa, hsa⟩ := X.2.2.2.2.2.2.1.2.2.2.1 _ hok.2.2.2.1
  exact vx_throwS (own := own) (cls := xn k) (names := xnm) X.1 X.2.1 hl9 X.2.2.2.1 hok.1 (by decide +kernel) (X.hts hok.2.1) (X.hts hok.2.2.1) hsa (fun w hw => (hok.2.2.2.2.1 w hw).elim X.hts X.nwu) hok.2.2.2.2.2 X.2.2.2.2.2.2.1.2.1 X.2.2.2.2.2.2.1.2.2.1 h.2.2 (hls.trans X.2.2.1.symm) d0 d3 d4 d6 d9 (fun x hx => (hno x hx).elim) hR.1 hR.2 hf.1 hf.2 X.2.2.2.2.2.2.2.2
    (fun t ha hsz hk => ⟨k, S, rfl, hw, ⟨h.1.kept (fun k q hq => hk q.1 (h.1 k q hq).lt), va_K.moved ha X.2.2.2.2.2.1, h.2.1⟩, Nat.le_trans h.2.2.1 hsz, fun q h1 h2 => (hk q (Nat.lt_of_lt_of_le h1 h.2.2.1)).trans (h.2.2.2.1 q h1 h2)⟩) h.2.2.2.2 hg.1 hg.2
theorem en_xW {Qc : Array Value → State → Outcome → State → Prop} {text : String} {ik is ic : Nat} (k : Nat) (X : Cx p s m args meth c cc nL own G A) (h : Hx G A s.heap H locs S) (hl9 : l.stackTraces = false) (hok : ThrowOk own (xn k) text ik is ic) (hls : ls.size = nL) (hno : ∀ x ∈ c.exceptionTable.toList, False)
    (d0 : decode cc pc = .ok (.new ik, 3)) (d3 : decode cc (pc + 3) = .ok (.dup, 1)) (d4 : decode cc (pc + 4) = .ok (.ldc_w is, 3)) (d6 : decode cc (pc + 7) = .ok (.invokespecial ic, 3)) (d9 : decode cc (pc + 10) = .ok (.athrow, 1))
    (hR : 5 < R.frames ∧ (rest.map fun v => v.category).sum + 82 ≤ R.locals) (hf : cells + 1 ≤ R.cells ∧ slots + 6 ≤ R.slots) (hg : cells + 1 ≤ mc ∧ slots + 6 ≤ ms) (hw : postX k S) :
    W p l e R s m args below meth c H locs cells slots (vx_MQ below Qc (QX postX G A) args s mc ms A) (F0 m pc ls rest) := by
  obtain ⟨sa, hsa⟩ := X.2.2.2.2.2.2.1.2.2.2.1 _ hok.2.2.2.1
  exact vx_throwSW (own := own) (cls := xn k) (names := xnm) X.1 X.2.1 hl9 X.2.2.2.1 hok.1 (by decide +kernel) (X.hts hok.2.1) (X.hts hok.2.2.1) hsa (fun w hw => (hok.2.2.2.2.1 w hw).elim X.hts X.nwu) hok.2.2.2.2.2 X.2.2.2.2.2.2.1.2.1 X.2.2.2.2.2.2.1.2.2.1 h.2.2 (hls.trans X.2.2.1.symm) d0 d3 d4 d6 d9 (fun x hx => (hno x hx).elim) hR.1 hR.2 hf.1 hf.2 X.2.2.2.2.2.2.2.2
    (fun t ha hsz hk => ⟨k, S, rfl, hw, ⟨h.1.kept (fun k q hq => hk q.1 (h.1 k q hq).lt), va_K.moved ha X.2.2.2.2.2.1, h.2.1⟩, Nat.le_trans h.2.2.1 hsz, fun q h1 h2 => (hk q (Nat.lt_of_lt_of_le h1 h.2.2.1)).trans (h.2.2.2.1 q h1 h2)⟩) h.2.2.2.2 hg.1 hg.2
end RA
/-! ===== how a method's walk begins ===== -/
theorem cn_open {α : Type} {emb : α → Option Value} {l : Launch} {y : MethodName} {rm : Room} {mc ms : Nat} {G : GT} {av : List Value} {S : Mem} {post : α → Mem → Prop} {cc : ByteArray} {maxL : Nat} {ret : Option FieldType} (own : String) (hO : y.cls = own) (hy : plainName y.cls = true) (hlen : (lg_sl av).length ≤ maxL)
    (body : ∀ (p : Program) (e : Env) (s : State) (m : MethodId) (args : Array Value) (below : List Frame) (meth : Method) (c : Code) (A : Nat → Prop), Cx p s m args meth c cc maxL own G A → Hx G A s.heap s.heap [] S → meth.sig.returnType = ret → meth.name = y.name → ∀ ls : Array Slot, lv_has ls maxL (lv_args 0 av) → W p l e rm s m args below meth c s.heap [] 0 0 (MQ below (QN emb post G A) args s mc ms A) (F0 m 0 ls [])) : CN emb l y (wsU y cc maxL ret) rm mc ms G av S post := by
  intro sz
  refine Met.ofW (cc := cc) (maxL := maxL) (ret := ret) hy rfl ?_
  intro p e s m args below meth c s₁ B hml hv
  obtain ⟨rfl, hsz, ⟨hP, hK, hD0⟩, hE⟩ := hv
  subst hsz
  have hts := atoms_spec (ws := wsU y cc maxL ret) B.pre
  have hX : Cx p s m av.toArray meth c cc maxL own G (va_A (wl G S) s.heap.size) := ⟨B.exec, B.bytes, hml, by rw [← hO]; exact findClass_of_methodNamed B.named, fun w h => hts w (List.mem_cons_of_mem _ h), hK, hE, fun q h => Or.inr h, B.notSynchronized⟩
  have hl := lv_entry av (n := maxL) hlen
  rw [lg_entry_eq]
  generalize (lg_sl av ++ List.replicate (maxL - (lg_sl av).length) Slot.unset).toArray = ls at hl ⊢
  exact body p e s m _ below meth c _ hX ⟨hP, hD0.self, va_S.rf⟩ B.returns (name_of_methodNamed B.named B.method).1 ls hl
theorem cx_open {α : Type} {emb : α → Option Value} {l : Launch} {y : MethodName} {rm : Room} {mc ms : Nat} {G : GT} {av : List Value} {S : Mem} {post : α → Mem → Prop} {postX : Nat → Mem → Prop} {cc : ByteArray} {maxL : Nat} {ret : Option FieldType} (own : String) (hO : y.cls = own) (hy : plainName y.cls = true) (hlen : (lg_sl av).length ≤ maxL)
    (body : ∀ (p : Program) (e : Env) (s : State) (m : MethodId) (args : Array Value) (below : List Frame) (meth : Method) (c : Code) (A : Nat → Prop), Cx p s m args meth c cc maxL own G A → Hx G A s.heap s.heap [] S → meth.sig.returnType = ret → (∀ x ∈ c.exceptionTable.toList, False) → ∀ ls : Array Slot, lv_has ls maxL (lv_args 0 av) → W p l e rm s m args below meth c s.heap [] 0 0 (vx_MQ below (QN emb post G A) (QX postX G A) args s mc ms A) (F0 m 0 ls [])) : CX emb l y (wsU y cc maxL ret) rm mc ms G av S post postX := by
  intro sz
  refine vx_ofW (cc := cc) (maxL := maxL) (ret := ret) hy rfl ?_
  intro p e s m args below meth c s₁ B hml hno hv
  obtain ⟨rfl, hsz, ⟨hP, hK, hD0⟩, hE⟩ := hv
  subst hsz
  have hts := atoms_spec (ws := wsU y cc maxL ret) B.pre
  have hX : Cx p s m av.toArray meth c cc maxL own G (va_A (wl G S) s.heap.size) := ⟨B.exec, B.bytes, hml, by rw [← hO]; exact findClass_of_methodNamed B.named, fun w h => hts w (List.mem_cons_of_mem _ h), hK, hE, fun q h => Or.inr h, B.notSynchronized⟩
  have hl := lv_entry av (n := maxL) hlen
  rw [lg_entry_eq]
  generalize (lg_sl av ++ List.replicate (maxL - (lg_sl av).length) Slot.unset).toArray = ls at hl ⊢
  exact body p e s m _ below meth c _ hX ⟨hP, hD0.self, va_S.rf⟩ B.returns hno ls hl
/-- a method with handlers, that lets nothing out -/
theorem ch_open {α : Type} {emb : α → Option Value} {l : Launch} {y : MethodName} {rm : Room} {mc ms : Nat} {G : GT} {av : List Value} {S : Mem} {post : α → Mem → Prop} {cc : ByteArray} {maxL : Nat} {ret : Option FieldType} {hh : List (Nat × Nat × Nat × Nat)} (own : String) (hO : y.cls = own) (hy : plainName y.cls = true) (hlen : (lg_sl av).length ≤ maxL)
    (body : ∀ (p : Program) (e : Env) (s : State) (m : MethodId) (args : Array Value) (below : List Frame) (meth : Method) (c : Code) (A : Nat → Prop), Cx p s m args meth c cc maxL own G A → Hx G A s.heap s.heap [] S → meth.sig.returnType = ret → c.exceptionTable.toList = tableOf hh → ∀ ls : Array Slot, lv_has ls maxL (lv_args 0 av) → W p l e rm s m args below meth c s.heap [] 0 0 (MQ below (QN emb post G A) args s mc ms A) (F0 m 0 ls [])) : CN emb l y (wsH y cc maxL ret hh) rm mc ms G av S post := by
  intro sz
  refine MetFree.of_bodyS (code := cc) (maxLocals := maxL) (ret := ret) hy ?_ ?_
  · intro args s m h hn
    obtain ⟨m9, meth, c, hn9, h1, h2, h3, h4, -, h5, h6, -⟩ := Cond.codeWith_spec (atoms_spec (ws := wsH y cc maxL ret hh) h _ List.mem_cons_self)
    cases hn.symm.trans hn9
    exact ⟨meth, c, h1, h2, h3, h4, h5, h6⟩
  · intro p e s m args below meth c s₁ B hml hP0 _
    have hh0 : s₁.heap = s.heap := by rw [B.state]; rfl
    obtain ⟨rfl, hsz, ⟨hP, hK, hD0⟩, hE⟩ := hP0
    subst hsz
    have hts := atoms_spec (ws := wsH y cc maxL ret hh) B.pre
    have hT := vx_table (x := y) B (hts _ List.mem_cons_self)
    have hX : Cx p s m av.toArray meth c cc maxL own G (va_A (wl G S) s.heap.size) := ⟨B.exec, B.bytes, hml, by rw [← hO]; exact findClass_of_methodNamed B.named, fun w h => hts w (List.mem_cons_of_mem _ h), hK, hE, fun q h => Or.inr h, B.notSynchronized⟩
    have hl := lv_entry av (n := maxL) hlen
    have hb := body p e s m av.toArray below meth c _ hX ⟨hP, hD0.self, va_S.rf⟩ B.returns hT _ hl
    rw [← lg_entry_eq] at hb
    obtain ⟨t, a1, o, b1, b2, b3⟩ := hb s₁ hh0 (Stand.of_body B)
    exact ⟨t, o, a1, b1, b2, b3⟩
