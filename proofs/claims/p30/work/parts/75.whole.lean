/-! ===== the law's entry: all that stands there, out of the Statement's words; new int[3][16] ===== -/
theorem arr_k {s : State} {args : Array Value} {ty : FieldType} (h : (Cond.arrayClass ty).before args s = true) (hn : ∀ C, ty ≠ .object C) : ∃ cA : ClassId, ArrOfT s cA ty ∧ va_RA s cA ty := by
  obtain ⟨c, k, comp, h1, h2, h3⟩ := Cond.arrayClass_spec h
  refine ⟨c, fun n z => ⟨(fun k9 h9 => by cases h9), k, h2, comp, h3⟩, ?_⟩
  cases ty with
  | object C => exact absurd rfl (hn C)
  | _ => exact h1
theorem arr_o {s : State} {args : Array Value} {C : String} (h : (Cond.arrayOver (.object C)).before args s = true) : ∃ cA : ClassId, ArrOfT s cA (.object C) ∧ va_RA s cA (.object C) := by
  obtain ⟨comp, c, k, h1, -, h2, h3, h4⟩ := Cond.arrayOver_spec h
  exact ⟨c, fun n z => ⟨(fun k9 h9 => by cases h9), k, h2, comp, h3⟩, k, comp, h2, h3, h1, h4⟩
theorem arr_a {s : State} {args : Array Value} (h : (Cond.arrayOver (.array .int)).before args s = true) : ∃ cA : ClassId, ArrOfT s cA (.array .int) ∧ va_RA s cA (.array .int) := by
  obtain ⟨comp, c, k, h1, -, h2, h3, h4⟩ := Stand.arrayOver_specB h
  exact ⟨c, fun n z => ⟨(fun k9 h9 => by cases h9), k, h2, comp, h3⟩, h4⟩
theorem ent_words {b : Nat} {s : State} (hts : ∀ w ∈ lw_tbl, w.before #[Value.ref b] s = true) : ∀ w ∈ lwA, w.before #[Value.ref b] s = true := fun w h => hts w (List.mem_filter.mp h).1
theorem ent_K {b : Nat} {s : State} (hts : ∀ w ∈ lw_tbl, w.before #[Value.ref b] s = true) : ∃ G : GT, va_K G.1 vcl (tys G) s := by
  have hA := ent_words hts
  obtain ⟨c0, i0, k0⟩ := u_known (n := 5) hA inX0 (hA _ (mA 41 (by decide +kernel) (by decide +kernel)))
  obtain ⟨c1, i1, k1⟩ := u_known (n := 4) hA inX1 (hA _ (mA 409 (by decide +kernel) (by decide +kernel)))
  obtain ⟨c2, i2, k2⟩ := u_known (n := 5) hA inX2 (hA _ (mA 621 (by decide +kernel) (by decide +kernel)))
  obtain ⟨c3, i3, k3⟩ := u_known (n := 4) hA inX3 (hA _ (mA 100 (by decide +kernel) (by decide +kernel)))
  obtain ⟨c4, i4, k4⟩ := u_known (n := 2) hA inX4 (hA _ (mA 86 (by decide +kernel) (by decide +kernel)))
  obtain ⟨c5, i5, k5⟩ := u_known (n := 3) hA inX5 (hA _ (mA 68 (by decide +kernel) (by decide +kernel)))
  obtain ⟨c6, i6, k6⟩ := u_known (n := 12) hA inX6 (hA _ (mA 33 (by decide +kernel) (by decide +kernel)))
  obtain ⟨a8, a8a, a8b⟩ := arr_k (ty := .int) (hA _ (mA 64 (by decide +kernel) (by decide +kernel))) (fun C h => by cases h)
  obtain ⟨a9, a9a, a9b⟩ := arr_k (ty := .char) (hA _ (mA 815 (by decide +kernel) (by decide +kernel))) (fun C h => by cases h)
  obtain ⟨b0, b0a, b0b⟩ := arr_o (C := RX1) (hts _ (List.mem_of_getElem? (i := 66) (by decide +kernel)))
  obtain ⟨b1, b1a, b1b⟩ := arr_o (C := RX2) (hts _ (List.mem_of_getElem? (i := 119) (by decide +kernel)))
  obtain ⟨b2, b2a, b2b⟩ := arr_a (hts _ (List.mem_of_getElem? (i := 814) (by decide +kernel)))
  refine ⟨((fun k => ([c0, c1, c2, c3, c4, c5, c6] : List ClassId).getD k c0, fun k => ([i0, i1, i2, i3, i4, i5, i6] : List (Nat → Nat)).getD k i0), fun k => ([a8, a9, b0, b1, b2] : List ClassId).getD (k - 8) a8), ?_, ?_⟩
  · intro k q hq
    match k, hq with
    | 0, hq => cases hq; exact k0
    | 1, hq => cases hq; exact k1
    | 2, hq => cases hq; exact k2
    | 3, hq => cases hq; exact k3
    | 4, hq => cases hq; exact k4
    | 5, hq => cases hq; exact k5
    | 6, hq => cases hq; exact k6
  · intro k q hq
    match k, hq with
    | 0, hq => cases hq; exact ⟨a8a, a8b⟩
    | 1, hq => cases hq; exact ⟨a9a, a9b⟩
    | 2, hq => cases hq; exact ⟨b0a, b0b⟩
    | 3, hq => cases hq; exact ⟨b1a, b1b⟩
    | 4, hq => cases hq; exact ⟨b2a, b2b⟩
theorem ent_str {b : Nat} {s : State} (hts : ∀ w ∈ lw_tbl, w.before #[Value.ref b] s = true) (hK : ∃ c, s.vm.findClass "BinderyDesk" = some c) : ∀ q ∈ strl, ∃ a, vk_R q.1 q.2.1 q.2.2 a s := by
  obtain ⟨cur, hcur⟩ := hK
  have h : ∀ q ∈ strl, q.1 = "BinderyDesk" ∧ Cond.stringRef q.1 q.2.1 q.2.2 ∈ lw_tbl := by decide +kernel
  intro q hq
  obtain ⟨h1, h2⟩ := h q hq
  obtain ⟨k, cf, i, a, -, -, -, -, -, hev⟩ := Cond.stringRef_spec (by rw [h1]; exact hcur) (hts _ h2)
  exact ⟨a, vk_R.of (hts _ h2) hev⟩
theorem ent_EV {b : Nat} {s : State} (hts : ∀ w ∈ lw_tbl, w.before #[Value.ref b] s = true) (hgv : (Jvm.Cond.and given_1 narrow_1).before #[Value.ref b] s = true) : EV (fun q : Nat => s.heap.size ≤ q) s s.heap := by
  have hs := flat_of_before _ hgv
  have hA := ent_words hts
  have hap : ∀ a : Nat, a < s.heap.size → ¬ (fun q : Nat => s.heap.size ≤ q) a := fun a h => Nat.not_le.mpr h
  refine ⟨fun w hw => va_Nw.of (nw_on (nw_form hw)) (hts w (List.mem_filter.mp hw).1), ?_, ?_, ent_str hts ?_, ?_, ?_, ?_⟩
  · exact vx_Zqof (hts _ (List.mem_of_getElem? (i := 211) (by decide +kernel))) (hA _ (mA 19 (by decide +kernel) (by decide +kernel))) (hs _ (by decide +kernel)) hap
  · exact vx_Zqof (hts _ (List.mem_of_getElem? (i := 213) (by decide +kernel))) (hA _ (mA 19 (by decide +kernel) (by decide +kernel))) (hs _ (by decide +kernel)) hap
  · obtain ⟨cC, iS, hk⟩ := u_known (n := 12) hA inX6 (hA _ (mA 33 (by decide +kernel) (by decide +kernel)))
    exact ⟨_, hk.2.1⟩
  · have h : ∀ q ∈ ncl, Cond.not (.castable q.1 q.2) ∈ flatC (Jvm.Cond.and given_1 narrow_1) := by decide +kernel
    exact fun q hq => va_Nc.of (hs _ (h q hq))
  · exact va_AO.of (hts _ (List.mem_of_getElem? (i := 66) (by decide +kernel)))
  · exact va_AO.of (hts _ (List.mem_of_getElem? (i := 119) (by decide +kernel)))
def vr_up {α : Type} (f : Nat → α) (l : List Nat) (v : α) : Nat → α := fun a => if a ∈ l then v else f a
theorem vr_up_in {α : Type} {f : Nat → α} {l : List Nat} {v : α} {a : Nat} (h : a ∈ l) : vr_up f l v a = v := if_pos h
theorem vr_up_ne {α : Type} {f : Nat → α} {l : List Nat} {v : α} {a : Nat} (h : a ∉ l) : vr_up f l v a = f a := if_neg h
theorem vr_rows {L l : List Nat} {f : Nat → va_E} {e : va_E} (h : ∀ a, a ∈ l → a ∉ L) : va_pl L f ++ l.map (fun a => (a, e)) = va_pl (L ++ l) (vr_up f l e) := by
  unfold va_pl
  rw [List.map_append]
  congr 1
  · apply List.map_congr_left
    intro a ha
    rw [vr_up_ne (fun q => h a q ha)]
  · apply List.map_congr_left
    intro a ha
    rw [vr_up_in ha]
theorem vr_lay {X rows : va_W} {x : Nat × va_E} {pl : va_W} {D : va_G} {cl : List vw_C} {H : Heap} (hP : va_P D cl (((X ++ pl) ++ [x]) ++ rows) H) : va_P D cl ((X ++ [x]) ++ (pl ++ rows)) H := by
  rw [List.append_assoc (X ++ pl)] at hP
  have h := va_P.swap hP
  rw [← List.append_assoc X] at h
  have h2 := va_P.swap h
  rw [List.append_assoc (X ++ [x])] at h2
  exact h2
theorem vr_layD {X rows : va_W} {x : Nat × va_E} {pl : va_W} {A : Nat → Prop} (hD : va_D A (((X ++ pl) ++ [x]) ++ rows)) : va_D A ((X ++ [x]) ++ (pl ++ rows)) := by
  rw [List.append_assoc (X ++ pl)] at hD
  have h := va_D.swap hD
  rw [← List.append_assoc X] at h
  have h2 := va_D.swap h
  rw [List.append_assoc (X ++ [x])] at h2
  exact h2
theorem vr_outer (c : ClassId) (N h0 : Nat) : ∀ i : Nat, Jvm.Free.Multi.outerC c N h0 i = arrV c N (fun j => va_rf (if j < i then some (h0 + 1 + j) else none))
  | 0 => by
    show ({ cls := c, slots := Array.replicate N .null, vm := .none } : Cell) = _
    rw [arrV_new]
    refine congrArg (arrV c N) (funext fun j => ?_)
    simp [va_rf]
  | i + 1 => by
    show (Jvm.Free.Multi.outerC c N h0 i).setSlot i (.ref (h0 + 1 + i)) = _
    rw [vr_outer c N h0 i, arrV_store]
    refine congrArg (arrV c N) (funext fun j => ?_)
    by_cases e : j = i
    · subst e
      simp [updV, va_rf]
    · by_cases h : j < i
      · simp [updV, e, h, Nat.lt_succ_of_lt h]
      · simp [updV, e, h, show ¬ j < i + 1 by omega]
section MNA
variable {p : Program} {l : Launch} {e : Env} {R : Room} {s : State} {m : MethodId} {args : Array Value} {below : List Frame} {meth : Method} {c : Code} {H : Heap} {locs : List Loc} {cells slots : Nat} {Q : State → Prop}
variable {cc : ByteArray} {nL : Nat} {own : String} {G : GT} {A : Nat → Prop} {S : Mem} {pc index : Nat} {ls : Array Slot} {rest : List Value}
theorem vr_inner (c : ClassId) : Jvm.Free.Multi.innerC c 16 (defaultValue .int) = vp_cell c (16, .inl (fun _ => 0)) := rfl
theorem nM_cel {q a b c : Nat} (f : MNf S q a b c) : (q, (.inl (G.2 12, 3, .inr (.inr (.inr (.inr (fun k => if k = 0 then some a else if k = 1 then some b else if k = 2 then some c else none))))) : va_E)) :: va_pl (mL S ++ [a, b, c]) (vr_up (cel G S) [a, b, c] (.inl (G.2 8, 16, .inl (fun _ => 0)))) = wl G (nM S q a b c 16) := by
  obtain ⟨f1, f2, f3, f4, f5, f6, f7, f8, f9, f10⟩ := f
  have eq_ : ∀ {α : Type} (g : Nat → α) (u v w y : α), va_up (va_up (va_up (va_up g q u) a v) b w) c y q = u := fun g u v w y => by
    rw [va_up_ne _ _ f7, va_up_ne _ _ f6, va_up_ne _ _ f5]; simp [va_up]
  have ea : ∀ {α : Type} (g : Nat → α) (u v w y : α), va_up (va_up (va_up (va_up g q u) a v) b w) c y a = v := fun g u v w y => by
    rw [va_up_ne _ _ f9, va_up_ne _ _ f8]; simp [va_up]
  have eb : ∀ {α : Type} (g : Nat → α) (u v w y : α), va_up (va_up (va_up (va_up g q u) a v) b w) c y b = w := fun g u v w y => by
    rw [va_up_ne _ _ f10]; simp [va_up]
  have ec : ∀ {α : Type} (g : Nat → α) (u v w y : α), va_up (va_up (va_up (va_up g q u) a v) b w) c y c = y := fun g u v w y => by
    simp [va_up]
  have row : ∀ x, mK (nM S q a b c 16) x = 8 → mI (nM S q a b c 16) x = (fun _ => 0) → mN (nM S q a b c 16) x = 16 → cel G (nM S q a b c 16) x = .inl (G.2 8, 16, .inl (fun _ => 0)) := fun x h1 h2 h3 => by
    rw [cel_a h1 (by decide)]
    show (Sum.inl (G.2 8, mN (nM S q a b c 16) x, Sum.inl (mI (nM S q a b c 16) x)) : va_E) = _
    rw [h2, h3]
  show _ = va_pl (q :: (mL S ++ [a, b, c])) (cel G (nM S q a b c 16))
  have hq : cel G (nM S q a b c 16) q = .inl (G.2 12, 3, .inr (.inr (.inr (.inr (fun k => if k = 0 then some a else if k = 1 then some b else if k = 2 then some c else none))))) := by
    rw [cel_a (show mK (nM S q a b c 16) q = 12 from eq_ _ _ _ _ _) (by decide)]
    show (Sum.inl (G.2 12, mN (nM S q a b c 16) q, Sum.inr (Sum.inr (Sum.inr (Sum.inr (mR (nM S q a b c 16) q))))) : va_E) = _
    rw [show mN (nM S q a b c 16) q = 3 from eq_ _ _ _ _ _, show mR (nM S q a b c 16) q = _ from eq_ _ _ _ _ _]
  show _ = (q, cel G (nM S q a b c 16) q) :: va_pl (mL S ++ [a, b, c]) (cel G (nM S q a b c 16))
  rw [hq]
  refine congrArg (List.cons _) ?_
  unfold va_pl
  apply List.map_congr_left
  intro x hx
  refine congrArg (Prod.mk x) ?_
  by_cases h : x ∈ [a, b, c]
  · rw [vr_up_in h]
    simp only [List.mem_cons, List.mem_nil_iff, or_false] at h
    rcases h with rfl | rfl | rfl
    · exact (row _ (ea _ _ _ _ _) (ea _ _ _ _ _) (ea _ _ _ _ _)).symm
    · exact (row _ (eb _ _ _ _ _) (eb _ _ _ _ _) (eb _ _ _ _ _)).symm
    · exact (row _ (ec _ _ _ _ _) (ec _ _ _ _ _) (ec _ _ _ _ _)).symm
  · rw [vr_up_ne h]
    have hx1 : x ∈ mL S := (List.mem_append.mp hx).resolve_right h
    simp only [List.mem_cons, List.mem_nil_iff, or_false, not_or] at h
    exact (cel_same (nM_same (fun e : x = q => f1 (by rw [← e]; exact hx1)) h.1 h.2.1 h.2.2)).symm
theorem r_mna (X : Cx p s m args meth c cc nL own G A) (h : Hx G A s.heap H locs S) (hcl : (Cond.classLink own index ("[" ++ (FieldType.array .int).toString)).before args s = true) (hov : (Cond.arrayOver (.array .int)).before args s = true) (har : (Cond.arrayClass .int).before args s = true) (hf : cells + 4 ≤ R.cells ∧ slots + 51 ≤ R.slots) (d : decode cc pc = .ok (.multianewarray index 2, 4))
    (kk : ∀ (q a1 a2 a3 : Nat) (H1 : Heap), MNf S q a1 a2 a3 → Hx G A s.heap H1 locs (nM S q a1 a2 a3 16) → W p l e R s m args below meth c H1 locs (cells + 4) (slots + 51) Q (F0 m (pc + 4) ls (.ref q :: rest))) : W p l e R s m args below meth c H locs cells slots Q (F0 m pc ls (.int (nI 16) :: .int (nI 3) :: rest)) := by
  have hN : (nI 3).toNatClampNeg = 3 := nI_clamp (by decide)
  have hM : (nI 16).toNatClampNeg = 16 := nI_clamp (by decide)
  have hb := X.2.1
  intro T hT Xs
  obtain ⟨vm₁, cA, cy, -, fA, fC, hO, -, X', step⟩ := Xs.multianewarray2F X.1 X.2.2.2.1 hcl hov har (g := F0 m pc ls (.int (nI 16) :: .int (nI 3) :: rest)) rfl (by rw [hb]; exact d) rfl (nI_pos (by decide)) (nI_pos (by decide)) (by rw [hN]; decide) (by rw [hM]; decide) (by rw [hM]; decide) rfl rfl (by rw [hN]; exact hf.1) (by rw [hN, hM]; exact hf.2)
  rw [hN, hM] at X' step
  have eA : G.2 12 = cA := Option.some.inj ((X.2.2.2.2.2.1.2 4 (G.2 12, .array .int) rfl).2.symm.trans fA)
  have eC : G.2 8 = cy := Option.some.inj ((X.2.2.2.2.2.1.2 0 (G.2 8, .int) rfl).2.symm.trans fC)
  have hz := vr_inner cy
  have hA : ∀ q, s.heap.size ≤ q → A q := X.2.2.2.2.2.2.2.1
  generalize hF : Jvm.Free.Multi.fill (T.setVm vm₁) cA cy 3 16 (defaultValue .int) 3 = F at X' step
  have hTh : (T.setVm vm₁).heap = H := hT
  obtain ⟨f1, f2, -, -⟩ := Jvm.Free.Multi.fill_facts (T.setVm vm₁) cA cy 3 16 (defaultValue .int) 3
  rw [hF, hTh] at f1 f2
  have hold : ∀ x : Nat, x < H.size → F.heap[x]? = H[x]? := fun x hx => by
    have := Jvm.Free.Multi.fill_old (T.setVm vm₁) cA cy 3 16 (defaultValue .int) (a := x) (by rw [hTh]; exact hx) 3
    rw [hF, hTh] at this
    exact this
  have hrow : ∀ j : Nat, j < 3 → F.heap[H.size + 1 + j]? = some (vp_cell cy (16, .inl (fun _ => 0))) := fun j hj => by
    have := Jvm.Free.Multi.fill_inner (T.setVm vm₁) cA cy 3 16 (defaultValue .int) 3 j hj
    rw [hF, hTh, hz] at this
    exact this
  have hout : Jvm.Free.Multi.outerC cA 3 H.size 3 = vp_cell cA (3, .inr (.inr (.inr (.inr (fun i => if i < 3 then some (H.size + 1 + i) else none))))) := by
    rw [vp_cell_q]
    exact vr_outer cA 3 H.size 3
  rw [hout] at f2
  have hlt : ∀ a, a ∈ mL S → a < H.size := fun a ha => by
    obtain ⟨k9, hk9⟩ := va_pl_get (X := []) (f := cel G S) ha
    exact (h.1 k9 _ hk9).lt
  have hnl : ∀ i : Nat, i < 3 → H.size + 1 + i ∉ mL S := fun i _ h => by
    have := hlt _ h
    omega
  have hnm : ∀ a, a ∈ (List.range 3).map (fun i => H.size + 1 + i) → a ∉ mL S := fun a ha h => by
    obtain ⟨i, -, rfl⟩ := List.mem_map.mp ha
    have := hlt _ h
    omega
  have hP0 : va_P G.1 vcl (([] : va_W) ++ va_pl (mL S) (cel G S)) F.heap := h.1.kept (fun k9 x hx => hold x.1 ((h.1 k9 x hx).lt))
  have hP1 : va_P G.1 vcl ((([] : va_W) ++ va_pl (mL S) (cel G S)) ++ [(H.size, .inl (cA, 3, .inr (.inr (.inr (.inr (fun i => if i < 3 then some (H.size + 1 + i) else none))))))]) F.heap := hP0.app (fun k9 x hx => by
    have h0 : k9 < 1 := (List.getElem?_eq_some_iff.mp hx).1
    rw [show k9 = 0 by omega] at hx
    cases hx
    exact f2)
  have hP2 : va_P G.1 vcl (((([] : va_W) ++ va_pl (mL S) (cel G S)) ++ [(H.size, .inl (cA, 3, .inr (.inr (.inr (.inr (fun i => if i < 3 then some (H.size + 1 + i) else none))))))]) ++ ((List.range 3).map (fun i => H.size + 1 + i)).map (fun a => (a, .inl (cy, (16, .inl (fun _ => 0)))))) F.heap := hP1.app (fun k9 x hx => by
    obtain ⟨a, ha, rfl⟩ := List.mem_map.mp (List.mem_of_getElem? hx)
    obtain ⟨i, hi, rfl⟩ := List.mem_map.mp ha
    exact hrow i (List.mem_range.mp hi))
  have hD2 : va_D A (((([] : va_W) ++ va_pl (mL S) (cel G S)) ++ [(H.size, .inl (cA, 3, .inr (.inr (.inr (.inr (fun i => if i < 3 then some (H.size + 1 + i) else none))))))]) ++ ((List.range 3).map (fun i => H.size + 1 + i)).map (fun a => (a, .inl (cy, (16, .inl (fun _ => 0)))))) := by
    have hD1 := (show va_D A (([] : va_W) ++ va_pl (mL S) (cel G S)) from h.2.1).push (e := .inl (cA, 3, .inr (.inr (.inr (.inr (fun i => if i < 3 then some (H.size + 1 + i) else none)))))) (show va_P G.1 vcl (([] : va_W) ++ va_pl (mL S) (cel G S)) H from h.1) rfl (hA _ h.2.2.1)
    generalize hW1 : (([] : va_W) ++ va_pl (mL S) (cel G S)) ++ [(H.size, .inl (cA, 3, .inr (.inr (.inr (.inr (fun i => if i < 3 then some (H.size + 1 + i) else none))))))] = W1 at hD1 hP1 ⊢
    have hle : ∀ (k9 : Nat) (x : Nat × va_E), W1[k9]? = some x → x.1 ≤ H.size := fun k9 x hx => by
      rw [← hW1] at hx
      by_cases hl : k9 < (([] : va_W) ++ va_pl (mL S) (cel G S)).length
      · rw [List.getElem?_append_left hl] at hx
        exact Nat.le_of_lt ((h.1 k9 x hx).lt)
      · rw [List.getElem?_append_right (by omega)] at hx
        have h0 : k9 - (([] : va_W) ++ va_pl (mL S) (cel G S)).length < 1 := (List.getElem?_eq_some_iff.mp hx).1
        rw [show k9 - (([] : va_W) ++ va_pl (mL S) (cel G S)).length = 0 by omega] at hx
        cases hx
        exact Nat.le_refl _
    have hr : ∀ (k9 : Nat) (x : Nat × va_E), (((List.range 3).map (fun i => H.size + 1 + i)).map (fun a => ((a, .inl (cy, (16, .inl (fun _ => 0)))) : Nat × va_E)))[k9]? = some x → x.1 = H.size + 1 + k9 := fun k9 x hx => by
      rw [List.getElem?_map, List.getElem?_map] at hx
      by_cases h9 : k9 < 3
      · rw [List.getElem?_range h9] at hx
        cases hx
        rfl
      · have hn0 : (List.range 3)[k9]? = none := List.getElem?_eq_none (by rw [List.length_range]; omega)
        rw [hn0] at hx
        cases hx
    refine ⟨fun i j x y hi hj hxy => ?_, fun k9 x hx => ?_⟩
    · by_cases h1 : i < W1.length <;> by_cases h2 : j < W1.length
      · rw [List.getElem?_append_left h1] at hi
        rw [List.getElem?_append_left h2] at hj
        exact hD1.1 i j x y hi hj hxy
      · rw [List.getElem?_append_left h1] at hi
        rw [List.getElem?_append_right (by omega)] at hj
        have := hle _ _ hi
        have := hr _ _ hj
        omega
      · rw [List.getElem?_append_right (by omega)] at hi
        rw [List.getElem?_append_left h2] at hj
        have := hle _ _ hj
        have := hr _ _ hi
        omega
      · rw [List.getElem?_append_right (by omega)] at hi hj
        have := hr _ _ hi
        have := hr _ _ hj
        omega
    · by_cases h1 : k9 < W1.length
      · rw [List.getElem?_append_left h1] at hx
        exact hD1.2 k9 x hx
      · rw [List.getElem?_append_right (by omega)] at hx
        have := hr _ _ hx
        exact hA _ (by have := h.2.2.1; omega)
  subst eA eC
  have hl3 : (List.range 3).map (fun i => H.size + 1 + i) = [H.size + 1 + 0, H.size + 1 + 1, H.size + 1 + 2] := rfl
  rw [hl3] at hP2 hD2 hnm
  have hq0 : H.size ∉ mL S := fun w => by have := hlt _ w; omega
  have fM : MNf S H.size (H.size + 1 + 0) (H.size + 1 + 1) (H.size + 1 + 2) := ⟨hq0, hnl 0 (by decide), hnl 1 (by decide), hnl 2 (by decide), by omega, by omega, by omega, by omega, by omega, by omega⟩
  have eR : (fun i => if i < 3 then some (H.size + 1 + i) else none) = (fun k => if k = 0 then some (H.size + 1 + 0) else if k = 1 then some (H.size + 1 + 1) else if k = 2 then some (H.size + 1 + 2) else none) := by
    funext k
    match k with
    | 0 => rfl
    | 1 => rfl
    | 2 => rfl
    | k + 3 => rw [if_neg (by omega), if_neg (by omega), if_neg (by omega), if_neg (by omega)]
  rw [eR] at hP2 hD2
  have hP3 := vr_lay hP2
  have hD3 := vr_layD hD2
  have eW : (([] : va_W) ++ [(H.size, (.inl (G.2 12, 3, .inr (.inr (.inr (.inr (fun k => if k = 0 then some (H.size + 1 + 0) else if k = 1 then some (H.size + 1 + 1) else if k = 2 then some (H.size + 1 + 2) else none))))) : va_E))]) ++ (va_pl (mL S) (cel G S) ++ [H.size + 1 + 0, H.size + 1 + 1, H.size + 1 + 2].map (fun a => (a, (.inl (G.2 8, (16, .inl (fun _ => 0))) : va_E)))) = wl G (nM S H.size (H.size + 1 + 0) (H.size + 1 + 1) (H.size + 1 + 2) 16) := by
    rw [← nM_cel (G := G) fM, vr_rows hnm]
    rfl
  rw [eW] at hP3 hD3
  have eS : slots + 3 + 3 * 16 = slots + 51 := by omega
  have eC : cells + 1 + 3 = cells + 4 := by omega
  rw [eC, eS] at X'
  obtain ⟨t, a1, b1⟩ := kk H.size _ _ _ F.heap fM ⟨hP3, hD3, ⟨by rw [f1]; have := h.2.2.1; omega, fun x h1 h2 => (hold x (Nat.lt_of_lt_of_le h1 h.2.2.1)).trans (h.2.2.2.1 x h1 h2), h.2.2.2.2⟩⟩ F rfl X'
  refine ⟨t, step t ?_, b1⟩
  have e : T.heap.size = H.size := by rw [hT]
  rw [e]
  exact a1
end MNA
/-- the claim's start, out of the pure statement -/
theorem start_of (hpure : ∀ (L : Nat) (xs : Nat → Int32), L ≤ 260 → wpL_law M0 L xs (fun r _ => r = 1)) {p : Program} {e : Env} {s : State} {m : MethodId} {below : List Frame} {meth : Method} {c : Code} (l : Launch) (hflags : l.flags = flags0) {b L : Nat} {xs : Nat → Int32} (hL : L ≤ 260) (C0 : lw_At p s m meth c b L xs) : W p l e room_1 s m #[Value.ref b] below meth c s.heap [] 0 0 (lw_Z below #[Value.ref b] s) (entryFrame m ([Value.ref b] : List Value).toArray 27) := by
  obtain ⟨hx, hb, hr, hml, hown, hts, hX, hbl, hlocks, hgv⟩ := C0
  obtain ⟨G, hK⟩ := ent_K hts
  have hl9 : l.stackTraces = false := by rw [show l.stackTraces = ({ l with flags := flags0 } : Launch).stackTraces by rw [← hflags]]; rfl
  have X : Cx p s m #[Value.ref b] meth c cL_law 27 RL G (fun q : Nat => s.heap.size ≤ q) := ⟨hx, hb, hml, hown, ent_words hts, hK, ent_EV hts hgv, fun q h => h, hlocks⟩
  have h : Hx G (fun q : Nat => s.heap.size ≤ q) s.heap s.heap [] M0 := ⟨fun k q hq => by simp [wl, va_pl, M0, mL] at hq, ⟨fun i j p q hp => by simp [wl, va_pl, M0, mL] at hp, fun k q hq => by simp [wl, va_pl, M0, mL] at hq⟩, va_S.rf⟩
  have hl := lv_entry ([.ref b]) (n := 27) (Nat.le_of_ble_eq_true rfl)
  have hMN : ∀ (H : Heap) (locs : List Loc) (ls : Array Slot) (S : Mem) (kc ks : Nat), Hx G (fun q : Nat => s.heap.size ≤ q) s.heap H locs S → kc + 4 ≤ 678795 → ks + 51 ≤ 7054424 → (∀ (q a1 a2 a3 : Nat) (H1 : Heap), MNf S q a1 a2 a3 → Hx G (fun q : Nat => s.heap.size ≤ q) s.heap H1 locs (nM S q a1 a2 a3 16) → W p l e room_1 s m #[Value.ref b] below meth c H1 locs (kc + 4) (ks + 51) (lw_Z below #[Value.ref b] s) (F0 m (11 + 4) ls [.ref q])) → W p l e room_1 s m #[Value.ref b] below meth c H locs kc ks (lw_Z below #[Value.ref b] s) (F0 m 11 ls [.int (nI 16), .int (nI 3)]) :=
    fun H locs ls S kc ks h h1 h2 kk => r_mna X h (hts _ (List.mem_of_getElem? (i := 813) (by decide +kernel))) (hts _ (List.mem_of_getElem? (i := 814) (by decide +kernel))) (hts _ (List.mem_of_getElem? (i := 64) (by decide +kernel))) ⟨law_c h1, law_s h2⟩ dL_law_11 kk
  rw [lg_entry_eq]
  generalize (lg_sl ([.ref b]) ++ List.replicate (27 - (lg_sl ([.ref b])).length) Slot.unset).toArray = ls at hl ⊢
  exact meL_law X hX hbl (Nat.not_le.mpr hbl) hr hlocks hl9 hMN (fun r _ => r = 1) (fun _ _ h => h) (hpure L xs hL) h hl
theorem whole_start {p : Program} {e : Env} {s : State} {m : MethodId} {below : List Frame} {meth : Method} {c : Code} (l : Launch) (hflags : l.flags = flags0) {b L : Nat} {xs : Nat → Int32} (hL : L ≤ 260) (C0 : lw_At p s m meth c b L xs) : W p l e room_1 s m #[Value.ref b] below meth c s.heap [] 0 0 (lw_Z below #[Value.ref b] s) (entryFrame m ([Value.ref b] : List Value).toArray 27) :=
  start_of law_pure l hflags hL C0
set_option maxHeartbeats 4000000 in
theorem lw_walk (l : Launch) (hflags : l.flags = flags0) (b : Addr) (xs : List Int32) : MetFree l x (headSpec (Jvm.Cond.code x code maxLocals ret :: tables_1) room_1) (lw_P b xs) (fun _ _ _ _ _ => True) lw_Q := by
  refine MetFree.of_bodyS (code := code) (maxLocals := maxLocals) (ret := ret) (by decide) ?_ ?_
  · intro args s m h hn
    obtain ⟨meth, c, h1, h2, h3, h4, h5, h6, -, -⟩ := Cond.code_spec hn (atoms_spec (ws := Jvm.Cond.code x code maxLocals ret :: tables_1) h _ List.mem_cons_self)
    exact ⟨meth, c, h1, h2, h3, h4, h5, h6⟩
  · intro p e s m args below meth c s₁ B hml0 hP _
    obtain ⟨rfl, hx, hbd, hgv⟩ := hP
    obtain ⟨scr, harrAt, hlist, hof, hsmall⟩ := hx
    obtain ⟨hcb, hkn, -, -⟩ := State.arrayAt?_spec harrAt
    have hown : s.vm.findClass R_law = some m.cls := findClass_of_methodNamed B.named
    have hts0 : ∀ c ∈ (Jvm.Cond.code x code maxLocals ret :: tables_1), c.before #[Value.ref b] s = true := atoms_spec (ws := Jvm.Cond.code x code maxLocals ret :: tables_1) B.pre
    have hts : ∀ w ∈ lw_tbl, w.before #[Value.ref b] s = true := k2_hts_sels lw_privs (fun w hw => hts0 w (List.mem_cons_of_mem _ hw)) lw_privs_ok
    have hml : c.maxLocals = 27 := B.maxLocals_eq (hts0 _ List.mem_cons_self)
    have X₀ : Stand p l e room_1 s m #[Value.ref b] below meth c s₁ [] 0 0 := Stand.of_body B
    have hh0 : s₁.heap = s.heap := by rw [B.state]; rfl
    have hsz : scr.slots.size = xs.length := by rw [← Array.length_toList, hlist, List.length_map]
    have hval : ∀ j : Nat, j < xs.length → scr.slots[j]? = some (.int (xs.getD j 0)) := fun j hj => by
      rw [← Array.getElem?_toList, hlist]
      simp [hj]
    have hbl : b < s.heap.size := (Array.getElem?_eq_some_iff.mp hcb).1
    have hX : va_X b xs.length (fun j => xs.getD j 0) s s.heap := ⟨scr, hcb, hof, hkn, hsz, hval⟩
    have K : W p l e room_1 s m #[Value.ref b] below meth c s₁.heap [] 0 0 (lw_Z below #[Value.ref b] s) (entryFrame m ([Value.ref b] : List Value).toArray 27) := by
      rw [hh0]
      exact whole_start l hflags hbd ⟨B.exec, B.bytes, B.returns, hml, hown, hts, hX, hbl, B.notSynchronized, hgv⟩
    obtain ⟨t, a1, o, b1, b2, b3⟩ := K s₁ rfl X₀
    exact ⟨t, o, a1, b1, b2, b3⟩
theorem lw_pre_spec {args : Array Value} {s : State} (h : (Jvm.Cond.and given_1 narrow_1).before args s = true) (hr : rest_1_c.before args s = true) : ∃ (b : Addr) (xs : List Int32), lw_P b xs args s := by
  have hs := flat_of_before _ h
  have hq := flat_of_before _ hr
  have hc : (Cond.count 1).before args s = true := hs _ (by decide +kernel)
  have harr : (Cond.arrayOf (.arg 0) .int).before args s = true := hs _ (by decide +kernel)
  have hle : (Cond.le (.length (.arg 0)) (.int 260)).before args s = true := hs _ (by decide +kernel)
  have hlen : (Cond.isInt (.length (.arg 0))).before args s = true := hq _ (by decide +kernel)
  have hall : (Cond.all (.arg 0) (.isInt (.elem (.arg 0) (.index 0)))).before args s = true := hq _ (by decide +kernel)
  obtain ⟨b, xs, hb, hx⟩ := State.ints_of_pre rfl harr hlen hall
  have hsm : xs.length < 2 ^ 31 := hx.choose_spec.2.2.2
  have hev : (Term.length (.arg 0)).eval args s none [] s = some (.int xs.length.toInt32) := hx.length_eval hb
  have hv := Cond.le_ints hev (show (Term.int 260).eval args s none [] s = some (.int 260) from rfl)
  have hd : xs.length.toInt32 ≤ 260 := by
    simpa [Cond.before, Cond.holds, hv] using hle
  have hN : xs.length ≤ 260 := (Int32.ofNat_le_ofNat hsm (by decide)).mp (show Int32.ofNat xs.length ≤ Int32.ofNat 260 from hd)
  exact ⟨b, xs, Cond.one_arg hc (show args[0]? = some (.ref b) from hb), hx, hN, h⟩
theorem lw_comes (l : Launch) (hflags : l.flags = flags0) : Comes l x (Jvm.Cond.code x code maxLocals ret :: tables_1) room_1 (fun tb e args s => Calls_1 tb e args s ∧ rest_1 tb e args s ∧ Pre_1 tb e args s)
    (fun _ _ args s o t => lw_Q args s o t) := by
  intro p e ha hc hk s m args below hf hfit hheap happ hpre
  obtain ⟨b, xs, hP⟩ := lw_pre_spec hpre.2.2 hpre.2.1
  obtain ⟨k, o, h1, h2, h3, hQ⟩ := lw_walk l hflags b xs p e ha hc hk s m args below hf ((Spec.applies_iff_loose hf).mp happ).1 hP trivial
  exact ⟨k, o, h1, h2, h3, hQ⟩
theorem lw_frame {s t : State} {o : Outcome} {args : Array Value} (h : Framed s o t [] 678795 7054424) :
    Framed s o t (fieldLocs frame_1_writes args s ++ arrayLocs frame_1_arrays args s ++ staticLocs frame_1_statics s) 678795 7054424 := h
theorem lw_limb (L : Cond) (hL : ∀ (args : Array Value) (s t : State), L.after args s (.returned (some (.int 1))) t = true) :
    ArmFor flags0 classFile x code maxLocals ret World_1 tables_1 room_1 Calls_1 rest_1 Pre_1
      (fun tb e a s o t => postC L tb e a s o t ∧ Framed s o t (fieldLocs frame_1_writes a s ++ arrayLocs frame_1_arrays a s ++ staticLocs frame_1_statics s) 678795 7054424) := by
  intro l hflags _ _ p e ha hc hk s m args below hf hfit hheap happ hpre
  obtain ⟨k, o, h1, h2, h3, rfl, hF⟩ := lw_comes l hflags p e ha hc hk s m args below hf hfit hheap happ hpre
  exact ⟨k, _, h1, h2, h3, hL args s _, lw_frame hF⟩
theorem i_vc : Claimed_1_1 ∧ Claimed_1_2 := ⟨lw_limb limb_1_1 (fun args s t => by simp [limb_1_1, Cond.after, Cond.holds, Cond.value]), lw_limb limb_1_2 (fun args s t => Cond.after_iff.mpr (by
  first | (rw [show limb_1_2 = Cond.eq .result (.int 1) from rfl, Cond.eq_ints (x := 1) (y := 1) rfl rfl]; simp; done) | (simp [limb_1_2, Cond.value, Term.eval]; done)))⟩
