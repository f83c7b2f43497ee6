/-! ===== the law's entry: all that stands there, out of the Statement's words ===== -/
def M0 : Mem := ([], fun _ => 99, fun _ _ => 0, fun _ _ => 0, fun _ _ => none, fun _ => 0, fun _ _ => 0)
theorem arr_k {s : State} {args : Array Value} {ty : FieldType} (h : (Cond.arrayClass ty).before args s = true) (hn : ∀ C, ty ≠ .object C) : ∃ cA : ClassId, ArrOfT s cA ty ∧ va_RA s cA ty := by
  obtain ⟨c, k, comp, h1, h2, h3⟩ := Cond.arrayClass_spec h
  refine ⟨c, fun n z => ⟨(fun k9 h9 => by cases h9), k, h2, comp, h3⟩, ?_⟩
  cases ty with
  | object C => exact absurd rfl (hn C)
  | _ => exact h1
theorem arr_o {s : State} {args : Array Value} {C : String} (h : (Cond.arrayOver (.object C)).before args s = true) : ∃ cA : ClassId, ArrOfT s cA (.object C) ∧ va_RA s cA (.object C) := by
  obtain ⟨comp, c, k, h1, -, h2, h3, h4⟩ := Cond.arrayOver_spec h
  exact ⟨c, fun n z => ⟨(fun k9 h9 => by cases h9), k, h2, comp, h3⟩, k, comp, h2, h3, h1, h4⟩
theorem ent_words {b : Nat} {s : State} (hts : ∀ w ∈ lw_tbl, w.before #[Value.ref b] s = true) : ∀ w ∈ lwA, w.before #[Value.ref b] s = true := fun w h => hts w (List.mem_filter.mp h).1
theorem ent_K {b : Nat} {s : State} (hts : ∀ w ∈ lw_tbl, w.before #[Value.ref b] s = true) : ∃ G : GT, va_K G.1 vcl (tys G) s := by
  have hA := ent_words hts
  obtain ⟨c0, i0, k0⟩ := u_known (n := 5) hA inX0 (hA _ (mA 62 (by decide +kernel) (by decide +kernel)))
  obtain ⟨c1, i1, k1⟩ := u_known (n := 4) hA inX1 (hA _ (mA 424 (by decide +kernel) (by decide +kernel)))
  obtain ⟨c2, i2, k2⟩ := u_known (n := 5) hA inX2 (hA _ (mA 714 (by decide +kernel) (by decide +kernel)))
  obtain ⟨c3, i3, k3⟩ := u_known (n := 4) hA inX3 (hA _ (mA 121 (by decide +kernel) (by decide +kernel)))
  obtain ⟨c4, i4, k4⟩ := u_known (n := 2) hA inX4 (hA _ (mA 107 (by decide +kernel) (by decide +kernel)))
  obtain ⟨c5, i5, k5⟩ := u_known (n := 3) hA inX5 (hA _ (mA 89 (by decide +kernel) (by decide +kernel)))
  obtain ⟨c6, i6, k6⟩ := u_known (n := 12) hA inX6 (hA _ (mA 54 (by decide +kernel) (by decide +kernel)))
  obtain ⟨c7, i7, k7⟩ := u_known (n := 26) hA inX7 (hA _ (mA 843 (by decide +kernel) (by decide +kernel)))
  obtain ⟨a8, a8a, a8b⟩ := arr_k (ty := .int) (hA _ (mA 85 (by decide +kernel) (by decide +kernel))) (fun C h => by cases h)
  obtain ⟨a9, a9a, a9b⟩ := arr_k (ty := .boolean) (hA _ (mA 927 (by decide +kernel) (by decide +kernel))) (fun C h => by cases h)
  obtain ⟨b0, b0a, b0b⟩ := arr_o (C := RX1) (hts _ (List.mem_of_getElem? (i := 87) (by decide +kernel)))
  obtain ⟨b1, b1a, b1b⟩ := arr_o (C := RX2) (hts _ (List.mem_of_getElem? (i := 140) (by decide +kernel)))
  obtain ⟨b2, b2a, b2b⟩ := arr_k (ty := .long) (hA _ (mA 1121 (by decide +kernel) (by decide +kernel))) (fun C h => by cases h)
  obtain ⟨b3, b3a, b3b⟩ := arr_k (ty := .double) (hA _ (mA 1122 (by decide +kernel) (by decide +kernel))) (fun C h => by cases h)
  refine ⟨((fun k => ([c0, c1, c2, c3, c4, c5, c6, c7] : List ClassId).getD k c0, fun k => ([i0, i1, i2, i3, i4, i5, i6, i7] : List (Nat → Nat)).getD k i0), fun k => ([a8, a9, b0, b1, b2, b3] : List ClassId).getD (k - 8) a8), ?_, ?_⟩
  · intro k q hq
    match k, hq with
    | 0, hq => cases hq; exact k0
    | 1, hq => cases hq; exact k1
    | 2, hq => cases hq; exact k2
    | 3, hq => cases hq; exact k3
    | 4, hq => cases hq; exact k4
    | 5, hq => cases hq; exact k5
    | 6, hq => cases hq; exact k6
    | 7, hq => cases hq; exact k7
  · intro k q hq
    match k, hq with
    | 0, hq => cases hq; exact ⟨a8a, a8b⟩
    | 1, hq => cases hq; exact ⟨a9a, a9b⟩
    | 2, hq => cases hq; exact ⟨b0a, b0b⟩
    | 3, hq => cases hq; exact ⟨b1a, b1b⟩
    | 4, hq => cases hq; exact ⟨b2a, b2b⟩
    | 5, hq => cases hq; exact ⟨b3a, b3b⟩
theorem ent_str {b : Nat} {s : State} (hts : ∀ w ∈ lw_tbl, w.before #[Value.ref b] s = true) (hK : ∃ c, s.vm.findClass "BinderyDesk" = some c) : ∀ q ∈ strl, ∃ a, vk_R q.1 q.2.1 q.2.2 a s := by
  obtain ⟨cur, hcur⟩ := hK
  have h : ∀ q ∈ strl, q.1 = "BinderyDesk" ∧ Cond.stringRef q.1 q.2.1 q.2.2 ∈ lw_tbl := by decide +kernel
  intro q hq
  obtain ⟨h1, h2⟩ := h q hq
  obtain ⟨k, cf, i, a, -, -, -, -, -, hev⟩ := Cond.stringRef_spec (by rw [h1]; exact hcur) (hts _ h2)
  exact ⟨a, vk_R.of (hts _ h2) hev⟩
theorem ent_EV {b : Nat} {s : State} (hts : ∀ w ∈ lw_tbl, w.before #[Value.ref b] s = true) (hgv : (Jvm.Cond.and given_1 narrow_1).before #[Value.ref b] s = true) : EV (fun q : Nat => s.heap.size ≤ q) s s.heap := by
  have hs := flat_of_before _ hgv
  have hA := ent_words hts
  have hap : ∀ a : Nat, a < s.heap.size → ¬ (fun q : Nat => s.heap.size ≤ q) a := fun a h => Nat.not_le.mpr h
  refine ⟨fun w hw => va_Nw.of (nw_on (nw_form hw)) (hts w (List.mem_filter.mp hw).1), ?_, ?_, ent_str hts ?_, ?_, ?_, ?_⟩
  · exact vx_Zqof (hts _ (List.mem_of_getElem? (i := 225) (by decide +kernel))) (hA _ (mA 39 (by decide +kernel) (by decide +kernel))) (hs _ (by decide +kernel)) hap
  · exact vx_Zqof (hts _ (List.mem_of_getElem? (i := 227) (by decide +kernel))) (hA _ (mA 39 (by decide +kernel) (by decide +kernel))) (hs _ (by decide +kernel)) hap
  · obtain ⟨cC, iS, hk⟩ := u_known (n := 12) hA inX6 (hA _ (mA 54 (by decide +kernel) (by decide +kernel)))
    exact ⟨_, hk.2.1⟩
  · have h : ∀ q ∈ ncl, Cond.not (.castable q.1 q.2) ∈ flatC (Jvm.Cond.and given_1 narrow_1) := by decide +kernel
    exact fun q hq => va_Nc.of (hs _ (h q hq))
  · exact va_AO.of (hts _ (List.mem_of_getElem? (i := 87) (by decide +kernel)))
  · exact va_AO.of (hts _ (List.mem_of_getElem? (i := 140) (by decide +kernel)))
/-- the claim's start, out of the pure statement -/
theorem start_of (hpure : ∀ (L : Nat) (xs : Nat → Int32), L ≤ 2048 → wpL_law M0 L xs (fun r _ => r = 1)) {p : Program} {e : Env} {s : State} {m : MethodId} {below : List Frame} {meth : Method} {c : Code} (l : Launch) (hflags : l.flags = flags0) {b L : Nat} {xs : Nat → Int32} (hL : L ≤ 2048) (C0 : lw_At p s m meth c b L xs) : W p l e room_1 s m #[Value.ref b] below meth c s.heap [] 0 0 (lw_Z below #[Value.ref b] s) (entryFrame m ([Value.ref b] : List Value).toArray 9) := by
  obtain ⟨hx, hb, hr, hml, hown, hts, hX, hbl, hlocks, hgv⟩ := C0
  obtain ⟨G, hK⟩ := ent_K hts
  have hl9 : l.stackTraces = false := by rw [show l.stackTraces = ({ l with flags := flags0 } : Launch).stackTraces by rw [← hflags]]; rfl
  have X : Cx p s m #[Value.ref b] meth c cL_law 9 RL G (fun q : Nat => s.heap.size ≤ q) := ⟨hx, hb, hml, hown, ent_words hts, hK, ent_EV hts hgv, fun q h => h, hlocks⟩
  have h : Hx G (fun q : Nat => s.heap.size ≤ q) s.heap s.heap [] M0 := ⟨fun k q hq => by simp [wl, va_pl, M0, mL] at hq, ⟨fun i j p q hp => by simp [wl, va_pl, M0, mL] at hp, fun k q hq => by simp [wl, va_pl, M0, mL] at hq⟩, va_S.rf⟩
  have hl := lv_entry ([.ref b]) (n := 9) (Nat.le_of_ble_eq_true rfl)
  rw [lg_entry_eq]
  generalize (lg_sl ([.ref b]) ++ List.replicate (9 - (lg_sl ([.ref b])).length) Slot.unset).toArray = ls at hl ⊢
  exact meL_law X hX hbl (Nat.not_le.mpr hbl) hr hlocks hl9 (fun r _ => r = 1) (fun _ _ h => h) (hpure L xs hL) h hl
