/-! ===== the loop ===== -/
section
variable {S : Mem} {ad : Nat → Nat} {A : AM} {n : Nat × Nat} {s : Sta}
theorem law_loop (F : FPok) {L : Nat} (hL : L ≤ 2048) {xs : Nat → Int32} {post : Int32 → Mem → Prop} (h1 : ∀ S, post (nI 1) S) : ∀ m i S ad n A s, Inv S ad n A s i → i + m = 512 → wlL_law_28 (ad 0) (ad 14) (ad 29) (ad 30) L xs post (m + 1) (nI (4 * i)) S := by
  intro m
  induction m with
  | zero =>
    intro i S ad n A s I hi
    refine ⟨fun _ => h1 S, fun z => absurd ?_ z⟩
    rw [ilt_iff, pk_sub_toInt (by omega) (by decide), nI_toInt (by omega)]
    omega
  | succ m ih =>
    intro i S ad n A s I hi
    have hm : i < 512 := by omega
    have e4 : 4 * (i + 1) = 4 * i + 4 := by omega
    have hK : nxt ad i (fun S => ∀ x : Int32, x = nI (4 * i) + nI 4 → wlL_law_28 (ad 0) (ad 14) (ad 29) (ad 30) L xs post (m + 1) x S) := by
      intro S' ad' n' A' s' I' e x ex
      subst ex
      have := ih (i + 1) S' ad' n' A' s' I' (by omega)
      rw [e 0 (by decide), e 14 (by decide), e 29 (by decide), e 30 (by decide), e4] at this
      rw [nI_add]
      exact this
    refine ⟨fun _ => h1 S, fun z => ?_⟩
    have hz : 4 * i + 4 ≤ L := by
      rw [ilt_iff, pk_sub_toInt (by omega) (by decide), nI_toInt (by omega)] at z
      omega
    have v0 : vp_in (nI (4 * i)) L := vp_in_nI (by omega) (by omega)
    have v1 : vp_in (nI (4 * i) + nI 1) L := by rw [nI_add]; exact vp_in_nI (by omega) (by omega)
    have v2 : vp_in (nI (4 * i) + nI 2) L := by rw [nI_add]; exact vp_in_nI (by omega) (by omega)
    have v3 : vp_in (nI (4 * i) + nI 3) L := by rw [nI_add]; exact vp_in_nI (by omega) (by omega)
    have hskip := hK _ _ _ _ _ (I.ro I.h (RO.rf A (s 0 2)) (Nat.le_refl _) (Nat.le_succ i) (by omega)) fun _ _ => rfl
    refine ⟨v0, fun _ => hskip, ?_, ?_, ?_, ?_, ?_, ?_, ?_, ?_, ?_, ?_, ?_, ?_, ?_, ?_, ?_, ?_, ?_, ?_, ?_, ?_, ?_, ?_, ?_, ?_, ?_, ?_, ?_⟩
    · exact fun _ => op_addContent I hm (P := fun S => post (nI 0) S) hK (fun x S1 h => h)
    · exact fun _ => ⟨v1, op_approve I hm (P := fun S => post (nI 0) S) hK (fun x S1 h => ⟨v1, h⟩)⟩
    · exact fun _ => ⟨v1, op_correct I hm (P := fun S => post (nI 0) S) hK (fun x S1 h => ⟨v1, h⟩)⟩
    · exact fun _ => ⟨v1, op_state I hm (P := fun S => post (nI 0) S) hK (fun x S1 h => ⟨v1, h⟩)⟩
    · exact fun _ => ⟨v1, op_addJob I hm (P := fun S => post (nI 0) S) hK (fun x S1 h => ⟨v1, h⟩)⟩
    · exact fun _ => ⟨v1, v2, op_addPage I hm (P := fun S => post (nI 0) S) hK (fun x S1 h => ⟨v1, v2, h⟩)⟩
    · exact fun _ => ⟨v1, op_pages I hm (P := fun S => post (nI 0) S) hK (fun x S1 h => ⟨v1, h⟩)⟩
    · exact fun _ => ⟨v1, op_sheets I hm (P := fun S => post (nI 0) S) hK (fun x S1 h => ⟨v1, h⟩)⟩
    · exact fun _ => ⟨v1, v2, v3, op_pageAt I hm (P := fun S => post (nI 0) S) hK (fun x S1 h => ⟨v1, v2, v3, h⟩)⟩
    · exact fun _ => ⟨v1, v2, op_sheetOf I hm (P := fun S => post (nI 0) S) hK (fun x S1 h => ⟨v1, v2, h⟩)⟩
    · exact fun _ => ⟨v1, v2, v3, op_print I hm (P := fun S => post (nI 0) S) hK (fun x S1 h => ⟨v1, v2, v3, h⟩)⟩
    · exact fun _ => ⟨v1, v2, op_makeready I hm (P := fun S => post (nI 0) S) hK (fun x S1 h => ⟨v1, v2, h⟩)⟩
    · exact fun _ => ⟨v1, op_leastMakeready I hm (P := fun S => post (nI 0) S) hK (fun x S1 h => ⟨v1, h⟩)⟩
    · exact fun _ => ⟨v1, op_leastByTrying I hm (P := fun S => post (nI 0) S) hK (fun x S1 h => ⟨v1, h⟩)⟩
    · exact fun _ => ⟨v1, v2, op_stock I hm (P := fun S => post (nI 0) S) hK (fun x S1 h => ⟨v1, v2, h⟩)⟩
    · exact fun _ => op_plates I hm (P := fun S => post (nI 0) S) hK
    · exact fun _ => ⟨v1, op_platesNeeded I hm (P := fun S => post (nI 0) S) hK (fun x S1 h => ⟨v1, h⟩)⟩
    · exact fun _ => ⟨v1, v2, op_bind I hm (P := fun S => post (nI 0) S) hK (fun x S1 h => ⟨v1, v2, h⟩)⟩
    · exact fun _ => ⟨v1, v2, op_lacks I hm (P := fun S => post (nI 0) S) hK (fun x S1 h => ⟨v1, v2, h⟩)⟩
    · exact fun _ => op_lots I hm (P := fun S => post (nI 0) S) hK
    · exact fun _ => ⟨v1, op_copies I hm (P := fun S => post (nI 0) S) hK (fun x S1 h => ⟨v1, h⟩)⟩
    · exact fun _ => ⟨v1, v2, op_stateIn I hm (P := fun S => post (nI 0) S) hK (fun x S1 h => ⟨v1, v2, h⟩)⟩
    · exact fun _ => ⟨v1, v2, op_stateByReplay I hm (P := fun S => post (nI 0) S) hK (fun x S1 h => ⟨v1, v2, h⟩)⟩
    · exact fun _ => ⟨v1, op_outdated I hm (P := fun S => post (nI 0) S) hK (fun x S1 h => ⟨v1, h⟩)⟩
    · exact fun _ => op_waste I hm (P := fun S => post (nI 0) S) hK
    · exact fun _ => op_wasteShare F I hm (P := fun S => post (nI 0) S) hK (fun x S1 h => h)
    · exact fun _ => op_meanMakeready F I hm (P := fun S => post (nI 0) S) hK (fun x S1 h => h)
theorem inv0 (k : Rel S ad (0, 0) A) (a : A0ok A) : Inv S ad (0, 0) A (fun _ _ => 0) 0 := by
  obtain ⟨a1, a2, a3, a4, a5, a6⟩ := a
  have z : ∀ t k, t ≠ 6 → t ≠ 8 → gI A t k = nI 0 := fun t k h6 h8 => by rw [a1 t h6 h8]; rfl
  have y : ∀ t k, gJ A t k = lN 0 := fun t k => by rw [a6]; rfl
  refine ⟨k, ?_, ?_, ?_, ?_⟩
  · exact ⟨⟨z _ _ (by decide) (by decide), z _ _ (by decide) (by decide), z _ _ (by decide) (by decide), z _ _ (by decide) (by decide), z _ _ (by decide) (by decide)⟩, ⟨y _ _, y _ _, y _ _, y _ _⟩, fun c _ => z _ _ (by decide) (by decide), fun c _ => z _ _ (by decide) (by decide), fun i hi => absurd hi (Nat.not_lt_zero _), fun j hj => absurd hj (Nat.not_lt_zero _), fun l hl => absurd hl (Nat.not_lt_zero _)⟩
  · exact ⟨⟨z _ _ (by decide) (by decide), z _ _ (by decide) (by decide), z _ _ (by decide) (by decide), z _ _ (by decide) (by decide), z _ _ (by decide) (by decide), z _ _ (by decide) (by decide), z _ _ (by decide) (by decide), z _ _ (by decide) (by decide), z _ _ (by decide) (by decide)⟩, ⟨y _ _, y _ _⟩, fun c _ => z _ _ (by decide) (by decide), fun c _ => z _ _ (by decide) (by decide), fun j hj => absurd hj (Nat.not_lt_zero _), fun j hj => z _ _ (by decide) (by decide), fun j _ k hk => absurd hk (Nat.not_lt_zero _), fun q _ => z _ _ (by decide) (by decide), fun k hk => absurd hk (Nat.not_lt_zero _), fun l hl => absurd hl (Nat.not_lt_zero _)⟩
  · exact ⟨⟨Nat.zero_le _, Nat.zero_le _, Nat.zero_le _, Nat.zero_le _, Nat.zero_le _, Nat.zero_le _, Nat.zero_le _, Nat.zero_le _⟩, fun c _ => ⟨Nat.zero_le _, Nat.zero_le _, rfl⟩, fun i hi => absurd hi (Nat.not_lt_zero _), fun j hj => absurd hj (Nat.not_lt_zero _), fun j _ => Nat.zero_le _, fun j _ k hk => absurd hk (Nat.not_lt_zero _), fun j _ => rfl, fun j _ i _ => ⟨Nat.zero_le _, fun _ => rfl⟩, fun l hl => absurd hl (Nat.not_lt_zero _)⟩
  · refine ⟨⟨Or.inl ⟨rfl, a2⟩, Or.inl ⟨rfl, a3⟩, a4, Or.inl rfl⟩, fun k hk => absurd hk (Nat.not_lt_zero _), fun p hp => Or.inl (a5 p hp), fun p hp => ⟨fun e => ?_, fun ⟨k, hk, _⟩ => absurd hk (Nat.not_lt_zero _)⟩⟩
    rw [a5 p hp] at e
    have b : pq p 0 0 < 1560000 := by unfold pq; omega
    have e2 : pq p (c1 (fun _ _ => 0) p) (c2 (fun _ _ => 0) p) = pq p 0 0 := by
      unfold c1 c2
      split <;> rfl
    rw [e2] at e
    exact absurd e (m1_ne (by omega))
end
