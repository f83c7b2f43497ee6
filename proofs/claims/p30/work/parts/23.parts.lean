/-! ===== contents' plates, the replay, press, rack, lots ===== -/
def kp1 (c s : Nat) : Nat := (c * 13) * 10000 + s * 100
def kp2 (c s d r : Nat) : Nat := (c * 13 + d + 1) * 10000 + s * 100 + r
/-- how often c stands among the first k of a row -/
def cl (f : Nat → Nat) (c : Nat) : Nat → Nat
  | 0 => 0
  | k + 1 => cl f c k + if f k = c then 1 else 0
theorem cl_le (f : Nat → Nat) (c : Nat) : ∀ k, cl f c k ≤ k
  | 0 => Nat.le_refl 0
  | k + 1 => by have := cl_le f c k; rw [cl]; split <;> omega
theorem cl_mono (f : Nat → Nat) (c : Nat) {a : Nat} : ∀ {b : Nat}, a ≤ b → cl f c a ≤ cl f c b
  | 0, h => by obtain rfl : a = 0 := by omega
               exact Nat.le_refl _
  | b + 1, h => by
    rcases Nat.lt_or_ge a (b + 1) with h1 | h1
    · exact Nat.le_trans (cl_mono f c (b := b) (by omega)) (by rw [cl]; omega)
    · obtain rfl : a = b + 1 := by omega
      exact Nat.le_refl _
theorem cl_cong {f g : Nat → Nat} (c : Nat) : ∀ {k : Nat}, (∀ i, i < k → f i = g i) → cl f c k = cl g c k
  | 0, _ => rfl
  | k + 1, h => by rw [cl, cl, cl_cong c (fun i hi => h i (by omega)), h k (by omega)]
section
variable {S : Mem} {ad : Nat → Nat} {n : Nat × Nat} {A : AM}
abbrev L0 : live n 0 := live_lt (by decide)
abbrev L1 : live n 1 := live_lt (by decide)
abbrev L2 : live n 2 := live_lt (by decide)
abbrev L3 : live n 3 := live_lt (by decide)
abbrev L4 : live n 4 := live_lt (by decide)
abbrev L5 : live n 5 := live_lt (by decide)
abbrev L6 : live n 6 := live_lt (by decide)
abbrev L7 : live n 7 := live_lt (by decide)
abbrev L8 : live n 8 := live_lt (by decide)
abbrev L9 : live n 9 := live_lt (by decide)
abbrev L10 : live n 10 := live_lt (by decide)
abbrev L11 : live n 11 := live_lt (by decide)
abbrev L12 : live n 12 := live_lt (by decide)
abbrev L13 : live n 13 := live_lt (by decide)
abbrev L14 : live n 14 := live_lt (by decide)
theorem sp_plateOf1 (h : Rel S ad n A) {c s : Nat} (hc : c < 12) (hs : gI A 2 c = nI s) {post : Int32 → Mem → Prop} (hq : post (nI (kp1 c s)) S) : wpX0_plateOf S (ad 1) (nI c) (-1) post := by
  rintro x rfl
  refine ⟨fun z => absurd rfl z, fun _ => ⟨h.k L1, sp_stateOf h hc ?_⟩⟩
  have e : nI c * nI 13 + (-1) + nI 1 = nI (c * 13) := by
    rw [pk_mul, Int32.add_assoc, show ((-1 : Int32) + nI 1) = 0 from rfl, Int32.add_zero]
  unfold kp1 at hq
  rw [e, hs]
  simp only [pk_mul, nI_add, Nat.add_zero]
  exact hq
theorem sp_plateOf2 (h : Rel S ad n A) {c s d r : Nat} (hc : c < 12) (hs : gI A 2 c = nI s) (hd : d < 12) (hr : gI A 2 d = nI r) {post : Int32 → Mem → Prop} (hq : post (nI (kp2 c s d r)) S) : wpX0_plateOf S (ad 1) (nI c) (nI d) post := by
  rintro x rfl
  refine ⟨fun _ => ⟨h.k L1, sp_stateOf h hd ⟨h.k L1, sp_stateOf h hc ?_⟩⟩, fun z => ?_⟩
  · unfold kp2 at hq
    rw [hs, hr]
    simp only [pk_mul, nI_add]
    exact hq
  · exfalso
    rw [ieq_iff, nI_toInt (by omega), show ((-1 : Int32)).toInt = -1 from rfl] at z
    omega
/-- the replay -/
theorem sp_stateAfter (h : Rel S ad n A) {k c : Nat} {lg : Nat → Nat} (hk : k ≤ 1188) (hlg : ∀ i, i < k → gI A 4 i = nI (lg i) ∧ lg i < 12) (hc : c < 12) {post : Int32 → Mem → Prop} (hq : post (nI (cl lg c k)) S) : wpX0_stateAfter S (ad 1) (nI k) (nI c) post := by
  have key : ∀ m i, i + m = k → wlX0_stateAfter_5 (ad 1) (nI k) (nI c) post (m + 1) (nI (cl lg c i)) (nI i) S := by
    intro m
    induction m with
    | zero =>
      intro i hi
      obtain rfl : i = k := by omega
      exact ⟨fun _ => hq, fun z => absurd (nI_le (Nat.le_refl _) (by omega)) z⟩
    | succ m ih =>
      intro i hi
      have hl := hlg i (by omega)
      refine ⟨fun z => ?_, fun _ => ⟨h.k L1, ad 4, h.r L1 rfl, h.k L4, fun z => ?_, fun _ => ⟨?_, fun z => ?_, fun z => ?_⟩⟩⟩
      · rw [nI_leI (by omega) (by omega)] at z; omega
      · rw [h.len L4, nI_leI (by decide) (by omega)] at z
        have : rn 4 = 1188 := rfl
        omega
      · rw [h.len L4]; exact vp_in_nI (show i < 1188 by omega) (by decide)
      · rw [nI_clamp (by omega), h.i L4, hl.1, nI_eq (by omega) (by omega)] at z
        rintro x rfl
        rw [nI_add]
        have e := ih (i + 1) (by omega)
        rw [cl, if_neg z] at e
        exact e
      · rw [nI_clamp (by omega), h.i L4, hl.1, nI_eq (by omega) (by omega)] at z
        rintro x rfl y rfl
        rw [nI_add, nI_add]
        have e := ih (i + 1) (by omega)
        rw [cl, if_pos z] at e
        exact e
  exact ⟨_, key k 0 (by omega)⟩
/-- the press -/
def bm (A : AM) (w : Int32) : Nat := if gI A 6 2 = w then 0 else 15
def mf (A : AM) (f b w : Int32) : Nat := bm A w + (if gI A 6 0 = f then 0 else 20) + (if gI A 6 1 = b then 0 else 20)
theorem sp_bindingMinutes (h : Rel S ad n A) {w : Int32} {post : Int32 → Mem → Prop} (hq : post (nI (bm A w)) S) : wpX5_bindingMinutes S (ad 6) w post := by
  unfold wpX5_bindingMinutes
  rw [h.i L6]
  refine ⟨h.k L6, fun c => ?_, fun c => ?_⟩
  · rw [bm, if_neg c] at hq; exact hq
  · rw [bm, if_pos c] at hq; exact hq
theorem sp_minutesFor (h : Rel S ad n A) {f b w : Int32} {post : Int32 → Mem → Prop} (hq : post (nI (mf A f b w)) S) : wpX5_minutesFor S (ad 6) f b w post := by
  refine ⟨h.k L6, sp_bindingMinutes h ⟨h.k L6, ?_⟩⟩
  rw [h.i L6, h.i L6]
  unfold mf at hq
  refine ⟨fun c => ⟨fun d => ?_, fun d => ?_⟩, fun c => ?_⟩
  · rw [if_pos c, if_pos d] at hq; exact hq
  · rw [if_pos c, if_neg d] at hq; rintro x rfl; rw [nI_add]; exact hq
  · rw [if_neg c] at hq
    rintro x rfl
    refine ⟨fun d => ?_, fun d => ?_⟩
    · rw [if_pos d] at hq; rw [nI_add]; exact hq
    · rw [if_neg d] at hq; rintro y rfl; rw [nI_add, nI_add]; exact hq
theorem sp_mount (h : Rel S ad n A) {f b w : Int32} (hw : vz_chr w) {post : Unit → Mem → Prop} (hq : ∀ S', Rel S' ad n (aI (aI (aI A 6 0 f) 6 1 b) 6 2 w) → post () S') : wpX5_mount S (ad 6) f b w post := by
  refine ⟨h.k L6, ?_⟩
  rintro S1 rfl S2 rfl
  refine ⟨hw, ?_⟩
  rintro S3 rfl
  exact hq _ (((h.sI L6 0 f).sI L6 1 b).sI L6 2 w)
/-- the rack -/
theorem sp_has (h : Rel S ad n A) {q : Nat} (hq : q < 1560000) {post : Int32 → Mem → Prop} (h1 : gI A 8 (q / 10000) = nI q → post (nI 1) S) (h0 : ¬ gI A 8 (q / 10000) = nI q → post (nI 0) S) : wpX4_has S (ad 7) (nI q) post := by
  refine ⟨h.k L7, ad 8, h.r L7 rfl, ?_⟩
  rw [pk_div (by omega) (by decide) (by decide)]
  exact sp_at h L8 rfl (show q / 10000 < 156 by omega) ⟨fun c => ⟨nar0, h0 c⟩, fun c => ⟨nar1, h1 c⟩⟩
theorem sp_make (h : Rel S ad n A) {q d : Nat} (hq : q < 1560000) (hd : gI A 7 1 = nI d) {post : Unit → Mem → Prop} (h1 : gI A 8 (q / 10000) = nI q → post () S) (h0 : ¬ gI A 8 (q / 10000) = nI q → ∀ S', Rel S' ad n (aI (aI A 8 (q / 10000) (nI q)) 7 1 (nI (d + 1))) → post () S') : wpX4_make S (ad 7) (nI q) post := by
  refine ⟨h.k L7, sp_has h hq (fun c => ⟨fun _ => h1 c, fun z => ?_⟩) (fun c => ⟨fun z => absurd rfl z, fun _ => ⟨h.k L7, ad 8, h.r L7 rfl, ?_⟩⟩)⟩
  · rw [i0, nI_eq (by decide) (by decide)] at z; omega
  · rw [pk_div (by omega) (by decide) (by decide)]
    refine sp_put h L8 rfl (show q / 10000 < 156 by omega) fun S1 hh1 => ⟨hh1.k L7, ?_⟩
    rintro x rfl S2 rfl
    rw [hh1.i L7, gI_aIu _ _ _ _ _ (by decide), hd, nI_add]
    exact h0 c _ (hh1.sI L7 1 _)
/-- a lot -/
def LT (n : Nat × Nat) (t : Nat) : Prop := ∃ i, i < n.2 ∧ t = 60 + 3 * i
def VL (A : AM) (t am z co : Nat) (cf kf : Nat → Nat) : Prop :=
  gI A t 0 = nI am ∧ gI A t 1 = nI z ∧ gI A t 2 = nI co ∧ z ≤ 16 ∧ am ≤ 500 ∧ ∀ k, k < z → gI A (t + 1) k = nI (cf k) ∧ gI A (t + 2) k = nI (kf k) ∧ cf k < 12 ∧ kf k ≤ 99
theorem lt_facts : ∀ i, i < 100 → rk (60 + 3 * i) = 2 ∧ rk (60 + 3 * i + 1) = 8 ∧ rk (60 + 3 * i + 2) = 8 ∧ rn (60 + 3 * i + 1) = 16 ∧ rn (60 + 3 * i + 2) = 16 ∧ rr (0, 0) (60 + 3 * i) 3 = some (60 + 3 * i + 1) ∧ rr (0, 0) (60 + 3 * i) 4 = some (60 + 3 * i + 2) := by decide +kernel
theorem rr_l {t k : Nat} (ht : 60 ≤ t) : rr n t k = rr (0, 0) t k := by
  simp only [rr, show ¬ t = 0 by omega, show ¬ t = 1 by omega, show ¬ t = 5 by omega, show ¬ t = 7 by omega, show ¬ t = 9 by omega, show ¬ t = 13 by omega, show ¬ t = 14 by omega, show ¬ t < 40 by omega, show ¬ t < 60 by omega, if_false]
theorem LT.l {t : Nat} (h : LT n t) (hn : n.2 ≤ 100) : live n t ∧ live n (t + 1) ∧ live n (t + 2) ∧ rk t = 2 ∧ rk (t + 1) = 8 ∧ rk (t + 2) = 8 ∧ rn (t + 1) = 16 ∧ rn (t + 2) = 16 ∧ rr n t 3 = some (t + 1) ∧ rr n t 4 = some (t + 2) := by
  obtain ⟨i, hi, rfl⟩ := h
  obtain ⟨h1, h2, h3, h4, h5, h6, h7⟩ := lt_facts i (by omega)
  refine ⟨Or.inr (Or.inr (by omega)), Or.inr (Or.inr (by omega)), Or.inr (Or.inr (by omega)), h1, h2, h3, h4, h5, ?_, ?_⟩
  · rw [rr_l (by omega)]; exact h6
  · rw [rr_l (by omega)]; exact h7
variable {t am z co : Nat} {cf kf : Nat → Nat}
theorem Rel.lk (h : Rel S ad n A) (ht : LT n t) : isK S (ad t) 2 := by
  have := h.k (ht.l h.2.2.2).1
  rwa [(ht.l h.2.2.2).2.2.2.1] at this
theorem Rel.l3 (h : Rel S ad n A) (ht : LT n t) : mR S (ad t) 3 = some (ad (t + 1)) := h.r (ht.l h.2.2.2).1 (ht.l h.2.2.2).2.2.2.2.2.2.2.2.1
theorem Rel.l4 (h : Rel S ad n A) (ht : LT n t) : mR S (ad t) 4 = some (ad (t + 2)) := h.r (ht.l h.2.2.2).1 (ht.l h.2.2.2).2.2.2.2.2.2.2.2.2
theorem Rel.li (h : Rel S ad n A) (ht : LT n t) (k : Nat) : mI S (ad t) k = gI A t k := h.i (ht.l h.2.2.2).1 k
theorem sp_lotContentOf (h : Rel S ad n A) (ht : LT n t) (v : VL A t am z co cf kf) {k : Nat} (h1 : 1 ≤ k) (h2 : k ≤ z) {post : Int32 → Mem → Prop} (hq : post (nI (cf (k - 1))) S) : wpX2_contentOf S (ad t) (nI k) post := by
  have hl := ht.l h.2.2.2
  have hz := v.2.2.2.1
  refine ⟨h.lk ht, _, h.l3 ht, ?_⟩
  rw [pk_sub h1]
  refine sp_at h hl.2.1 hl.2.2.2.2.1 (by rw [hl.2.2.2.2.2.2.1]; omega) ?_
  rw [(v.2.2.2.2.2 (k - 1) (by omega)).1]; exact hq
theorem sp_keptState (h : Rel S ad n A) (ht : LT n t) (v : VL A t am z co cf kf) {k : Nat} (h1 : 1 ≤ k) (h2 : k ≤ z) {post : Int32 → Mem → Prop} (hq : post (nI (kf (k - 1))) S) : wpX2_keptState S (ad t) (nI k) post := by
  have hl := ht.l h.2.2.2
  have hz := v.2.2.2.1
  refine ⟨h.lk ht, _, h.l4 ht, ?_⟩
  rw [pk_sub h1]
  refine sp_at h hl.2.2.1 hl.2.2.2.2.2.1 (by rw [hl.2.2.2.2.2.2.2.1]; omega) ?_
  rw [(v.2.2.2.2.2 (k - 1) (by omega)).2.1]; exact hq
theorem sp_keep (h : Rel S ad n A) (ht : LT n t) {k : Nat} (h1 : 1 ≤ k) (h2 : k ≤ 16) {x y : Int32} {post : Unit → Mem → Prop} (hq : ∀ S', Rel S' ad n (aI (aI A (t + 1) (k - 1) x) (t + 2) (k - 1) y) → post () S') : wpX2_keep S (ad t) (nI k) x y post := by
  have hl := ht.l h.2.2.2
  refine ⟨h.lk ht, _, h.l3 ht, ?_⟩
  rw [pk_sub h1]
  refine sp_put h hl.2.1 hl.2.2.2.2.1 (by rw [hl.2.2.2.2.2.2.1]; omega) fun S1 h1' => ⟨h1'.lk ht, _, h1'.l4 ht, ?_⟩
  exact sp_put h1' hl.2.2.1 hl.2.2.2.2.2.1 (by rw [hl.2.2.2.2.2.2.2.1]; omega) hq
theorem sp_showsInOtherState (h : Rel S ad n A) (ht : LT n t) (v : VL A t am z co cf kf) {c r : Nat} (hc : c < 12) (hr : r ≤ 99) {post : Int32 → Mem → Prop} (h1 : (∃ k, k < z ∧ cf k = c ∧ kf k ≠ r) → post (nI 1) S) (h0 : (¬ ∃ k, k < z ∧ cf k = c ∧ kf k ≠ r) → post (nI 0) S) : wpX2_showsInOtherState S (ad t) (nI c) (nI r) post := by
  have hz := v.2.2.2.1
  have key : ∀ m i, i + m = z → (∀ k, k < i → ¬ (cf k = c ∧ kf k ≠ r)) → wlX2_showsInOtherState_2 (ad t) (nI c) (nI r) post (m + 1) (nI (i + 1)) S := by
    intro m
    induction m with
    | zero =>
      intro i hi hq
      refine ⟨h.lk ht, fun _ => ⟨nar0, h0 fun ⟨k, hk, hk2⟩ => hq k (by omega) hk2⟩, fun w => ?_⟩
      rw [h.li ht, v.2.1, nI_ltI (by omega) (by omega)] at w; omega
    | succ m ih =>
      intro i hi hq
      have hv := v.2.2.2.2.2 i (by omega)
      have step : ¬ (cf i = c ∧ kf i ≠ r) → ∀ x : Int32, x = nI (i + 1) + nI 1 → wlX2_showsInOtherState_2 (ad t) (nI c) (nI r) post (m + 1) x S := by
        rintro hn x rfl
        rw [nI_add]
        exact ih (i + 1) (by omega) (fun k hk => by
          rcases Nat.lt_or_ge k i with h5 | h5
          · exact hq k h5
          · obtain rfl : k = i := by omega
            exact hn)
      refine ⟨h.lk ht, fun w => ?_, fun _ => sp_lotContentOf h ht v (by omega) (by omega) ⟨fun w => step ?_, fun w => ⟨h.lk ht, sp_keptState h ht v (by omega) (by omega) ⟨fun u => step ?_, fun u => ⟨nar1, h1 ⟨i, by omega, ?_⟩⟩⟩⟩⟩⟩
      · rw [h.li ht, v.2.1, nI_ltI (by omega) (by omega)] at w; omega
      all_goals rw [Nat.add_sub_cancel, nI_eq (by omega) (by omega)] at w
      · exact fun e => w e.1
      all_goals rw [Nat.add_sub_cancel, nI_eq (by omega) (by omega)] at u
      · exact fun e => e.2 u
      · exact ⟨w, u⟩
  exact ⟨_, key z 0 (by omega) (fun q hq => absurd hq (by omega))⟩
/-- the orders' rows -/
def cg (A : AM) (i j : Nat) : Nat := (if gI A 10 i = gI A 10 j then 0 else 20) + (if gI A 11 i = gI A 11 j then 0 else 20)
theorem cg_le (A : AM) (i j : Nat) : cg A i j ≤ 40 := by unfold cg; split <;> split <;> omega
theorem sp_start (h : Rel S ad n A) {k : Nat} (hk : k ≤ 8) {f b : Int32} {post : Unit → Mem → Prop} (hq : ∀ S', Rel S' ad n (aI (aI (aI A 9 3 (nI k)) 10 8 f) 11 8 b) → post () S') : wpX3_start S (ad 9) (nI k) f b post := by
  rintro x rfl
  have e1 : (if nI 8 < nI k then nI 8 else nI k) = nI k := by rw [if_neg]; rw [nI_ltI (by decide) (by omega)]; omega
  rw [e1]
  have e2 : (if nI 0 < nI k then nI k else nI 0) = nI k := by
    split
    · rfl
    · rename_i w
      rw [nI_ltI (by decide) (by omega)] at w
      obtain rfl : k = 0 := by omega
      rfl
  rw [e2]
  refine ⟨h.k L9, ?_⟩
  rintro S1 rfl
  have h1 := h.sI L9 3 (nI k)
  refine ⟨ad 10, h1.r L9 rfl, sp_put h1 L10 rfl (by decide : (8 : Nat) < 9) fun S2 h2 => ⟨h2.k L9, ad 11, h2.r L9 rfl, sp_put h2 L11 rfl (by decide : (8 : Nat) < 9) hq⟩⟩
theorem sp_setSheet (h : Rel S ad n A) {k : Nat} (hk : k < 8) {f b : Int32} {post : Unit → Mem → Prop} (hq : ∀ S', Rel S' ad n (aI (aI A 10 k f) 11 k b) → post () S') : wpX3_setSheet S (ad 9) (nI k) f b post :=
  ⟨h.k L9, ad 10, h.r L9 rfl, sp_put h L10 rfl (show k < 9 by omega) fun S2 h2 => ⟨h2.k L9, ad 11, h2.r L9 rfl, sp_put h2 L11 rfl (show k < 9 by omega) hq⟩⟩
theorem sp_change (h : Rel S ad n A) {i j : Nat} (hi : i < 9) (hj : j < 9) {post : Int32 → Mem → Prop} (hq : post (nI (cg A i j)) S) : wpX3_change S (ad 10) (ad 11) (nI i) (nI j) post := by
  refine sp_at h L10 rfl hi (sp_at h L10 rfl hj ⟨fun c => sp_at h L11 rfl hi (sp_at h L11 rfl hj ⟨fun d => ?_, fun d => ?_⟩), fun c => sp_at h L11 rfl hi (sp_at h L11 rfl hj ⟨fun d => ?_, fun d => ?_⟩)⟩)
  all_goals unfold cg at hq
  · rw [if_neg c, if_neg d] at hq; exact hq
  · rw [if_neg c, if_pos d] at hq; exact hq
  · rw [if_pos c, if_neg d] at hq; exact hq
  · rw [if_pos c, if_pos d] at hq; exact hq
end
