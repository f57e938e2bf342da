/-! ===== by which ways a block is left doesn't depend on what is there at its start ===== -/
def sup (f : Nat → Nat) (w : Nat) : Prop := ∃ t, t < 4 ∧ f (w * 4 + t) < 1000
def ST1 (M : Nat → Nat → Nat) : Prop := ∀ s s' w, s < 4 → s' < 4 → w < 8 → sup (M s) w → sup (M s') w
def SI (X : Nat → Nat) : Prop := ∀ r s s' e, r < 8 → s < 4 → s' < 4 → e < 7 → (∃ t, t < 4 ∧ X ((r * 4 + s) * 28 + (e * 4 + t)) < 1000) → ∃ t, t < 4 ∧ X ((r * 4 + s') * 28 + (e * 4 + t)) < 1000
theorem vm_lt {n : Nat} {h : Nat → Nat} {M : Nat → Nat → Nat} {c : Nat} : vm n h M c < 1000 ↔ ∃ s, s < n ∧ h s < 1000 ∧ M s c < 1000 := by
  unfold vm
  rw [mn_lt (Nat.le_refl 1000)]
  constructor
  · rintro ⟨s, h1, h2⟩; exact ⟨s, h1, sat_lt.mp h2⟩
  · rintro ⟨s, h1, h2⟩; exact ⟨s, h1, sat_lt.mpr h2⟩
theorem sup_c {f : Nat → Nat} {c : Nat} (h : f c < 1000) : sup f (c / 4) := ⟨c % 4, by omega, by rw [show c / 4 * 4 + c % 4 = c by omega]; exact h⟩
section SU
variable {ch mt : Nat → Nat} {ab : Nat → Nat → Bool} {n : Nat}
theorem mdr_sup (hW : WF ch mt n) {τ : Nat → Nat → Nat → Nat → Nat} {i e tk : Nat} (hs : OkS ch mt i e) (hi : ch i = 84) (hτ : ∀ q, sbr ch mt i q → ∀ tk, ST1 (τ (q + 1) tk)) : ST1 (mdr ch mt ab τ i tk) := by
  rintro s s' w hs1 hs2 hw ⟨t, ht, h⟩
  obtain ⟨c, hc, h1, h2⟩ := vm_lt.mp h
  -- the way by which the block is left, from the other start
  obtain ⟨u, hu, h3⟩ := hτ (i + 1) (Or.inr (Or.inr ⟨hi, Or.inl rfl⟩)) tk s s' (c / 4) hs1 hs2 (by omega) (sup_c h1)
  have hd : (c / 4 * 4 + u) / 4 = c / 4 := by omega
  have hm : (c / 4 * 4 + u) % 4 = u := by omega
  have h2 : kmo τ (tko ch mt ab (mt (i + 1) + 1) (c / 4)) c (w * 4 + t) < 1000 := h2
  cases ho : tko ch mt ab (mt (i + 1) + 1) (c / 4) with
  | none =>
    rw [ho] at h2
    have h2 : (if w * 4 + t = c then 0 else 1000) < 1000 := h2
    have hcw : w * 4 + t = c := Classical.byContradiction (fun z => by rw [if_neg z] at h2; omega)
    refine ⟨u, hu, vm_lt.mpr ⟨c / 4 * 4 + u, by omega, h3, ?_⟩⟩
    show kmo τ (tko ch mt ab (mt (i + 1) + 1) ((c / 4 * 4 + u) / 4)) (c / 4 * 4 + u) (w * 4 + u) < 1000
    rw [hd, ho]
    show (if w * 4 + u = c / 4 * 4 + u then 0 else 1000) < 1000
    rw [if_pos (by omega)]; omega
  | some p =>
    rw [ho] at h2
    have h2 : τ (p + 2) (c / 4) (c % 4) (w * 4 + t) < 1000 := h2
    obtain ⟨_, _, r, hr, p1, p2, _⟩ := tko_sp ho
    have hsb : sbr ch mt i (p + 1) := Or.inr (Or.inr ⟨hi, Or.inr (Or.inl ⟨r, hr, by rw [← p1]; exact p2, by rw [p1]⟩)⟩)
    obtain ⟨t', ht', h5⟩ := hτ (p + 1) hsb (c / 4) (c % 4) u w (by omega) hu hw ⟨t, ht, h2⟩
    refine ⟨t', ht', vm_lt.mpr ⟨c / 4 * 4 + u, by omega, h3, ?_⟩⟩
    show kmo τ (tko ch mt ab (mt (i + 1) + 1) ((c / 4 * 4 + u) / 4)) (c / 4 * 4 + u) (w * 4 + t') < 1000
    rw [hd, ho]
    show τ (p + 2) ((c / 4 * 4 + u) / 4) ((c / 4 * 4 + u) % 4) (w * 4 + t') < 1000
    rw [hd, hm]; exact h5
theorem un_sup (hW : WF ch mt n) {X : Nat → Nat} (hX : SI X) {τ : Nat → Nat → Nat → Nat → Nat} {i e tk : Nat} (hs : OkS ch mt i e) (hτ : ∀ q, sbr ch mt i q → ∀ tk, ST1 (τ (q + 1) tk)) : ST1 (un ch mt ab X τ tk i) := by
  rintro s s' w hs1 hs2 hw ⟨t, ht, h⟩
  have pt : ∀ (v : Nat), (if w * 4 + t = v * 4 + s then 1 else 1000) < 1000 → w = v := fun v hv => by
    have : w * 4 + t = v * 4 + s := Classical.byContradiction (fun z => by rw [if_neg z] at hv; omega)
    omega
  rcases hs with h1 | h1 | h1 | h1 | h1 | h1 | h1
  · rw [un_33 h1.1] at h
    have := pt _ h
    refine ⟨s', hs2, ?_⟩
    rw [un_33 h1.1, if_pos (by omega)]; omega
  · rw [un_64 h1.1] at h
    by_cases q : w * 4 + t < 28
    · rw [if_pos q] at h
      have hx := (sat_lt.mp h).2
      obtain ⟨u, hu, h2⟩ := hX (ch (i + 1) - 97) s s' w (by omega) hs1 hs2 (by omega) ⟨t, ht, hx⟩
      refine ⟨u, hu, ?_⟩
      rw [un_64 h1.1, if_pos (by omega)]
      exact sat_lt.mpr ⟨by omega, h2⟩
    · rw [if_neg q] at h; omega
  · have hb : ch (i + 1) - 48 < 2 := by omega
    rcases h1.1 with h2 | h2
    · rw [un_43 h2] at h
      have e1 := (i_on s hs1 _ hb).2
      have e2 := (i_on s' hs2 _ hb).2
      have : w * 4 + t = ton s (ch (i + 1) - 48) := Classical.byContradiction (fun z => by rw [if_neg z] at h; omega)
      refine ⟨ton s' (ch (i + 1) - 48), e2, ?_⟩
      rw [un_43 h2, if_pos (by omega)]; omega
    · rw [un_45 h2] at h
      have e1 := (i_of s hs1 _ hb).2
      have e2 := (i_of s' hs2 _ hb).2
      have : w * 4 + t = tof s (ch (i + 1) - 48) := Classical.byContradiction (fun z => by rw [if_neg z] at h; omega)
      refine ⟨tof s' (ch (i + 1) - 48), e2, ?_⟩
      rw [un_45 h2, if_pos (by omega)]; omega
  · rcases h1.1 with h2 | h2
    · rw [un_46 h2] at h
      have : w * 4 + t = 28 + s := Classical.byContradiction (fun z => by rw [if_neg z] at h; omega)
      refine ⟨s', hs2, ?_⟩
      rw [un_46 h2, if_pos (by omega)]; omega
    · rw [un_94 h2] at h
      have : 0 < tk ∧ w * 4 + t = tk * 4 + s := Classical.byContradiction (fun z => by rw [if_neg z] at h; omega)
      refine ⟨s', hs2, ?_⟩
      rw [un_94 h2, if_pos (by omega)]; omega
  · rw [un_63 h1.1] at h
    rcases Nat.lt_or_ge (τ (i + 2) tk s (w * 4 + t)) 1000 with q | q
    · obtain ⟨u, hu, h2⟩ := hτ (i + 1) (Or.inl ⟨h1.1, Or.inl rfl⟩) tk s s' w hs1 hs2 hw ⟨t, ht, q⟩
      refine ⟨u, hu, ?_⟩
      rw [un_63 h1.1]
      exact Nat.lt_of_le_of_lt (Nat.min_le_left _ _) h2
    · have q2 : τ (mt (i + 1) + 2) tk s (w * 4 + t) < 1000 := by omega
      obtain ⟨u, hu, h2⟩ := hτ (mt (i + 1) + 1) (Or.inl ⟨h1.1, Or.inr rfl⟩) tk s s' w hs1 hs2 hw ⟨t, ht, q2⟩
      refine ⟨u, hu, ?_⟩
      rw [un_63 h1.1]
      exact Nat.lt_of_le_of_lt (Nat.min_le_right _ _) h2
  · have hc0 : ∀ s, clo (τ (i + 2) tk) (un1 s) s = 0 := fun s => by
      have := clo_h (w := τ (i + 2) tk) (h := un1 s) s
      unfold un1 at this
      rw [if_pos rfl] at this
      unfold un1
      omega
    by_cases w0 : w = 0
    · refine ⟨s', hs2, ?_⟩
      rw [un_42 h1.1, if_pos (by omega), w0, Nat.zero_mul, Nat.zero_add, hc0]; omega
    · rw [un_42 h1.1, if_neg (by omega)] at h
      obtain ⟨v, hv, _, h3⟩ := vm_lt.mp h
      obtain ⟨u, hu, h4⟩ := hτ (i + 1) (Or.inr (Or.inl ⟨h1.1, rfl⟩)) tk v s' w hv hs2 hw ⟨t, ht, h3⟩
      refine ⟨u, hu, ?_⟩
      rw [un_42 h1.1, if_neg (by omega)]
      exact vm_lt.mpr ⟨s', hs2, by rw [hc0]; omega, h4⟩
  · have hs' : OkS ch mt i e := Or.inr (Or.inr (Or.inr (Or.inr (Or.inr (Or.inr h1)))))
    have hmd := mdr_sup (ab := ab) (tk := tk) hW hs' h1.1 hτ
    rw [un_84 h1.1] at h
    unfold tryr at h
    by_cases hz : ch (skp ch mt 6 (mt (i + 1) + 1)) = 90
    · rw [if_pos hz] at h
      have hend := hτ (skp ch mt 6 (mt (i + 1) + 1) + 1) (Or.inr (Or.inr ⟨h1.1, Or.inr (Or.inr ⟨hz, rfl⟩)⟩)) tk
      obtain ⟨c, hc, h2, h3⟩ := vm_lt.mp h
      obtain ⟨u, hu, h4⟩ := hmd s s' (c / 4) hs1 hs2 (by omega) (sup_c h2)
      have hd : (c / 4 * 4 + u) / 4 = c / 4 := by omega
      have hm : (c / 4 * 4 + u) % 4 = u := by omega
      unfold emx at h3
      -- by its end, or by a way of its own
      have fin : ∀ t', t' < 4 → emx τ (skp ch mt 6 (mt (i + 1) + 1) + 2) tk (c / 4 * 4 + u) (w * 4 + t') < 1000 → sup (un ch mt ab X τ tk i s') w := fun t' ht' hh => by
        refine ⟨t', ht', ?_⟩
        rw [un_84 h1.1]
        unfold tryr
        rw [if_pos hz]
        exact vm_lt.mpr ⟨c / 4 * 4 + u, by omega, h4, hh⟩
      rcases Nat.lt_or_ge (if (w * 4 + t) / 4 = c / 4 then τ (skp ch mt 6 (mt (i + 1) + 1) + 2) tk (c % 4) ((w * 4 + t) % 4) else 1000) 1000 with q | q
      · have hwc : (w * 4 + t) / 4 = c / 4 := Classical.byContradiction (fun z => by rw [if_neg z] at q; omega)
        rw [if_pos hwc] at q
        obtain ⟨t', ht', h5⟩ := hend (c % 4) u 0 (by omega) hu (by omega) ⟨(w * 4 + t) % 4, by omega, by rw [Nat.zero_mul, Nat.zero_add]; exact q⟩
        rw [Nat.zero_mul, Nat.zero_add] at h5
        refine fin t' ht' ?_
        unfold emx
        rw [hm, if_pos (show (w * 4 + t') / 4 = (c / 4 * 4 + u) / 4 by omega), show (w * 4 + t') % 4 = t' by omega]
        exact Nat.lt_of_le_of_lt (Nat.min_le_left _ _) h5
      · have q2 : (if (w * 4 + t) / 4 ≠ 0 then τ (skp ch mt 6 (mt (i + 1) + 1) + 2) tk (c % 4) (w * 4 + t) else 1000) < 1000 := by omega
        have hw0 : (w * 4 + t) / 4 ≠ 0 := Classical.byContradiction (fun z => by rw [if_neg z] at q2; omega)
        rw [if_pos hw0] at q2
        obtain ⟨t', ht', h5⟩ := hend (c % 4) u w (by omega) hu hw ⟨t, ht, q2⟩
        refine fin t' ht' ?_
        unfold emx
        rw [hm, if_pos (show (w * 4 + t') / 4 ≠ 0 by omega)]
        exact Nat.lt_of_le_of_lt (Nat.min_le_right _ _) h5
    · rw [if_neg hz] at h
      obtain ⟨u, hu, h2⟩ := hmd s s' w hs1 hs2 hw ⟨t, ht, h⟩
      refine ⟨u, hu, ?_⟩
      rw [un_84 h1.1]
      unfold tryr
      rw [if_neg hz]; exact h2
/-- two walks with the same ways open -/
def zsm (z y : (Nat → Nat) × (Nat → Nat)) : Prop := ((∃ t, t < 4 ∧ z.1 t < 1000) → ∃ t, t < 4 ∧ y.1 t < 1000) ∧ ∀ w, w < 8 → sup z.2 w → sup y.2 w
theorem wkr_sup (hW : WF ch mt n) {U : Nat → Nat → Nat → Nat} {e : Nat} : ∀ (m p : Nat) (z y : (Nat → Nat) × (Nat → Nat)), Wlk ch mt p e → (∀ i, p ≤ i → i < e → OkS ch mt i e → ST1 (U i)) → zsm z y → zsm (wkr U (nxt ch mt) m p e z) (wkr U (nxt ch mt) m p e y)
  | 0, _, _, _, _, _, h => h
  | m + 1, p, z, y, hw, hU, h => by
    show zsm (if p < e then wkr U (nxt ch mt) m (nxt ch mt p) e (wst (U p) z) else z) (if p < e then wkr U (nxt ch mt) m (nxt ch mt p) e (wst (U p) y) else y)
    by_cases q : p < e
    · rw [if_pos q, if_pos q]
      rcases hw.cases with k | ⟨k1, k2, k3⟩
      · omega
      · have hst := hU p (Nat.le_refl _) q k2
        have := (nxt_ok hW k2).1
        refine wkr_sup hW m (nxt ch mt p) _ _ k3 (fun i h1 h2 h3 => hU i (by omega) h2 h3) ⟨?_, fun w hw8 => ?_⟩
        · rintro ⟨t, ht, h1⟩
          have h1 : vm 4 z.1 (U p) t < 1000 := h1
          obtain ⟨s, hs, h2, h3⟩ := vm_lt.mp h1
          obtain ⟨s', hs', h4⟩ := h.1 ⟨s, hs, h2⟩
          obtain ⟨u, hu, h5⟩ := hst s s' 0 hs hs' (by omega) ⟨t, ht, by rw [Nat.zero_mul, Nat.zero_add]; exact h3⟩
          rw [Nat.zero_mul, Nat.zero_add] at h5
          exact ⟨u, hu, vm_lt.mpr ⟨s', hs', h4, h5⟩⟩
        · rintro ⟨t, ht, h1⟩
          have h1 : min (z.2 (w * 4 + t)) (vm 4 z.1 (U p) (w * 4 + t)) < 1000 := h1
          rcases Nat.lt_or_ge (z.2 (w * 4 + t)) 1000 with v | v
          · obtain ⟨u, hu, h2⟩ := h.2 w hw8 ⟨t, ht, v⟩
            exact ⟨u, hu, Nat.lt_of_le_of_lt (Nat.min_le_left _ _) h2⟩
          · have h2 : vm 4 z.1 (U p) (w * 4 + t) < 1000 := by omega
            obtain ⟨s, hs, h3, h4⟩ := vm_lt.mp h2
            obtain ⟨s', hs', h5⟩ := h.1 ⟨s, hs, h3⟩
            obtain ⟨u, hu, h6⟩ := hst s s' w hs hs' hw8 ⟨t, ht, h4⟩
            exact ⟨u, hu, Nat.lt_of_le_of_lt (Nat.min_le_right _ _) (vm_lt.mpr ⟨s', hs', h5, h6⟩)⟩
    · rw [if_neg q, if_neg q]; exact h
theorem Tab_sup (hW : WF ch mt n) {X : Nat → Nat} (hX : SI X) : ∀ (m sp : Nat), 61 ≤ m + sp → spt ch sp → ∀ tk, ST1 (Tab ch mt ab n X sp tk)
  | 0, sp, h1, h2, _ => absurd (spt_le hW h2) (by omega)
  | m + 1, sp, h1, h2, tk => by
    rintro s s' w hs hs' hw ⟨t, ht, h⟩
    rw [Tab_eq hW X h2] at h
    have hz : zsm (z0 s) (z0 s') := by
      refine ⟨fun _ => ⟨s', hs', ?_⟩, fun w _ ⟨t, _, h⟩ => absurd h (by show ¬ (1000 : Nat) < 1000; omega)⟩
      show un1 s' s' < 1000
      unfold un1; rw [if_pos rfl]; omega
    have key := wkr_sup hW (U := un ch mt ab X (Tab ch mt ab n X) tk) (e := enp n mt sp) 61 sp (z0 s) (z0 s') (hW.sp h2).1 (fun i i1 i2 i3 => un_sup hW hX i3 (fun q hq tk' => by
      have hb := sbr_ok hW i3 hq
      exact Tab_sup hW hX m (q + 1) (by omega) (sbr_sp hW i3 hq) tk')) hz
    unfold rowT rsr at h
    by_cases w0 : w = 0
    · rw [if_pos (by omega)] at h
      obtain ⟨u, hu, h3⟩ := key.1 ⟨w * 4 + t, by omega, h⟩
      refine ⟨u, hu, ?_⟩
      rw [Tab_eq hW X h2]
      unfold rowT rsr
      rw [if_pos (by omega), w0, Nat.zero_mul, Nat.zero_add]; exact h3
    · rw [if_neg (by omega)] at h
      obtain ⟨u, hu, h3⟩ := key.2 w hw ⟨t, ht, h⟩
      refine ⟨u, hu, ?_⟩
      rw [Tab_eq hW X h2]
      unfold rowT rsr
      rw [if_neg (by omega)]; exact h3
end SU
