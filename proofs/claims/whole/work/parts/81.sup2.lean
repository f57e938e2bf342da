/-! ===== the same for the fixpoint, and for what comes to pass ===== -/
theorem SI_Fx {nF : Nat → Nat} {cF mF : Nat → Nat → Nat} {ab : Nat → Nat → Bool} (hW : ∀ r, r < 8 → WF (cF r) (mF r) (nF r)) {X : Nat → Nat} (hX : SI X) : SI (Fx nF cF mF ab X) := by
  rintro r s s' e hr hs hs' he ⟨t, ht, h⟩
  have hT := Tab_sup (ab := ab) (hW r hr) hX 61 0 (by omega) (Or.inl rfl) 0
  have val : ∀ s t, s < 4 → t < 4 → Fx nF cF mF ab X ((r * 4 + s) * 28 + (e * 4 + t)) = if e = 0 then min (Tab (cF r) (mF r) ab (nF r) X 0 0 s (0 * 4 + t)) (Tab (cF r) (mF r) ab (nF r) X 0 0 s (7 * 4 + t)) else Tab (cF r) (mF r) ab (nF r) X 0 0 s (e * 4 + t) := by
    intro s t hs ht
    have d1 : ((r * 4 + s) * 28 + (e * 4 + t)) / 112 = r := by omega
    have d2 : ((r * 4 + s) * 28 + (e * 4 + t)) / 28 % 4 = s := by omega
    have d3 : ((r * 4 + s) * 28 + (e * 4 + t)) % 28 = e * 4 + t := by omega
    unfold Fx
    rw [if_pos (by omega), d1, d2, d3]
    by_cases q : e = 0
    · rw [if_pos (by omega), if_pos q, q, show 28 + (0 * 4 + t) = 7 * 4 + t by omega]
    · rw [if_neg (by omega), if_neg q]
  rw [val s t hs ht] at h
  by_cases q : e = 0
  · rw [if_pos q] at h
    rcases Nat.lt_or_ge (Tab (cF r) (mF r) ab (nF r) X 0 0 s (0 * 4 + t)) 1000 with v | v
    · obtain ⟨u, hu, h2⟩ := hT s s' 0 hs hs' (by omega) ⟨t, ht, v⟩
      refine ⟨u, hu, ?_⟩
      rw [val s' u hs' hu, if_pos q]
      exact Nat.lt_of_le_of_lt (Nat.min_le_left _ _) h2
    · have v2 : Tab (cF r) (mF r) ab (nF r) X 0 0 s (7 * 4 + t) < 1000 := by omega
      obtain ⟨u, hu, h2⟩ := hT s s' 7 hs hs' (by omega) ⟨t, ht, v2⟩
      refine ⟨u, hu, ?_⟩
      rw [val s' u hs' hu, if_pos q]
      exact Nat.lt_of_le_of_lt (Nat.min_le_right _ _) h2
  · rw [if_neg q] at h
    obtain ⟨u, hu, h2⟩ := hT s s' e hs hs' (by omega) ⟨t, ht, h⟩
    refine ⟨u, hu, ?_⟩
    rw [val s' u hs' hu, if_neg q]; exact h2
theorem SI_Xs {nF : Nat → Nat} {cF mF : Nat → Nat → Nat} {ab : Nat → Nat → Bool} (hW : ∀ r, r < 8 → WF (cF r) (mF r) (nF r)) : SI (Xs (Fx nF cF mF ab)) := by
  have key : ∀ m, SI (itr (Fx nF cF mF ab) m) := by
    intro m
    induction m with
    | zero =>
      rintro r s s' e _ _ _ _ ⟨t, _, h⟩
      rw [itr_0] at h
      exact absurd h (by omega)
    | succ m ih =>
      have e : itr (Fx nF cF mF ab) (m + 1) = Fx nF cF mF ab (itr (Fx nF cF mF ab) m) := by funext x; rw [itr_s]
      rw [e]
      exact SI_Fx hW ih
  exact key 896
section SV
variable {hb : Nat → Nat → Prop} {lb : Nat → Prop} {ch mt : Nat → Nat} {ab : Nat → Nat → Bool} {n : Nat}
def MS1 (μ : Nat → Prop) : Prop := ∀ s s', s < 4 → s' < 4 → μ s → μ s'
theorem mun_s (hW : WF ch mt n) {τ : Nat → Nat → Nat → Nat → Nat} {μ : Nat → Nat → Nat → Prop} {i e tk : Nat} (hs : OkS ch mt i e) (hτ : ∀ q, sbr ch mt i q → ∀ tk, ST1 (τ (q + 1) tk)) (hμ : ∀ q, sbr ch mt i q → ∀ tk, MS1 (μ (q + 1) tk)) : MS1 (mun hb lb ch mt ab τ μ tk i) := by
  intro s s' hs1 hs2 h
  rcases h with ⟨h1, h2⟩ | ⟨h1, u, hu, h2, h3⟩ | ⟨h1, h2⟩
  · refine Or.inl ⟨h1, ?_⟩
    rcases h2 with h2 | h2
    · exact Or.inl (hμ (i + 1) (Or.inl ⟨h1, Or.inl rfl⟩) tk s s' hs1 hs2 h2)
    · exact Or.inr (hμ (mt (i + 1) + 1) (Or.inl ⟨h1, Or.inr rfl⟩) tk s s' hs1 hs2 h2)
  · refine Or.inr (Or.inl ⟨h1, s', hs2, ?_, hμ (i + 1) (Or.inr (Or.inl ⟨h1, rfl⟩)) tk u s' hu hs2 h3⟩)
    have := clo_h (w := τ (i + 2) tk) (h := un1 s') s'
    unfold un1 at this ⊢
    rw [if_pos rfl] at this
    omega
  · refine Or.inr (Or.inr ⟨h1, ?_⟩)
    rcases h2 with (h2 | ⟨c, p, hc, ho, h3, h4⟩) | ⟨hz, c, hc, h3, h4⟩
    · exact Or.inl (Or.inl (hμ (i + 1) (Or.inr (Or.inr ⟨h1, Or.inl rfl⟩)) tk s s' hs1 hs2 h2))
    · obtain ⟨u, hu, h5⟩ := hτ (i + 1) (Or.inr (Or.inr ⟨h1, Or.inl rfl⟩)) tk s s' (c / 4) hs1 hs2 (by omega) (sup_c h3)
      have hd : (c / 4 * 4 + u) / 4 = c / 4 := by omega
      have hm : (c / 4 * 4 + u) % 4 = u := by omega
      obtain ⟨_, _, r, hr, p1, p2, _⟩ := tko_sp ho
      have hsb : sbr ch mt i (p + 1) := Or.inr (Or.inr ⟨h1, Or.inr (Or.inl ⟨r, hr, by rw [← p1]; exact p2, by rw [p1]⟩)⟩)
      refine Or.inl (Or.inr ⟨c / 4 * 4 + u, p, by omega, by rw [hd]; exact ho, h5, ?_⟩)
      rw [hd, hm]
      rcases h4 with h4 | h4
      · exact Or.inl h4
      · exact Or.inr (hμ (p + 1) hsb (c / 4) (c % 4) u (by omega) hu h4)
    · obtain ⟨u, hu, h5⟩ := mdr_sup (ab := ab) (tk := tk) hW hs h1 hτ s s' (c / 4) hs1 hs2 (by omega) (sup_c h3)
      have hd : (c / 4 * 4 + u) / 4 = c / 4 := by omega
      have hm : (c / 4 * 4 + u) % 4 = u := by omega
      have hsb : sbr ch mt i (skp ch mt 6 (mt (i + 1) + 1) + 1) := Or.inr (Or.inr ⟨h1, Or.inr (Or.inr ⟨hz, rfl⟩)⟩)
      refine Or.inr ⟨hz, c / 4 * 4 + u, by omega, h5, ?_⟩
      rw [hd, hm]
      rcases h4 with h4 | ⟨c', hc', w1, w2, w3⟩
      · exact Or.inl (hμ _ hsb tk (c % 4) u (by omega) hu h4)
      · obtain ⟨v, hv, h6⟩ := hτ _ hsb tk (c % 4) u (c' / 4) (by omega) hu (by omega) (sup_c w2)
        exact Or.inr ⟨c' / 4 * 4 + v, by omega, by omega, h6, w3⟩
theorem wst_sup {U : Nat → Nat → Nat} (hst : ST1 U) {z y : (Nat → Nat) × (Nat → Nat)} (h : zsm z y) : zsm (wst U z) (wst U y) := by
  refine ⟨?_, fun w hw8 => ?_⟩
  · rintro ⟨t, ht, h1⟩
    have h1 : vm 4 z.1 U t < 1000 := h1
    obtain ⟨s, hs, h2, h3⟩ := vm_lt.mp h1
    obtain ⟨s', hs', h4⟩ := h.1 ⟨s, hs, h2⟩
    obtain ⟨u, hu, h5⟩ := hst s s' 0 hs hs' (by omega) ⟨t, ht, by rw [Nat.zero_mul, Nat.zero_add]; exact h3⟩
    rw [Nat.zero_mul, Nat.zero_add] at h5
    exact ⟨u, hu, vm_lt.mpr ⟨s', hs', h4, h5⟩⟩
  · rintro ⟨t, ht, h1⟩
    have h1 : min (z.2 (w * 4 + t)) (vm 4 z.1 U (w * 4 + t)) < 1000 := h1
    rcases Nat.lt_or_ge (z.2 (w * 4 + t)) 1000 with v | v
    · obtain ⟨u, hu, h2⟩ := h.2 w hw8 ⟨t, ht, v⟩
      exact ⟨u, hu, Nat.lt_of_le_of_lt (Nat.min_le_left _ _) h2⟩
    · have h2 : vm 4 z.1 U (w * 4 + t) < 1000 := by omega
      obtain ⟨s, hs, h3, h4⟩ := vm_lt.mp h2
      obtain ⟨s', hs', h5⟩ := h.1 ⟨s, hs, h3⟩
      obtain ⟨u, hu, h6⟩ := hst s s' w hs hs' hw8 ⟨t, ht, h4⟩
      exact ⟨u, hu, Nat.lt_of_le_of_lt (Nat.min_le_right _ _) (vm_lt.mpr ⟨s', hs', h5, h6⟩)⟩
theorem wme_s (hW : WF ch mt n) {U : Nat → Nat → Nat → Nat} {M : Nat → Nat → Prop} {e : Nat} : ∀ (m p : Nat) (z y : (Nat → Nat) × (Nat → Nat)), Wlk ch mt p e → (∀ i, p ≤ i → i < e → OkS ch mt i e → ST1 (U i) ∧ MS1 (M i)) → zsm z y → wme U M (nxt ch mt) m p e z → wme U M (nxt ch mt) m p e y
  | 0, _, _, _, _, _, _, h => h
  | m + 1, p, z, y, hw, hU, hz, h => by
    obtain ⟨h1, h2⟩ := h
    rcases hw.cases with k | ⟨k1, k2, k3⟩
    · omega
    · obtain ⟨u1, u2⟩ := hU p (Nat.le_refl _) h1 k2
      have := (nxt_ok hW k2).1
      refine ⟨h1, ?_⟩
      rcases h2 with ⟨t, ht, h3, h4⟩ | h2
      · obtain ⟨t', ht', h5⟩ := hz.1 ⟨t, ht, h3⟩
        exact Or.inl ⟨t', ht', h5, u2 t t' ht ht' h4⟩
      · exact Or.inr (wme_s hW m (nxt ch mt p) _ _ k3 (fun i h1 h2 h3 => hU i (by omega) h2 h3) (wst_sup u1 hz) h2)
theorem Mtb_s (hW : WF ch mt n) {X : Nat → Nat} (hX : SI X) : ∀ (m sp : Nat), 61 ≤ m + sp → spt ch sp → ∀ tk, MS1 (Mtb hb lb ch mt ab n X sp tk)
  | 0, sp, h1, h2, _ => absurd (spt_le hW h2) (by omega)
  | m + 1, sp, h1, h2, tk => by
    intro s s' hs hs' h
    rw [Mtb_eq hW X h2] at h ⊢
    unfold rowM at h ⊢
    refine wme_s hW 61 sp (z0 s) (z0 s') (hW.sp h2).1 (fun i i1 i2 i3 => ?_) ?_ h
    · have hb2 : ∀ q, sbr ch mt i q → 61 ≤ m + (q + 1) ∧ spt ch (q + 1) := fun q hq => by
        have := sbr_ok hW i3 hq
        exact ⟨by omega, sbr_sp hW i3 hq⟩
      have ht : ∀ q, sbr ch mt i q → ∀ tk, ST1 (Tab ch mt ab n X (q + 1) tk) := fun q hq tk => Tab_sup hW hX m (q + 1) (hb2 q hq).1 (hb2 q hq).2 tk
      exact ⟨un_sup hW hX i3 ht, mun_s hW i3 ht (fun q hq tk => Mtb_s hW hX m (q + 1) (hb2 q hq).1 (hb2 q hq).2 tk)⟩
    · refine ⟨fun _ => ⟨s', hs', ?_⟩, fun w _ ⟨t, _, h⟩ => absurd h (by show ¬ (1000 : Nat) < 1000; omega)⟩
      show un1 s' s' < 1000
      unfold un1; rw [if_pos rfl]; omega
end SV
