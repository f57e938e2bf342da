/-! ===== where nothing is raised again, what was taken doesn't matter ===== -/
theorem wkr_congr2 {ch mt : Nat → Nat} {n : Nat} (hW : WF ch mt n) {U U' : Nat → Nat → Nat → Nat} {e : Nat} : ∀ (m p : Nat) (z : (Nat → Nat) × (Nat → Nat)), Wlk ch mt p e → (∀ k, (∀ j, j ≤ k → itn ch mt j p < e) → OkS ch mt (itn ch mt k p) e → U (itn ch mt k p) = U' (itn ch mt k p)) → wkr U (nxt ch mt) m p e z = wkr U' (nxt ch mt) m p e z
  | 0, _, _, _, _ => rfl
  | m + 1, p, z, hw, h => by
    show (if p < e then wkr U (nxt ch mt) m (nxt ch mt p) e (wst (U p) z) else z) = (if p < e then wkr U' (nxt ch mt) m (nxt ch mt p) e (wst (U' p) z) else z)
    by_cases q : p < e
    · rw [if_pos q, if_pos q]
      rcases hw.cases with k | ⟨k1, k2, k3⟩
      · omega
      · rw [show U p = U' p from h 0 (fun j hj => by rw [show j = 0 by omega]; exact q) k2]
        refine wkr_congr2 hW m (nxt ch mt p) _ k3 (fun k h1 h2 => h (k + 1) (fun j hj => ?_) h2)
        cases j with
        | zero => exact q
        | succ j => exact h1 j (by omega)
    · rw [if_neg q, if_neg q]
theorem TK.lt {n B : Nat} {ch mt bn fs kp : Nat → Nat} {ag : Nat → Prop} (hK : TK n B ch mt bn fs kp ag) {b q : Nat} (hb : b < B) (hq : ch q = 123) (h : fs b < q + 1) : b < bn q := by
  have h1 := hK.2.2.2.2.1 q hq
  rcases Nat.lt_or_ge b (bn q) with z | z
  · exact z
  · rcases Nat.lt_or_ge (bn q) b with w | w
    · have := hK.2.2.2.1 _ _ w hb
      omega
    · have : bn q = b := by omega
      rw [this] at h1
      omega
theorem itn_ge {ch mt : Nat → Nat} {n : Nat} (hW : WF ch mt n) {e : Nat} : ∀ (k p : Nat), Wlk ch mt p e → (∀ j, j ≤ k → itn ch mt j p < e) → p + k ≤ itn ch mt k p ∧ Wlk ch mt (itn ch mt k p) e ∧ OkS ch mt (itn ch mt k p) e
  | 0, p, hw, h => by
    rcases hw.cases with hpe | ⟨_, hs, hw'⟩
    · have := h 0 (Nat.le_refl _)
      exact absurd hpe (Nat.ne_of_lt this)
    · exact ⟨Nat.le_refl _, hw, hs⟩
  | k + 1, p, hw, h => by
    rcases hw.cases with hpe | ⟨_, hs, hw'⟩
    · have := h 0 (by omega)
      exact absurd hpe (Nat.ne_of_lt this)
    · have h1 := nxt_ok hW hs
      have h2 := itn_ge hW k (nxt ch mt p) hw' (fun j hj => h (j + 1) (by omega))
      exact ⟨by have := h2.1; show p + (k + 1) ≤ itn ch mt k (nxt ch mt p); omega, h2.2⟩
theorem un_na {ch mt : Nat → Nat} {ab : Nat → Nat → Bool} {X : Nat → Nat} {τ : Nat → Nat → Nat → Nat → Nat} {i e tk tk' : Nat} (hs : OkS ch mt i e) (h94 : ch i ≠ 94) (h : ∀ q, sbn ch mt i q → ∀ s c, τ (q + 1) tk s c = τ (q + 1) tk' s c) : un ch mt ab X τ tk i = un ch mt ab X τ tk' i := by
  funext t c
  rcases hs with h1 | h1 | h1 | h1 | h1 | h1 | h1
  · rw [un_33 h1.1, un_33 h1.1]
  · rw [un_64 h1.1, un_64 h1.1]
  · rcases h1.1 with h2 | h2
    · rw [un_43 h2, un_43 h2]
    · rw [un_45 h2, un_45 h2]
  · rcases h1.1 with h2 | h2
    · rw [un_46 h2, un_46 h2]
    · exact absurd h2 h94
  · rw [un_63 h1.1, un_63 h1.1]
    rw [show τ (i + 2) tk t c = τ (i + 2) tk' t c from h (i + 1) (Or.inl ⟨h1.1, Or.inl rfl⟩) t c, show τ (mt (i + 1) + 2) tk t c = τ (mt (i + 1) + 2) tk' t c from h (mt (i + 1) + 1) (Or.inl ⟨h1.1, Or.inr rfl⟩) t c]
  · rw [un_42 h1.1, un_42 h1.1]
    have e1 : τ (i + 2) tk = τ (i + 2) tk' := by funext s c; exact h (i + 1) (Or.inr (Or.inl ⟨h1.1, rfl⟩)) s c
    rw [e1]
  · rw [un_84 h1.1, un_84 h1.1]
    have e1 : τ (i + 2) tk = τ (i + 2) tk' := by funext s c; exact h (i + 1) (Or.inr (Or.inr ⟨h1.1, Or.inl rfl⟩)) s c
    have e2 : mdr ch mt ab τ i tk t = mdr ch mt ab τ i tk' t := by funext c; unfold mdr; rw [e1]
    unfold tryr
    rw [e2]
    by_cases hz : ch (skp ch mt 6 (mt (i + 1) + 1)) = 90
    · rw [if_pos hz, if_pos hz]
      have e3 : τ (skp ch mt 6 (mt (i + 1) + 1) + 2) tk = τ (skp ch mt 6 (mt (i + 1) + 1) + 2) tk' := by funext s c; exact h (skp ch mt 6 (mt (i + 1) + 1) + 1) (Or.inr (Or.inr ⟨h1.1, Or.inr ⟨hz, rfl⟩⟩)) s c
      unfold emx
      rw [e3]
    · rw [if_neg hz, if_neg hz]
theorem Tab_na {n B : Nat} {ch mt bn fs kp : Nat → Nat} {ag : Nat → Prop} {ab : Nat → Nat → Bool} (hK : TK n B ch mt bn fs kp ag) (X : Nat → Nat) : ∀ (m b : Nat), b < B → 61 ≤ m + fs b → ¬ ag b → ∀ tk tk' s c, Tab ch mt ab n X (fs b) tk s c = Tab ch mt ab n X (fs b) tk' s c
  | 0, b, hb, h, _, _, _, _, _ => absurd (spt_le hK.1.1 (hK.2.2.1 b hb)) (by omega)
  | m + 1, b, hb, h, hna, tk, tk', s, c => by
    have hW := hK.1.1
    have hsp := hK.2.2.1 b hb
    have hw := (hW.sp hsp).1
    rw [Tab_eq hW X hsp]
    unfold rowT
    rw [wkr_congr2 hW 61 (fs b) (z0 s) hw (U' := un ch mt ab X (Tab ch mt ab n X) tk')]
    intro k hk hs
    have hg := hK.2.2.2.2.2.2 b k hb hk
    refine un_na hs (fun z => hna (hg.1 z)) (fun q hq s c => ?_)
    have hbr := sbr_ok hW hs (sbn_sbr hq)
    have hge := itn_ge hW k (fs b) hw hk
    have hbn := hK.2.2.2.2.1 q hbr.1
    have := Tab_na (ab := ab) hK X m (bn q) hbn.1 (by rw [hbn.2]; omega) (fun z => hna ((hg.2.1 q hq).1 z)) tk tk' s c
    rw [hbn.2] at this
    exact this
theorem wkr_dead {U : Nat → Nat → Nat → Nat} {nx : Nat → Nat} {e : Nat} : ∀ (m p : Nat) (z : (Nat → Nat) × (Nat → Nat)), zle z → (∀ s, s < 4 → z.1 s = 1000) → (∀ s, s < 4 → (wkr U nx m p e z).1 s = 1000) ∧ ∀ c, (wkr U nx m p e z).2 c = z.2 c
  | 0, _, _, _, h => ⟨h, fun _ => rfl⟩
  | m + 1, p, z, hz, h => by
    show (∀ s, s < 4 → (if p < e then wkr U nx m (nx p) e (wst (U p) z) else z).1 s = 1000) ∧ ∀ c, (if p < e then wkr U nx m (nx p) e (wst (U p) z) else z).2 c = z.2 c
    by_cases q : p < e
    · rw [if_pos q]
      have hd : ∀ c, vm 4 z.1 (U p) c = 1000 := fun c => vm_top (U p) c h
      obtain ⟨h1, h2⟩ := wkr_dead (U := U) (nx := nx) (e := e) m (nx p) (wst (U p) z) (wst_le hz) (fun s _ => hd s)
      refine ⟨h1, fun c => ?_⟩
      rw [h2 c]
      show min (z.2 c) (vm 4 z.1 (U p) c) = z.2 c
      rw [hd c]; exact Nat.min_eq_left (hz.2 c)
    · rw [if_neg q]; exact ⟨h, fun _ => rfl⟩
theorem vm_pt {h : Nat → Nat} {w c : Nat} : vm 4 h (fun t c => if c = w * 4 + t then 1 else 1000) c = if c / 4 = w then sat (h (c % 4)) 1 else 1000 := by
  by_cases q : c / 4 = w
  · rw [if_pos q, vm_one (k := c % 4) (by omega) h _ c (fun s _ hs => if_neg (by omega)), if_pos (by omega)]
  · rw [if_neg q]
    exact mn_top (fun s hs => by
      show 1000 ≤ sat (h s) (if c = w * 4 + s then 1 else 1000)
      rw [if_neg (by omega), sat_top']; exact Nat.le_refl _)
