/-! ===== whether a statement goes on ===== -/
section GO
variable {ch mt : Nat → Nat} {ab : Nat → Nat → Bool} {n : Nat} {X : Nat → Nat} {τ : Nat → Nat → Nat → Nat → Nat} {tk i : Nat}
theorem sup0 {f : Nat → Nat} : sup f 0 ↔ ∃ t, t < 4 ∧ f t < 1000 := by
  constructor
  · rintro ⟨t, ht, h⟩
    rw [Nat.zero_mul, Nat.zero_add] at h
    exact ⟨t, ht, h⟩
  · rintro ⟨t, ht, h⟩
    exact ⟨t, ht, by rw [Nat.zero_mul, Nat.zero_add]; exact h⟩
theorem go_no (h : (ch i = 33 ∧ ltr (ch (i + 1))) ∨ ch i = 46 ∨ ch i = 94) : ¬ sup (un ch mt ab X τ tk i 0) 0 := by
  rw [sup0]
  rintro ⟨t, ht, h1⟩
  rcases h with ⟨h, hl⟩ | h | h
  · rw [un_33 h] at h1
    rw [if_neg (by omega)] at h1; omega
  · rw [un_46 h] at h1
    rw [if_neg (by omega)] at h1; omega
  · rw [un_94 h] at h1
    rw [if_neg (by omega)] at h1; omega
theorem go_pm (h : ch i = 43 ∨ ch i = 45) (h1 : ch (i + 1) = 48 ∨ ch (i + 1) = 49) : sup (un ch mt ab X τ tk i 0) 0 := by
  rw [sup0]
  have hb : ch (i + 1) - 48 < 2 := by omega
  rcases h with h | h
  · exact ⟨_, (i_on 0 (by omega) _ hb).2, by rw [un_43 h, if_pos rfl]; omega⟩
  · exact ⟨_, (i_of 0 (by omega) _ hb).2, by rw [un_45 h, if_pos rfl]; omega⟩
theorem go_64 (h : ch i = 64) : sup (un ch mt ab X τ tk i 0) 0 ↔ ∃ t, t < 4 ∧ X (((ch (i + 1) - 97) * 4 + 0) * 28 + (0 * 4 + t)) < 1000 := by
  rw [sup0]
  constructor
  · rintro ⟨t, ht, h1⟩
    rw [un_64 h, if_pos (by omega)] at h1
    exact ⟨t, ht, by rw [Nat.zero_mul, Nat.zero_add]; exact (sat_lt.mp h1).2⟩
  · rintro ⟨t, ht, h1⟩
    rw [Nat.zero_mul, Nat.zero_add] at h1
    refine ⟨t, ht, ?_⟩
    rw [un_64 h, if_pos (by omega)]
    exact sat_lt.mpr ⟨by omega, h1⟩
theorem go_63 (h : ch i = 63) : sup (un ch mt ab X τ tk i 0) 0 ↔ sup (τ (i + 2) tk 0) 0 ∨ sup (τ (mt (i + 1) + 2) tk 0) 0 := by
  rw [sup0, sup0, sup0]
  constructor
  · rintro ⟨t, ht, h1⟩
    rw [un_63 h] at h1
    rcases Nat.lt_or_ge (τ (i + 2) tk 0 t) 1000 with q | q
    · exact Or.inl ⟨t, ht, q⟩
    · exact Or.inr ⟨t, ht, by omega⟩
  · rintro (⟨t, ht, h1⟩ | ⟨t, ht, h1⟩)
    · exact ⟨t, ht, by rw [un_63 h]; omega⟩
    · exact ⟨t, ht, by rw [un_63 h]; omega⟩
theorem go_42 (h : ch i = 42) : sup (un ch mt ab X τ tk i 0) 0 := by
  rw [sup0]
  exact ⟨0, by omega, by rw [un_42 h, if_pos (by omega)]; exact clo_0⟩
theorem go_84 (h : ch i = 84) (hz : ch (skp ch mt 6 (mt (i + 1) + 1)) ≠ 90) : sup (un ch mt ab X τ tk i 0) 0 ↔ sup (mdr ch mt ab τ i tk 0) 0 := by
  have e : un ch mt ab X τ tk i 0 = mdr ch mt ab τ i tk 0 := by
    funext c
    rw [un_84 h]
    unfold tryr
    rw [if_neg hz]
  rw [e]
theorem go_84z (h : ch i = 84) (hz : ch (skp ch mt 6 (mt (i + 1) + 1)) = 90) (hs : ST1 (τ (skp ch mt 6 (mt (i + 1) + 1) + 2) tk)) : sup (un ch mt ab X τ tk i 0) 0 ↔ sup (mdr ch mt ab τ i tk 0) 0 ∧ sup (τ (skp ch mt 6 (mt (i + 1) + 1) + 2) tk 0) 0 := by
  have e : ∀ c, un ch mt ab X τ tk i 0 c = vm 32 (mdr ch mt ab τ i tk 0) (emx τ (skp ch mt 6 (mt (i + 1) + 1) + 2) tk) c := by
    intro c
    rw [un_84 h]
    unfold tryr
    rw [if_pos hz]
  constructor
  · intro h1
    obtain ⟨t, ht, h1⟩ := sup0.mp h1
    rw [e] at h1
    obtain ⟨c, hc, h2, h3⟩ := vm_lt.mp h1
    unfold emx at h3
    rw [if_neg (show ¬ (t / 4 ≠ 0) by omega)] at h3
    have hc4 : t / 4 = c / 4 := Classical.byContradiction (fun z => by rw [if_neg z] at h3; omega)
    rw [if_pos hc4] at h3
    have h3 : τ (skp ch mt 6 (mt (i + 1) + 1) + 2) tk (c % 4) (t % 4) < 1000 := by omega
    refine ⟨sup0.mpr ⟨c, by omega, h2⟩, ?_⟩
    exact hs (c % 4) 0 0 (by omega) (by omega) (by omega) (sup0.mpr ⟨t % 4, by omega, h3⟩)
  · rintro ⟨h1, h2⟩
    obtain ⟨c, hc, h1⟩ := sup0.mp h1
    obtain ⟨t, ht, h3⟩ := sup0.mp (hs 0 c 0 (by omega) hc (by omega) h2)
    refine sup0.mpr ⟨t, ht, ?_⟩
    rw [e]
    refine vm_lt.mpr ⟨c, by omega, h1, ?_⟩
    unfold emx
    rw [if_pos (show t / 4 = c / 4 by omega), show c % 4 = c by omega, show t % 4 = t by omega]
    exact Nat.lt_of_le_of_lt (Nat.min_le_left _ _) h3
end GO
