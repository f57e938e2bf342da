theorem upn_congr {p q : Nat → Int32} (h : ∀ k, k < 6 → p k = q k) : ∀ (n k : Nat), upn p n k = upn q n k
  | 0, _ => rfl
  | n + 1, k => by
    show pn p (upn p n k) = pn q (upn q n k)
    rw [upn_congr h n k]
    unfold pn
    by_cases z : upn q n k < 6
    · rw [if_pos z, if_pos z, h _ z]
    · rw [if_neg z, if_neg z]
theorem isK_congr {p q : Nat → Int32} (h : ∀ k, k < 6 → p k = q k) {k f : Nat} : isK p k f ↔ isK q k f := by
  unfold isK
  constructor
  · rintro ⟨n, h1, h2⟩; exact ⟨n, h1, by rw [← upn_congr h]; exact h2⟩
  · rintro ⟨n, h1, h2⟩; exact ⟨n, h1, by rw [upn_congr h]; exact h2⟩
/-- what is kept of the KINDS -/
def IK (S : St) : Prop := p_ok (S.1 14) ∧ p_ac (S.1 14) ∧ (∀ k, k < 6 → S.1 129 k = S.1 14 k) ∧ (∀ k, k < 6 → S.1 15 k = abv (S.1 14) k 6)
theorem IK.ok2 {S : St} (h : IK S) : p_ok (S.1 129) := fun k hk => by rw [h.2.2.1 k hk]; exact h.1 k hk
theorem IK.ac2 {S : St} (h : IK S) : p_ac (S.1 129) := fun k hk => by rw [upn_congr (fun k hk => h.2.2.1 k hk)]; exact h.2.1 k hk
theorem IK.isK2 {S : St} (h : IK S) {k f : Nat} : isK (S.1 129) k f ↔ isK (S.1 14) k f := isK_congr (fun k hk => h.2.2.1 k hk)
theorem IK.bt {S : St} (h : IK S) {k i : Nat} (hk : k < 6) (hi : i < 6) : bt (S.1 15 k) i = true ↔ isK (S.1 14) k i := by
  rw [h.2.2.2 k hk, abv_bt (by omega)]
  exact ⟨fun q => q.2, fun q => ⟨hi, q⟩⟩
theorem s_above1 (N : Nat) (S : St) {k : Nat} (h : k < 6) : fX1_above N (nI k) S = some (S.1 15 k, S) := by
  unfold fX1_above
  rw [s_isKind1 N S h]
  simp only [Option.bind_some]
  rw [if_neg (show ¬ (1 : Int32) = 0 by decide), if_neg (nI_in h (by omega)), nI_cl (by omega)]
  rfl
theorem s_above0 (N : Nat) (S : St) {l : Int32} (h : l < 0 ∨ nI 6 ≤ l) : fX1_above N l S = some (0, S) := by
  unfold fX1_above
  rw [s_isKind0 N S h]
  rfl
theorem s_k81 (N : Nat) (S : St) {k : Nat} (h : k < 6) : fX8_isKind N (nI k) S = some (1, S) := by
  obtain ⟨h1, h2⟩ := bi_rng h (by omega)
  unfold fX8_isKind
  rw [if_neg h1, if_neg (show ¬ (6 : Int32) ≤ nI k from h2)]; rfl
theorem s_k80 (N : Nat) (S : St) {l : Int32} (h : l < 0 ∨ nI 6 ≤ l) : fX8_isKind N l S = some (0, S) := by
  unfold fX8_isKind
  by_cases h1 : l < 0
  · rw [if_pos h1]; rfl
  · rw [if_neg h1, if_pos (show (6 : Int32) ≤ l from h.resolve_left h1)]; rfl
theorem z10 : ¬ (1 : Int32) = 0 := by decide
/-- promise 16: is -/
theorem st_is (N : Nat) (hN : 8 < N) (S : St) (h : IK S) (a b : Int32) : ∃ r, fX7_is N a b S = some (r, S) ∧ fX8_is N a b S = some (r, S) := by
  unfold fX7_is fX8_is
  rcases nI_cases a 6 (by decide) with ⟨k, hk, rfl⟩ | ha
  · rw [s_isKind1 N S hk, s_k81 N S hk]
    simp only [Option.bind_some, if_neg z10]
    rcases nI_cases b 6 (by decide) with ⟨f, hf, rfl⟩ | hb
    · simp only [s_isKind1 N S hf, s_k81 N S hf, s_above1 N S hk, s_isOf N hN hk hf S h.ok2 h.ac2, Option.bind_some, if_neg z10, s_has N _ (show f < 32 by omega) S]
      by_cases q : isK (S.1 14) k f
      · rw [if_pos ((h.bt hk hf).mpr q), bK_1 (h.isK2.mpr q)]
        exact ⟨1, rfl, rfl⟩
      · rw [if_neg (fun z => q ((h.bt hk hf).mp z)), bK_0 (fun z => q (h.isK2.mp z))]
        exact ⟨0, rfl, rfl⟩
    · rw [s_isKind0 N S hb, s_k80 N S hb]
      exact ⟨-1, rfl, rfl⟩
  · rw [s_isKind0 N S ha, s_k80 N S ha]
    exact ⟨-1, rfl, rfl⟩
