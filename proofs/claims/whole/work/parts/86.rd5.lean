/-! ===== the first program's reader: a call, and raising again ===== -/
theorem rdF_ne (m : Nat) {o : Nat} (ho : o < 9) : 3 ≠ TA m + o := fun q => TA_ne m o ho (c := 3) (by simp) q.symm
theorem Pst.cl {m n : Nat} {ch : Nat → Nat} {tk : Bool} {o i k : Nat} {S : St} (p : Pre m n ch tk o i S) (hi : ch i = 64) (hk : k < 8) (h1 : ch (i + 1) = 97 + k) : Pst m ch o i (i + 2) S (st_i S (TA m) 11 (S.1 (TA m) 11 ||| (1 <<< (nI k &&& 31)))) := by
  have hn : ∀ q, i ≤ q → q < i + 2 → ch q ≠ 123 ∧ ¬ Tkr ch q := fun q a b => by
    rcases (show q = i ∨ q = i + 1 by omega) with e | e
    · subst e
      exact ⟨by omega, fun z => by have := z.1; omega⟩
    · subst e
      exact ⟨by omega, fun z => by have := z.1; omega⟩
  have e1 := cb_cst 2 (fun q a b => (hn q a b).1)
  have e2 := cT_cst 2 (fun q a b => (hn q a b).2)
  have hr : ∀ c, 0 < c → (st_i S (TA m) 11 (S.1 (TA m) 11 ||| (1 <<< (nI k &&& 31)))).1 (TA m + c) = S.1 (TA m + c) := fun c hc => si_nx _ _ (by omega)
  refine ⟨⟨(Fr.refl _ S).i (by unfold rdF; simp), si_nx _ _ (show 3 ≠ TA m from rdF_ne m (o := 0) (by omega)), si_ni _ _ (by omega), by omega⟩, ⟨?_, ?_, by rw [e1]; omega, by rw [e2]; omega⟩, fun q hq => ?_, fun b hb => ?_, ?_, fun q _ => ?_, fun h _ => ?_, fun q a b c => absurd c (hn q a b).2, fun q a b c => absurd c (hn q a b).1⟩
  · rw [si_ni _ _ (by omega), e1]; exact p.2.2.1
  · rw [si_ni _ _ (by omega), e2]; exact p.2.2.2.1
  · rw [si_at, b_or, b_one (by omega) hq, Bool.or_eq_true, decide_eq_true_iff]
    constructor
    · rintro (z | z)
      · exact Or.inl z
      · subst z
        exact Or.inr ⟨hk, i, by omega, by omega, hi, h1⟩
    · rintro (z | ⟨z, q', z1, z2, z3, z4⟩)
      · exact Or.inl z
      · rcases (show q' = i ∨ q' = i + 1 by omega) with e | e
        · subst e
          exact Or.inr (by omega)
        · subst e
          omega
  · rw [hr 3 (by omega), hr 4 (by omega), hr 5 (by omega), hr 6 (by omega)]
    exact ⟨rfl, rfl, rfl, fun _ => rfl⟩
  · rw [hr 6 (by omega)]; exact Or.inl rfl
  · rw [hr 2 (by omega)]
  · rw [hr 8 (by omega)]
theorem Pst.ag {m n : Nat} {ch : Nat → Nat} {o i : Nat} {S : St} (p : Pre m n ch true o i S) (hi : ch i = 94) : Pst m ch o i (i + 1) S (st_i S (TA m + 6) o 1) := by
  have hn : ∀ q, i ≤ q → q < i + 1 → ch q ≠ 123 ∧ ¬ Tkr ch q ∧ ch q ≠ 64 := fun q a b => by
    obtain rfl : q = i := by omega
    exact ⟨by omega, fun z => by have := z.1; omega, by omega⟩
  have e1 := cb_cst 1 (fun q a b => (hn q a b).1)
  have e2 := cT_cst 1 (fun q a b => (hn q a b).2.1)
  have hr : ∀ c, c ≠ 6 → (st_i S (TA m + 6) o 1).1 (TA m + c) = S.1 (TA m + c) := fun c hc => si_nx _ _ (by omega)
  have h0 : (st_i S (TA m + 6) o 1).1 (TA m) = S.1 (TA m) := hr 0 (by omega)
  refine ⟨⟨(Fr.refl _ S).i (by unfold rdF; simp), si_nx _ _ (rdF_ne m (o := 6) (by omega)), by rw [h0], by omega⟩, ⟨?_, ?_, by rw [e1]; omega, by rw [e2]; omega⟩, fun q hq => ?_, fun b hb => ?_, ?_, fun q _ => ?_, fun h _ => ?_, fun q a b c => absurd c (hn q a b).2.1, fun q a b c => absurd c (hn q a b).1⟩
  · rw [h0, e1]; exact p.2.2.1
  · rw [h0, e2]; exact p.2.2.2.1
  · rw [h0]
    refine ⟨Or.inl, ?_⟩
    rintro (z | ⟨_, q', a, b, c, _⟩)
    · exact z
    · exact absurd c (hn q' a b).2.2
  · rw [hr 3 (by omega), hr 4 (by omega), hr 5 (by omega)]
    exact ⟨rfl, rfl, rfl, fun z => si_ni _ _ z⟩
  · refine Or.inr ⟨si_at _ _ _ _, fun z => ?_⟩
    have := p.2.2.2.2.mp z
    exact absurd this (by decide)
  · rw [hr 2 (by omega)]
  · rw [hr 8 (by omega)]
