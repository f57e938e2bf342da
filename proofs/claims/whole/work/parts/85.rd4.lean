/-! ===== the first program's reader: statements without blocks ===== -/
theorem Rt.mv {m n : Nat} {ch : Nat → Nat} {S T : St} (h : Rt m n ch S) (f : Fr (rdF m) S T) (h1 : T.1 (TA m) 1 = S.1 (TA m) 1) : Rt m n ch T := by
  refine ⟨by rw [f.1]; exact h.1, h1.trans h.2.1, fun i hi => ?_⟩
  rw [f.2 (TA m + 1) (fun q => ?_)]
  · exact h.2.2 i hi
  · unfold rdF at q
    have h3 : TA m + 1 ≠ 3 := TA_ne m 1 (by omega) (by simp)
    simp only [List.mem_cons, List.not_mem_nil, or_false] at q
    omega
/-- the state before a place -/
def Pre (m n : Nat) (ch : Nat → Nat) (tk : Bool) (o i : Nat) (S : St) : Prop := Rt m n ch S ∧ o ≤ cb ch i ∧ S.1 (TA m) 8 = nI (1 + cb ch i) ∧ S.1 (TA m) 10 = nI (cT ch i) ∧ (S.1 (TA m + 5) o = -1 ↔ tk = false)
theorem Pst.pre {m n : Nat} {ch : Nat → Nat} {tk : Bool} {o i j : Nat} {S T : St} (h : Pst m ch o i j S T) (p : Pre m n ch tk o i S) : Pre m n ch tk o j T := by
  obtain ⟨⟨a1, a2, a3, a4⟩, ⟨a5, a6, a7, a8⟩, a9, a10, _⟩ := h
  refine ⟨p.1.mv a1 a3, Nat.le_trans p.2.1 (cb_mono a4), a5, a6, ?_⟩
  rw [(a10 o p.2.1).2.2.1]; exact p.2.2.2.2
theorem cb_cst {ch : Nat → Nat} {i : Nat} : ∀ d, (∀ q, i ≤ q → q < i + d → ch q ≠ 123) → cb ch (i + d) = cb ch i
  | 0, _ => rfl
  | d + 1, h => by
    rw [← Nat.add_assoc, cb_n (h (i + d) (by omega) (by omega)), cb_cst d (fun q h1 h2 => h q h1 (by omega))]
theorem cT_cst {ch : Nat → Nat} {i : Nat} : ∀ d, (∀ q, i ≤ q → q < i + d → ¬ Tkr ch q) → cT ch (i + d) = cT ch i
  | 0, _ => rfl
  | d + 1, h => by
    rw [← Nat.add_assoc, cT_n (h (i + d) (by omega) (by omega)), cT_cst d (fun q h1 h2 => h q h1 (by omega))]
/-- nothing is made -/
theorem Pst.lf {m n : Nat} {ch : Nat → Nat} {tk : Bool} {o i : Nat} {S : St} (p : Pre m n ch tk o i S) (d : Nat) (h1 : ∀ q, i ≤ q → q < i + d → ch q ≠ 123 ∧ ¬ Tkr ch q ∧ ch q ≠ 64) : Pst m ch o i (i + d) S S := by
  have e1 := cb_cst d (fun q a b => (h1 q a b).1)
  have e2 := cT_cst d (fun q a b => (h1 q a b).2.1)
  refine ⟨⟨Fr.refl _ _, rfl, rfl, by omega⟩, ⟨by rw [e1]; exact p.2.2.1, by rw [e2]; exact p.2.2.2.1, by rw [e1]; omega, by rw [e2]; omega⟩, fun q hq => ⟨Or.inl, ?_⟩, fun b hb => ⟨rfl, rfl, rfl, fun _ => rfl⟩, Or.inl rfl, fun _ _ => rfl, fun _ _ => rfl, fun q a b c => absurd c (h1 q a b).2.1, fun q a b c => absurd c (h1 q a b).1⟩
  rintro (z | ⟨_, q', a, b, c, _⟩)
  · exact z
  · exact absurd c (h1 q' a b).2.2
