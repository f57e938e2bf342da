/-! ===== the first program's reader: what it has made from a place to a place ===== -/
/-- the block of a brace is made -/
def NB (m : Nat) (ch : Nat → Nat) (q : Nat) (T : St) : Prop :=
  T.1 (TA m + 2) q = nI (cb ch (q + 1)) ∧ T.1 (TA m + 3) (cb ch (q + 1)) = nI (q + 1) ∧ T.1 (TA m + 4) (cb ch (q + 1)) = nI (mtp ch q) ∧ (T.1 (TA m + 5) (cb ch (q + 1)) = -1 ∨ ∃ k, k < 6 ∧ T.1 (TA m + 5) (cb ch (q + 1)) = nI k) ∧ (T.1 (TA m + 6) (cb ch (q + 1)) = 0 ∨ (T.1 (TA m + 6) (cb ch (q + 1)) = 1 ∧ T.1 (TA m + 5) (cb ch (q + 1)) ≠ -1)) ∧ BOk ch (T.1 (TA m + 5)) (T.1 (TA m + 6)) (cb ch (q + 1)) (q + 1) (mtp ch q)
/-- the blocks up to a number stay, but for one's mark -/
def Kp (m c o : Nat) (S T : St) : Prop := ∀ b, b ≤ c → T.1 (TA m + 3) b = S.1 (TA m + 3) b ∧ T.1 (TA m + 4) b = S.1 (TA m + 4) b ∧ T.1 (TA m + 5) b = S.1 (TA m + 5) b ∧ (b ≠ o → T.1 (TA m + 6) b = S.1 (TA m + 6) b)
def Tkr (ch : Nat → Nat) (q : Nat) : Prop := ltr (ch q) ∧ 0 < q ∧ ch (q - 1) = 125
def Pst (m : Nat) (ch : Nat → Nat) (o i j : Nat) (S T : St) : Prop :=
  (Fr (rdF m) S T ∧ T.1 3 = S.1 3 ∧ T.1 (TA m) 1 = S.1 (TA m) 1 ∧ i ≤ j) ∧ (T.1 (TA m) 8 = nI (1 + cb ch j) ∧ T.1 (TA m) 10 = nI (cT ch j) ∧ 2 * cb ch j + i ≤ 2 * cb ch i + j ∧ 3 * cT ch j + i ≤ 3 * cT ch i + j) ∧
  (∀ p, p < 32 → (bt (T.1 (TA m) 11) p = true ↔ bt (S.1 (TA m) 11) p = true ∨ (p < 8 ∧ ∃ q, i ≤ q ∧ q < j ∧ ch q = 64 ∧ ch (q + 1) = 97 + p))) ∧
  Kp m (cb ch i) o S T ∧ (T.1 (TA m + 6) o = S.1 (TA m + 6) o ∨ (T.1 (TA m + 6) o = 1 ∧ S.1 (TA m + 5) o ≠ -1)) ∧ (∀ q, q < i → T.1 (TA m + 2) q = S.1 (TA m + 2) q) ∧ (∀ h, h < cT ch i → T.1 (TA m + 8) h = S.1 (TA m + 8) h) ∧
  (∀ q, i ≤ q → q < j → Tkr ch q → T.1 (TA m + 8) (cT ch q) = nI q) ∧ (∀ q, i ≤ q → q < j → ch q = 123 → NB m ch q T)
theorem NB.st {m : Nat} {ch : Nat → Nat} {q k o : Nat} {T U : St} (h : NB m ch q T) (hk : mtp ch q < k) (ho : o ≤ cb ch q) (hb : ch q = 123) (hK : Kp m (cb ch k) o T U) (h2 : U.1 (TA m + 2) q = T.1 (TA m + 2) q) : NB m ch q U := by
  have hq := mtp_ge ch q
  have e := cb_y hb
  have hm : cb ch (q + 1) ≤ cb ch k := cb_mono (by omega)
  obtain ⟨a3, a4, a5, a6⟩ := hK _ hm
  have a6 := a6 (by omega)
  obtain ⟨b1, b2, b3, b4, b5, b6⟩ := h
  refine ⟨h2.trans b1, a3.trans b2, a4.trans b3, by rw [a5]; exact b4, by rw [a5, a6]; exact b5, b6.st (fun b h1 h2 => ?_) a5 (fun z => a6.trans z)⟩
  obtain ⟨c3, c4, c5, c6⟩ := hK b (Nat.le_trans h2 (cb_mono (by omega)))
  exact ⟨c5, c6 (by omega)⟩
theorem Kp.trans {m c c' o : Nat} {S T U : St} (h : Kp m c o S T) (h' : Kp m c' o T U) (hc : c ≤ c') : Kp m c o S U := fun b hb => by
  obtain ⟨a3, a4, a5, a6⟩ := h b hb
  obtain ⟨b3, b4, b5, b6⟩ := h' b (by omega)
  exact ⟨b3.trans a3, b4.trans a4, b5.trans a5, fun z => (b6 z).trans (a6 z)⟩
theorem Pst.trans {m : Nat} {ch : Nat → Nat} {o i k j : Nat} {S T U : St} (h : Pst m ch o i k S T) (h' : Pst m ch o k j T U) (ho : o ≤ cb ch i) (hG : GB ch i k) : Pst m ch o i j S U := by
  obtain ⟨⟨a1, a2, a3, a4⟩, ⟨a5, a6, a7, a8⟩, a9, a10, a11, a12, a13, a14, a15⟩ := h
  obtain ⟨⟨b1, b2, b3, b4⟩, ⟨b5, b6, b7, b8⟩, b9, b10, b11, b12, b13, b14, b15⟩ := h'
  have hik := cb_mono (ch := ch) a4
  have hT := cT_mono (ch := ch) a4
  refine ⟨⟨a1.trans b1, b2.trans a2, b3.trans a3, by omega⟩, ⟨b5, b6, by omega, by omega⟩, fun p hp => ?_, a10.trans b10 hik, ?_, fun q hq => (b12 q (by omega)).trans (a12 q hq), fun h hh => (b13 h (by omega)).trans (a13 h hh), fun q h1 h2 h3 => ?_, fun q h1 h2 h3 => ?_⟩
  · rw [b9 p hp, a9 p hp]
    constructor
    · rintro ((z | ⟨z, q, z1, z2, z3⟩) | ⟨z, q, z1, z2, z3⟩)
      · exact Or.inl z
      · exact Or.inr ⟨z, q, z1, by omega, z3⟩
      · exact Or.inr ⟨z, q, by omega, z2, z3⟩
    · rintro (z | ⟨z, q, z1, z2, z3⟩)
      · exact Or.inl (Or.inl z)
      · rcases Nat.lt_or_ge q k with w | w
        · exact Or.inl (Or.inr ⟨z, q, z1, w, z3⟩)
        · exact Or.inr ⟨z, q, w, z2, z3⟩
  · rcases b11 with z | ⟨z1, z2⟩
    · rw [z]; exact a11
    · refine Or.inr ⟨z1, ?_⟩
      rw [← (a10 o ho).2.2.1]; exact z2
  · rcases Nat.lt_or_ge q k with w | w
    · have hc : cT ch q < cT ch k := by
        have := cT_mono (ch := ch) (show q + 1 ≤ k by omega)
        have := cT_y (ch := ch) (i := q) h3
        omega
      rw [b13 _ hc]; exact a14 q h1 w h3
    · exact b14 q w h2 h3
  · rcases Nat.lt_or_ge q k with w | w
    · exact (a15 q h1 w h3).st (hG q h1 w h3).2.1 (Nat.le_trans ho (cb_mono h1)) h3 b10 (b12 q w)
    · exact b15 q w h2 h3
