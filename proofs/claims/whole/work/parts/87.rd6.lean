/-! ===== the first program's reader: a block ===== -/
/-- what opening gives -/
def Opn (m B f : Nat) (k : Int32) (S T : St) : Prop := Fr (rdF m) S T ∧ T.1 3 = S.1 3 ∧ T.1 (TA m + 8) = S.1 (TA m + 8) ∧ T.1 (TA m) = upd (S.1 (TA m)) 8 (nI (B + 1)) ∧ T.1 (TA m + 2) = upd (S.1 (TA m + 2)) (f - 1) (nI B) ∧ T.1 (TA m + 3) = upd (S.1 (TA m + 3)) B (nI f) ∧ T.1 (TA m + 4) = upd (S.1 (TA m + 4)) B (nI f) ∧ T.1 (TA m + 5) = upd (S.1 (TA m + 5)) B k ∧ T.1 (TA m + 6) = upd (S.1 (TA m + 6)) B 0
theorem up_ne {f : Nat → Int32} {k x : Nat} {v : Int32} (h : x ≠ k) : upd f k v x = f x := by unfold upd; rw [if_neg h]
/-- the state behind opening is one before the block's first place -/
theorem Opn.pre {m n : Nat} {ch : Nat → Nat} {tk tk' : Bool} {o q : Nat} {k : Int32} {S T : St} (h : Opn m (1 + cb ch q) (q + 1) k S T) (p : Pre m n ch tk o q S) (hq : ch q = 123) (hk : k = -1 ↔ tk' = false) : Pre m n ch tk' (cb ch (q + 1)) (q + 1) T := by
  obtain ⟨a1, a2, a3, a4, a5, a6, a7, a8, a9⟩ := h
  have e := cb_y hq
  have eT : cT ch (q + 1) = cT ch q := cT_n (fun z => by have := z.1; omega)
  refine ⟨p.1.mv a1 ?_, Nat.le_refl _, ?_, ?_, ?_⟩
  · rw [a4]; exact up_ne (by omega)
  · rw [a4, up_at, e]; congr 1
  · rw [a4, eT]; exact (up_ne (by omega)).trans p.2.2.2.1
  · rw [a8, show cb ch (q + 1) = 1 + cb ch q by omega, up_at]; exact hk
theorem Pst.bk {m n : Nat} {ch : Nat → Nat} {tk : Bool} {o q e : Nat} {k : Int32} {S S1 S2 : St} (p : Pre m n ch tk o q S) (hq : ch q = 123) (h1 : Opn m (1 + cb ch q) (q + 1) k S S1) (h2 : Pst m ch (cb ch (q + 1)) (q + 1) e S1 S2) (h3 : BOk ch (S2.1 (TA m + 5)) (S2.1 (TA m + 6)) (cb ch (q + 1)) (q + 1) e) (he : ch e = 125) (hm : mtp ch q = e) (hk : k = -1 ∨ ∃ k', k' < 6 ∧ k = nI k') :
    Pst m ch o q (e + 1) S (st_i S2 (TA m + 4) (cb ch (q + 1)) (nI e)) ∧ S2.1 (TA m + 5) (cb ch (q + 1)) = k := by
  obtain ⟨a1, a2, a3, a4, a5, a6, a7, a8, a9⟩ := h1
  obtain ⟨⟨b1, b2, b3, b4⟩, ⟨b5, b6, b7, b8⟩, b9, b10, b11, b12, b13, b14, b15⟩ := h2
  have ey := cb_y hq
  have eT : cT ch (q + 1) = cT ch q := cT_n (fun z => by have := z.1; omega)
  have ee : cb ch (e + 1) = cb ch e := cb_n (by omega)
  have eeT : cT ch (e + 1) = cT ch e := cT_n (fun z => by have := z.1; omega)
  have ho := p.2.1
  have hB : cb ch (q + 1) = 1 + cb ch q := by omega
  obtain ⟨c3, c4, c5, c6⟩ := b10 (cb ch (q + 1)) (Nat.le_refl _)
  have k5 : S1.1 (TA m + 5) (cb ch (q + 1)) = k := by rw [a8, hB, up_at]
  have hr : ∀ c, c ≠ 4 → (st_i S2 (TA m + 4) (cb ch (q + 1)) (nI e)).1 (TA m + c) = S2.1 (TA m + c) := fun c hc => si_nx _ _ (by omega)
  have h0 : (st_i S2 (TA m + 4) (cb ch (q + 1)) (nI e)).1 (TA m) = S2.1 (TA m) := hr 0 (by omega)
  refine ⟨⟨⟨(a1.trans b1).i (by unfold rdF; simp), (si_nx _ _ (rdF_ne m (o := 4) (by omega))).trans (b2.trans a2), ?_, by omega⟩, ⟨by rw [h0, ee]; exact b5, by rw [h0, eeT]; exact b6, by omega, by omega⟩, fun x hx => ?_, fun b hb => ?_, ?_, fun x hx => ?_, fun x hx => ?_, fun x x1 x2 x3 => ?_, fun x x1 x2 x3 => ?_⟩, c5.trans k5⟩
  · rw [h0, b3, a4]; exact up_ne (by omega)
  · rw [h0, b9 x hx, a4, up_ne (by omega)]
    constructor
    · rintro (z | ⟨z, y, z1, z2, z3⟩)
      · exact Or.inl z
      · exact Or.inr ⟨z, y, by omega, by omega, z3⟩
    · rintro (z | ⟨z, y, z1, z2, z3, z4⟩)
      · exact Or.inl z
      · refine Or.inr ⟨z, y, ?_, ?_, z3, z4⟩
        · rcases Nat.lt_or_ge q y with w | w
          · exact w
          · have : y = q := by omega
            subst this; omega
        · rcases Nat.lt_or_ge y e with w | w
          · exact w
          · have : y = e := by omega
            subst this; omega
  · obtain ⟨d3, d4, d5, d6⟩ := b10 b (by omega)
    rw [hr 3 (by omega), hr 5 (by omega), hr 6 (by omega), si_ni _ _ (show b ≠ cb ch (q + 1) by omega), d3, d4, d5, d6 (by omega), a6, a7, a8, a9, up_ne (by omega), up_ne (by omega), up_ne (by omega), up_ne (by omega)]
    exact ⟨rfl, rfl, rfl, fun _ => rfl⟩
  · left
    rw [hr 6 (by omega), (b10 o (by omega)).2.2.2 (by omega), a9, up_ne (by omega)]
  · rw [hr 2 (by omega), b12 x (by omega), a5, up_ne (by omega)]
  · rw [hr 8 (by omega), b13 x (by omega), a3]
  · have g1 : x ≠ q := fun z => by have := x3.1; rw [z] at this; omega
    have g2 : x ≠ e := fun z => by have := x3.1; rw [z] at this; omega
    rw [hr 8 (by omega)]
    exact b14 x (by omega) (by omega) x3
  · have g2 : x ≠ e := fun z => by rw [z] at x3; omega
    unfold NB
    rw [hr 2 (by omega), hr 3 (by omega), hr 5 (by omega), hr 6 (by omega)]
    by_cases w : x = q
    · subst w
      refine ⟨?_, ?_, by rw [si_at, hm], ?_, ?_, by rw [hm]; exact h3⟩
      · rw [b12 x (by omega), a5, Nat.add_sub_cancel, up_at, hB]
      · rw [c3, a6, hB, up_at]
      · rw [c5, k5]; exact hk
      · rw [c5, k5]
        rcases b11 with z | ⟨z1, z2⟩
        · left; rw [z, a9, hB, up_at]
        · right; rw [k5] at z2; exact ⟨z1, z2⟩
    · obtain ⟨g3, g4, g5, g6⟩ := b15 x (by omega) (by omega) x3
      have hx := cb_mono (ch := ch) (show q + 1 ≤ x by omega)
      have hy := cb_y x3
      rw [si_ni _ _ (show cb ch (x + 1) ≠ cb ch (q + 1) by omega)]
      exact ⟨g3, g4, g5, g6⟩
