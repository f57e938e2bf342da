/-! ===== the first program's reader: the block around is marked ===== -/
theorem Pst.mk {m n : Nat} {ch : Nat → Nat} {tk : Bool} {o i j : Nat} {S T : St} (h : Pst m ch o i j S T) (p : Pre m n ch tk o i S) (hk : S.1 (TA m + 5) o ≠ -1) : Pst m ch o i j S (st_i T (TA m + 6) o 1) := by
  obtain ⟨⟨b1, b2, b3, b4⟩, ⟨b5, b6, b7, b8⟩, b9, b10, b11, b12, b13, b14, b15⟩ := h
  have ho := p.2.1
  have hr : ∀ c, c ≠ 6 → (st_i T (TA m + 6) o 1).1 (TA m + c) = T.1 (TA m + c) := fun c hc => si_nx _ _ (by omega)
  have h0 : (st_i T (TA m + 6) o 1).1 (TA m) = T.1 (TA m) := hr 0 (by omega)
  refine ⟨⟨b1.i (by unfold rdF; simp), (si_nx _ _ (rdF_ne m (o := 6) (by omega))).trans b2, by rw [h0]; exact b3, b4⟩, ⟨by rw [h0]; exact b5, by rw [h0]; exact b6, b7, b8⟩, fun x hx => by rw [h0]; exact b9 x hx, fun b hb => ?_, Or.inr ⟨si_at _ _ _ _, hk⟩, fun x hx => by rw [hr 2 (by omega)]; exact b12 x hx, fun x hx => by rw [hr 8 (by omega)]; exact b13 x hx, fun x x1 x2 x3 => by rw [hr 8 (by omega)]; exact b14 x x1 x2 x3, fun x x1 x2 x3 => ?_⟩
  · obtain ⟨d3, d4, d5, d6⟩ := b10 b hb
    rw [hr 3 (by omega), hr 4 (by omega), hr 5 (by omega)]
    exact ⟨d3, d4, d5, fun z => (si_ni _ _ z).trans (d6 z)⟩
  · obtain ⟨g2, g3, g4, g5, g6, g7⟩ := b15 x x1 x2 x3
    have hx := cb_mono (ch := ch) x1
    have hy := cb_y x3
    unfold NB
    rw [hr 2 (by omega), hr 3 (by omega), hr 4 (by omega), hr 5 (by omega), si_ni _ _ (show cb ch (x + 1) ≠ o by omega)]
    refine ⟨g2, g3, g4, g5, g6, g7.st (fun b h1 h2 => ⟨rfl, si_ni _ _ (show b ≠ o by omega)⟩) rfl (fun z => ?_)⟩
    rw [si_ni _ _ (show cb ch (x + 1) ≠ o by omega)]; exact z
