/-! ===== the signs of a text that is well made ===== -/
theorem sck_125 (ch : Nat → Nat) : ∀ f p k, sck ch f p k < p + f → ch (sck ch f p k) = 125
  | 0, p, k, h => by
    have : sck ch 0 p k = p := rfl
    omega
  | f + 1, p, k, h => by
    have e : sck ch (f + 1) p k = (if ch p = 123 then sck ch f (p + 1) (k + 1) else if ch p = 125 then (if k = 0 then p else sck ch f (p + 1) (k - 1)) else sck ch f (p + 1) k) := rfl
    rw [e] at h ⊢
    by_cases q : ch p = 123
    · rw [if_pos q] at h ⊢
      exact sck_125 ch f (p + 1) (k + 1) (by omega)
    · rw [if_neg q] at h ⊢
      by_cases q2 : ch p = 125
      · rw [if_pos q2] at h ⊢
        by_cases q3 : k = 0
        · rw [if_pos q3]; exact q2
        · rw [if_neg q3] at h ⊢
          exact sck_125 ch f (p + 1) (k - 1) (by omega)
      · rw [if_neg q2] at h ⊢
        exact sck_125 ch f (p + 1) k (by omega)
theorem mtp_125 {ch : Nat → Nat} {q : Nat} (h : mtp ch q < 61) : ch (mtp ch q) = 125 := sck_125 ch 61 (q + 1) 0 (by
  have : mtp ch q = sck ch 61 (q + 1) 0 := rfl
  omega)
def LQ (ch : Nat → Nat) (q : Nat) : Prop := ((ltr (ch q) ∧ ch (q + 1) = 123) ↔ Tkr ch q) ∧ ch q < 128 ∧ (ch q = 64 → 97 ≤ ch (q + 1) ∧ ch (q + 1) ≤ 104)
theorem LQ.no {ch : Nat → Nat} {q : Nat} (h1 : ¬ ltr (ch q)) (h2 : ch q < 128) (h3 : ch q ≠ 64) : LQ ch q := ⟨⟨fun z => absurd z.1 h1, fun z => absurd z.1 h1⟩, h2, fun z => absurd z h3⟩
theorem OkS.ch {ch mt : Nat → Nat} {i e : Nat} (hs : OkS ch mt i e) : ch i ≠ 123 := by
  rcases hs with h1 | h1 | h1 | h1 | h1 | h1 | h1 <;> have := h1.1 <;> omega
theorem lq_walk {n : Nat} {ch : Nat → Nat} (hW : WF ch (mtp ch) n) : ∀ (f sp e : Nat), e ≤ sp + f → Wlk ch (mtp ch) sp e → e ≤ n → ch e ≠ 123 → ∀ q, sp ≤ q → q < e → LQ ch q := by
  have hn := hW.1
  intro f
  induction f with
  | zero => exact fun sp e h1 _ _ _ q h2 h3 => absurd h3 (by omega)
  | succ f ih =>
    intro sp e h1 hw he hce q hq1 hq2
    rcases hw.cases with k | ⟨k1, k2, k3⟩
    · omega
    · obtain ⟨x1, x2⟩ := nxt_ok hW k2
      rcases Nat.lt_or_ge q (nxt ch (mtp ch) sp) with w | w
      · -- a block of it
        have blk : ∀ b, ch b = 123 → sp < b → mtp ch b < e → ∀ q, b ≤ q → q ≤ mtp ch b → LQ ch q := fun b hb hs hm q h2 h3 => by
          have hbr := hW.br hb
          have h125 := mtp_125 (ch := ch) (q := b) (by omega)
          rcases Nat.lt_or_ge b q with v | v
          · rcases Nat.lt_or_ge q (mtp ch b) with u | u
            · exact ih (b + 1) (mtp ch b) (by omega) (hW.2.2.2 b hb).2.2 (by omega) (by omega) q (by omega) u
            · obtain rfl : q = mtp ch b := by omega
              exact LQ.no (by omega) (by omega) (by omega)
          · obtain rfl : q = b := by omega
            exact LQ.no (by omega) (by omega) (by omega)
        have hn2 : nxt ch (mtp ch) sp = e ∨ ch (nxt ch (mtp ch) sp) ≠ 123 := by
          rcases k3.cases with v | v
          · exact Or.inl v
          · exact Or.inr v.2.1.ch
        have hn3 : ch (nxt ch (mtp ch) sp) ≠ 123 := by
          rcases hn2 with v | v
          · rw [v]; exact hce
          · exact v
        have k2' := k2
        rcases k2 with h | h | h | h | h | h | h
        · have e1 : nxt ch (mtp ch) sp = sp + 2 := by unfold nxt; rw [if_neg (by omega), if_neg (by omega), if_neg (by omega), if_neg (by omega)]
          rw [e1] at w hn3
          have h33 := h.1
          rcases Nat.lt_or_ge sp q with v | v
          · obtain rfl : q = sp + 1 := by omega
            refine ⟨⟨fun z => absurd z.2 hn3, fun z => ?_⟩, by have := h.2.1; omega, fun z => by have := h.2.1; omega⟩
            have := z.2.2
            rw [Nat.add_sub_cancel] at this
            omega
          · obtain rfl : q = sp := by omega
            exact LQ.no (by omega) (by omega) (by omega)
        · have e1 : nxt ch (mtp ch) sp = sp + 2 := by unfold nxt; rw [if_neg (by omega), if_neg (by omega), if_neg (by omega), if_neg (by omega)]
          rw [e1] at w
          obtain ⟨h64, ha, hb, _⟩ := h
          rcases Nat.lt_or_ge sp q with v | v
          · obtain rfl : q = sp + 1 := by omega
            exact LQ.no (by omega) (by omega) (by omega)
          · obtain rfl : q = sp := by omega
            exact ⟨⟨fun z => absurd z.1 (by omega), fun z => absurd z.1 (by omega)⟩, by omega, fun _ => ⟨ha, hb⟩⟩
        · have e1 : nxt ch (mtp ch) sp = sp + 2 := by unfold nxt; rw [if_neg (by omega), if_neg (by omega), if_neg (by omega), if_neg (by omega)]
          rw [e1] at w
          rcases Nat.lt_or_ge sp q with v | v
          · obtain rfl : q = sp + 1 := by omega
            exact LQ.no (by omega) (by omega) (by omega)
          · obtain rfl : q = sp := by omega
            exact LQ.no (by omega) (by omega) (by omega)
        · have e1 : nxt ch (mtp ch) sp = sp + 1 := by unfold nxt; rw [if_neg (by omega), if_neg (by omega), if_neg (by omega), if_pos (by omega)]
          rw [e1] at w
          obtain rfl : q = sp := by omega
          exact LQ.no (by omega) (by omega) (by omega)
        · obtain ⟨h63, g1, g2, g3⟩ := h
          have e1 : nxt ch (mtp ch) sp = mtp ch (mtp ch (sp + 1) + 1) + 1 := by unfold nxt; rw [if_pos h63]
          rw [e1] at w
          have hb1 := hW.br g1
          have hb2 := hW.br g2
          rcases Nat.lt_or_ge sp q with v | v
          · rcases Nat.lt_or_ge (mtp ch (sp + 1)) q with u | u
            · exact blk _ g2 (by omega) g3 q (by omega) (by omega)
            · exact blk _ g1 (by omega) (by omega) q (by omega) (by omega)
          · obtain rfl : q = sp := by omega
            exact LQ.no (by omega) (by omega) (by omega)
        · obtain ⟨h42, g1, g2⟩ := h
          have e1 : nxt ch (mtp ch) sp = mtp ch (sp + 1) + 1 := by unfold nxt; rw [if_neg (by omega), if_pos h42]
          rw [e1] at w
          rcases Nat.lt_or_ge sp q with v | v
          · exact blk _ g1 (by omega) g2 q (by omega) (by omega)
          · obtain rfl : q = sp := by omega
            exact LQ.no (by omega) (by omega) (by omega)
        · obtain ⟨h84, g1, g2, g3, g4⟩ := h
          have hb1 := hW.br g1
          have e1 : nxt ch (mtp ch) sp = if ch (skp ch (mtp ch) 6 (mtp ch (sp + 1) + 1)) = 90 then mtp ch (skp ch (mtp ch) 6 (mtp ch (sp + 1) + 1) + 1) + 1 else skp ch (mtp ch) 6 (mtp ch (sp + 1) + 1) := by
            unfold nxt; rw [if_neg (by omega), if_neg (by omega), if_pos h84]
          have hend : skp ch (mtp ch) 6 (mtp ch (sp + 1) + 1) ≤ e := by
            by_cases z : ch (skp ch (mtp ch) 6 (mtp ch (sp + 1) + 1)) = 90
            · rw [if_pos z] at g4
              have := hW.br g4.1
              omega
            · rw [if_neg z] at g4; exact g4
          have chain : ∀ r, r ≤ 6 → (mtp ch (sp + 1) + 1 ≤ skp ch (mtp ch) r (mtp ch (sp + 1) + 1) ∧ ch (skp ch (mtp ch) r (mtp ch (sp + 1) + 1) - 1) = 125) ∧ ∀ q, mtp ch (sp + 1) + 1 ≤ q → q < skp ch (mtp ch) r (mtp ch (sp + 1) + 1) → LQ ch q := fun r => by
            induction r with
            | zero =>
              intro _
              refine ⟨⟨Nat.le_refl _, ?_⟩, fun q h2 h3 => absurd h3 (by show ¬ q < mtp ch (sp + 1) + 1; omega)⟩
              show ch (mtp ch (sp + 1) + 1 - 1) = 125
              rw [Nat.add_sub_cancel]; exact mtp_125 (by omega)
            | succ r ihr =>
              intro hr
              obtain ⟨⟨c1, c2⟩, c3⟩ := ihr (by omega)
              rw [skp_s]
              by_cases l : ltr (ch (skp ch (mtp ch) r (mtp ch (sp + 1) + 1)))
              · have hbr := g2 r (by omega) l
                have hb := hW.br hbr
                have hup := skp_up hW (j := mtp ch (sp + 1) + 1) g2 (a := r + 1) (b := 6) (by omega) (by omega)
                rw [skp_s, if_pos l] at hup
                rw [if_pos l]
                refine ⟨⟨by omega, by rw [Nat.add_sub_cancel]; exact mtp_125 (by omega)⟩, fun q h2 h3 => ?_⟩
                rcases Nat.lt_or_ge q (skp ch (mtp ch) r (mtp ch (sp + 1) + 1)) with u | u
                · exact c3 q h2 u
                · rcases Nat.lt_or_ge (skp ch (mtp ch) r (mtp ch (sp + 1) + 1)) q with v | v
                  · exact blk _ hbr (by omega) (by omega) q (by omega) (by omega)
                  · obtain rfl : q = skp ch (mtp ch) r (mtp ch (sp + 1) + 1) := by omega
                    exact ⟨⟨fun _ => ⟨l, by omega, c2⟩, fun _ => ⟨l, hbr⟩⟩, by omega, fun z => by omega⟩
              · rw [if_neg l]; exact ⟨⟨c1, c2⟩, c3⟩
          obtain ⟨⟨c1, c2⟩, c3⟩ := chain 6 (by omega)
          rw [e1] at w
          rcases Nat.lt_or_ge sp q with v | v
          · rcases Nat.lt_or_ge (mtp ch (sp + 1)) q with u | u
            · rcases Nat.lt_or_ge q (skp ch (mtp ch) 6 (mtp ch (sp + 1) + 1)) with y | y
              · exact c3 q (by omega) y
              · by_cases z : ch (skp ch (mtp ch) 6 (mtp ch (sp + 1) + 1)) = 90
                · rw [if_pos z] at w g4
                  rcases Nat.lt_or_ge (skp ch (mtp ch) 6 (mtp ch (sp + 1) + 1)) q with y2 | y2
                  · exact blk _ g4.1 (by omega) g4.2 q (by omega) (by omega)
                  · obtain rfl : q = skp ch (mtp ch) 6 (mtp ch (sp + 1) + 1) := by omega
                    exact LQ.no (by omega) (by omega) (by omega)
                · rw [if_neg z] at w; omega
            · exact blk _ g1 (by omega) (by omega) q (by omega) (by omega)
          · obtain rfl : q = sp := by omega
            exact LQ.no (by omega) (by omega) (by omega)
      · exact ih (nxt ch (mtp ch) sp) e (by omega) k3 he hce q w hq2
theorem WF.lq {n : Nat} {ch : Nat → Nat} (hW : WF ch (mtp ch) n) {q : Nat} (hq : q < n) : LQ ch q := lq_walk hW n 0 n (by omega) hW.2.2.1 (Nat.le_refl _) (by rw [hW.2.1 n (Nat.le_refl _)]; omega) q (Nat.zero_le _) hq
