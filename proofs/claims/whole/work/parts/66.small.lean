/-! ===== small calls on both sides: under, promise, fault ===== -/
section SM
variable {N : Nat} {S : St}
/-- what under changes where it answers 1 -/
def unF (S S' : St) : Prop := S'.2 = S.2 ∧ (∀ c, c ∉ [0, 14, 15, 128, 129] → S'.1 c = S.1 c) ∧ (∀ j, j ≠ 11 → j ≠ 12 → S'.1 0 j = S.1 0 j) ∧ S'.1 0 11 = 0 ∧ S'.1 0 12 = 0 ∧ (∀ j, j ≠ 29 → S'.1 128 j = S.1 128 j) ∧ S'.1 128 29 = 0
theorem st_under (hN : 8 < N) (h : IK S) (a b : Int32) : ∃ v S1 S2, fX7_under N a b S = some (v, S1) ∧ fX8_under N a b S1 = some (v, S2) ∧ IK S2 ∧ ((v = 0 ∧ S2 = S) ∨ (v = 1 ∧ unF S S2)) := by
  -- a new parent f (6: none) of k
  have core : ∀ (k f : Nat), k < 6 → f ≤ 6 → (f < 6 → ¬ isK (S.1 14) f k) → ∃ S1 S2, fX1_findAbove N (st_i S 14 k (eP f)) = some S1 ∧ fX8_under_35 N (nI k) (eP f) (st_i (st_i S1 0 11 0) 0 12 0) = some (1, S2) ∧ IK S2 ∧ unF S S2 := by
    intro k f hk hf hn
    have hp := p_ok_upd (c := k) h.1 hf
    have hac := p_ac_upd h.1 h.2.1 hk hf hn
    have e14 : (st_i S 14 k (eP f)).1 14 = upd (S.1 14) k (eP f) := by rw [si_c, sc_same]
    have e15 : (st_i S 14 k (eP f)).1 15 = S.1 15 := si_nx _ _ (by decide)
    have hfa := s_findAbove N hN (st_i S 14 k (eP f)) (by rw [e14]; exact hp)
    rw [e14, e15] at hfa
    generalize hS1 : st_c (st_i S 14 k (eP f)) 15 (fun j => if j < 6 then abv (upd (S.1 14) k (eP f)) j 6 else S.1 15 j) = S1 at hfa
    refine ⟨S1, st_i (st_i (st_i (st_i S1 0 11 0) 0 12 0) 129 k (eP f)) 128 29 0, hfa, ?_, ?_, ?_⟩
    · unfold fX8_under_35
      rw [if_neg (nI_in hk (by omega)), nI_cl (by omega)]
    · have c14 : (st_i (st_i (st_i (st_i S1 0 11 0) 0 12 0) 129 k (eP f)) 128 29 0).1 14 = upd (S.1 14) k (eP f) := by
        rw [si_nx _ _ (by decide), si_nx _ _ (by decide), si_nx _ _ (by decide), si_nx _ _ (by decide), ← hS1, sc_ne _ _ (by decide), e14]
      have c15 : (st_i (st_i (st_i (st_i S1 0 11 0) 0 12 0) 129 k (eP f)) 128 29 0).1 15 = fun j => if j < 6 then abv (upd (S.1 14) k (eP f)) j 6 else S.1 15 j := by
        rw [si_nx _ _ (by decide), si_nx _ _ (by decide), si_nx _ _ (by decide), si_nx _ _ (by decide), ← hS1, sc_same]
      have c129 : (st_i (st_i (st_i (st_i S1 0 11 0) 0 12 0) 129 k (eP f)) 128 29 0).1 129 = upd (S.1 129) k (eP f) := by
        rw [si_nx _ _ (by decide), si_c (st_i (st_i S1 0 11 0) 0 12 0), sc_same, si_nx _ _ (by decide), si_nx _ _ (by decide), ← hS1, sc_ne _ _ (by decide), si_nx _ _ (by decide)]
      unfold IK
      rw [c14, c15, c129]
      refine ⟨hp, hac, fun j hj => ?_, fun j hj => ?_⟩
      · unfold upd
        by_cases q : j = k
        · rw [if_pos q, if_pos q]
        · rw [if_neg q, if_neg q]; exact h.2.2.1 j hj
      · show (if j < 6 then _ else _) = _
        rw [if_pos hj]
    · refine ⟨by rw [← hS1]; rfl, fun c hc => ?_, fun j h1 h2 => ?_, ?_, ?_, fun j hj => ?_, si_at _ _ _ _⟩
      · have n0 : c ≠ 0 := fun z => hc (by rw [z]; decide)
        have n14 : c ≠ 14 := fun z => hc (by rw [z]; decide)
        have n15 : c ≠ 15 := fun z => hc (by rw [z]; decide)
        have n128 : c ≠ 128 := fun z => hc (by rw [z]; decide)
        have n129 : c ≠ 129 := fun z => hc (by rw [z]; decide)
        rw [si_nx _ _ n128, si_nx _ _ n129, si_nx _ _ n0, si_nx _ _ n0, ← hS1, sc_ne _ _ n15, si_nx _ _ n14]
      · rw [si_nx _ _ (by decide), si_nx _ _ (by decide), si_ni _ _ h2, si_ni _ _ h1, ← hS1, sc_ne _ _ (by decide), si_nx _ _ (by decide)]
      · rw [si_nx _ _ (by decide), si_nx _ _ (by decide), si_ni _ _ (by decide), si_at]
      · rw [si_nx _ _ (by decide), si_nx _ _ (by decide), si_at]
      · rw [si_ni _ _ hj, si_nx _ _ (by decide), si_nx _ _ (by decide), si_nx _ _ (by decide), ← hS1, sc_ne _ _ (by decide), si_nx _ _ (by decide)]
  have zero : ∀ {v : Int32}, fX7_under N a b S = some (0, S) → fX8_under N a b S = some (0, S) → ∃ v S1 S2, fX7_under N a b S = some (v, S1) ∧ fX8_under N a b S1 = some (v, S2) ∧ IK S2 ∧ ((v = 0 ∧ S2 = S) ∨ (v = 1 ∧ unF S S2)) := fun h1 h2 => ⟨0, S, S, h1, h2, h, Or.inl ⟨rfl, rfl⟩⟩
  rcases nI_cases a 6 (by decide) with ⟨k, hk, rfl⟩ | ha
  · by_cases hb : b = -1
    · subst hb
      obtain ⟨S1, S2, e1, e2, e3, e4⟩ := core k 6 hk (Nat.le_refl _) (fun z => absurd z (by omega))
      rw [eP_6] at e1 e2
      refine ⟨1, st_i (st_i S1 0 11 0) 0 12 0, S2, ?_, ?_, e3, Or.inr ⟨rfl, e4⟩⟩
      · unfold fX7_under fX1_place fX1_place_19
        rw [s_isKind1 N S hk]
        simp only [Option.bind_some, if_neg z10, if_pos, s_above0 N S (Or.inl (by decide) : (-1 : Int32) < 0 ∨ nI 6 ≤ -1), s_has N 0 (show k < 32 by omega), b_0]
        rw [if_neg (show ¬ (false = true) by decide), if_pos rfl, if_neg (nI_in hk (by omega)), nI_cl (by omega), e1]
        simp only [Option.bind_some, if_neg z10]
      · unfold fX8_under fX8_under_19
        rw [s_k81 N _ hk]
        simp only [Option.bind_some, if_neg z10, if_pos]
        exact e2
    · rcases nI_cases b 6 (by decide) with ⟨f, hf, rfl⟩ | hb6
      · have hhas : fX7_has N (S.1 15 f) (nI k) S = some (if bt (S.1 15 f) k = true then 1 else 0, S) := s_has N _ (by omega) S
        by_cases q : isK (S.1 14) f k
        · refine zero (v := 0) ?_ ?_
          · unfold fX7_under fX1_place fX1_place_19
            rw [s_isKind1 N S hk]
            simp only [Option.bind_some, if_neg z10, if_neg hb, s_isKind1 N S hf, s_above1 N S hf, hhas, if_pos ((h.bt hf hk).mpr q), if_pos]
          · unfold fX8_under fX8_under_19
            rw [s_k81 N S hk]
            simp only [Option.bind_some, if_neg z10, if_neg hb, s_k81 N S hf, s_isOf N hN hf hk S h.ok2 h.ac2, bK_1 (h.isK2.mpr q)]
        · obtain ⟨S1, S2, e1, e2, e3, e4⟩ := core k f hk (by omega) (fun _ => q)
          rw [eP_lt hf] at e1 e2
          have hnb : ¬ bt (S.1 15 f) k = true := fun z => q ((h.bt hf hk).mp z)
          refine ⟨1, st_i (st_i S1 0 11 0) 0 12 0, S2, ?_, ?_, e3, Or.inr ⟨rfl, e4⟩⟩
          · unfold fX7_under fX1_place fX1_place_19
            rw [s_isKind1 N S hk]
            simp only [Option.bind_some, if_neg z10, if_neg hb, s_isKind1 N S hf, s_above1 N S hf, hhas, if_neg hnb, if_pos]
            rw [if_neg (nI_in hk (by omega)), nI_cl (by omega), e1]
            simp only [Option.bind_some, if_neg z10]
          · -- the second program's parents are still the old ones
            have e129 : (st_i (st_i S1 0 11 0) 0 12 0).1 129 = S.1 129 := by
              have hfa := s_findAbove N hN (st_i S 14 k (nI f)) (by
                rw [si_c, sc_same, ← eP_lt hf]; exact p_ok_upd h.1 (by omega))
              rw [e1] at hfa
              have hS1 := Option.some.inj hfa
              rw [si_nx _ _ (by decide), si_nx _ _ (by decide), hS1, sc_ne _ _ (by decide), si_nx _ _ (by decide)]
            have hio := s_isOf N hN hf hk (st_i (st_i S1 0 11 0) 0 12 0) (by rw [e129]; exact h.ok2) (by rw [e129]; exact h.ac2)
            rw [e129, bK_0 (fun z => q (h.isK2.mp z))] at hio
            unfold fX8_under fX8_under_19
            rw [s_k81 N _ hk]
            simp only [Option.bind_some, if_neg z10, if_neg hb, s_k81 N _ hf, hio, if_pos]
            exact e2
      · refine zero (v := 0) ?_ ?_
        · unfold fX7_under fX1_place
          rw [s_isKind1 N S hk]
          simp only [Option.bind_some, if_neg z10, if_neg hb, s_isKind0 N S hb6, if_pos]
        · unfold fX8_under
          rw [s_k81 N S hk]
          simp only [Option.bind_some, if_neg z10, if_neg hb, s_k80 N S hb6, if_pos]
  · refine zero (v := 0) ?_ ?_
    · unfold fX7_under fX1_place
      rw [s_isKind0 N S ha]
      simp only [Option.bind_some, if_pos]
    · unfold fX8_under
      rw [s_k80 N S ha]
      simp only [Option.bind_some, if_pos]
theorem st_promise (a b : Int32) : ∃ v S1 S2, fX7_promise N a b S = some (v, S1) ∧ fX8_promise N a b S1 = some (v, S2) ∧ ((v = 0 ∧ S2 = S) ∨ (v = 1 ∧ ∃ r w, r < 8 ∧ w < 64 ∧ S2 = st_i (st_i S 17 r (nI w)) 130 r (nI w))) := by
  have zero : fX7_promise N a b S = some (0, S) → fX8_promise N a b S = some (0, S) → ∃ v S1 S2, fX7_promise N a b S = some (v, S1) ∧ fX8_promise N a b S1 = some (v, S2) ∧ ((v = 0 ∧ S2 = S) ∨ (v = 1 ∧ ∃ r w, r < 8 ∧ w < 64 ∧ S2 = st_i (st_i S 17 r (nI w)) 130 r (nI w))) := fun h1 h2 => ⟨0, S, S, h1, h2, Or.inl ⟨rfl, rfl⟩⟩
  rcases nI_cases a 8 (by decide) with ⟨r, hr, rfl⟩ | ha
  · rcases nI_cases b 64 (by decide) with ⟨w, hw, rfl⟩ | hb
    · refine ⟨1, st_i S 17 r (nI w), st_i (st_i S 17 r (nI w)) 130 r (nI w), ?_, ?_, Or.inr ⟨rfl, r, w, hr, hw, rfl⟩⟩
      · unfold fX7_promise
        rw [s_isRoutine1 N S hr]
        simp only [Option.bind_some, if_neg z10]
        rw [if_neg (nI_pos (by omega)), if_pos (show nI w < 64 from nI_lt (b := 64) hw (by omega)), if_neg (nI_in hr (by omega)), nI_cl (by omega)]
      · unfold fX8_promise
        rw [s_r81 N _ hr]
        simp only [Option.bind_some, if_neg z10]
        rw [if_neg (nI_pos (by omega)), if_pos (show nI w ≤ 63 from nI_le (b := 63) (by omega) (by omega)), if_neg (nI_in hr (by omega)), nI_cl (by omega)]
    · refine zero ?_ ?_
      · unfold fX7_promise
        rw [s_isRoutine1 N S hr]
        simp only [Option.bind_some, if_neg z10]
        by_cases q : b < 0
        · rw [if_pos q]
        · rw [if_neg q, if_neg (show ¬ b < 64 from fun z => Int32.not_lt.mpr (hb.resolve_left q) z)]
      · unfold fX8_promise
        rw [s_r81 N S hr]
        simp only [Option.bind_some, if_neg z10]
        by_cases q : b < 0
        · rw [if_pos q]
        · rw [if_neg q, if_neg (show ¬ b ≤ 63 from fun z => Int32.not_lt.mpr z (Int32.lt_of_lt_of_le (show (63 : Int32) < nI 64 by decide) (hb.resolve_left q)))]
  · refine zero ?_ ?_
    · unfold fX7_promise
      rw [s_isRoutine0 N S ha]
      simp only [Option.bind_some, if_pos]
    · unfold fX8_promise
      rw [s_r80 N S ha]
      simp only [Option.bind_some, if_pos]
end SM
