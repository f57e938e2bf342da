/-! ===== the first program's reader: kinds, calls ===== -/
section R2
variable {N m n : Nat} {ch : Nat → Nat} {S : St}
theorem r_kindAt (hn : n ≤ 60) (hz : ∀ q, n ≤ q → ch q = 0) (hc : ∀ i, ch i < 256) (h : Rt m n ch S) {i : Nat} (hi : i < 1000) : fX5_kindAt N m (nI i) S = some (if ltr (ch i) then nI (ch i - 65) else -1, S) := by
  unfold fX5_kindAt fX5_kindAt_21
  rw [r_at hn h hi]
  simp only [Option.bind_some]
  by_cases q : ltr (ch i)
  · have hin : i < n := by
      rcases Nat.lt_or_ge i n with z | z
      · exact z
      · rw [hz i z] at q; omega
    have e : cA n ch i - 65 = nI (ch i - 65) := by unfold cA; rw [if_pos hin]; exact nI_s65 q.1
    rw [e, s_isKind1 N S (show ch i - 65 < 6 by omega), if_pos q]
    rfl
  · have e : fX7_isKind N (cA n ch i - 65) S = some (0, S) := by
      refine s_isKind0 N S ?_
      unfold cA
      by_cases z : i < n
      · rw [if_pos z]
        have hci := hc i
        rcases Nat.lt_or_ge (ch i) 65 with w | w
        · left
          rw [Int32.lt_iff_toInt_lt, show (65 : Int32) = nI 65 from rfl, pk_sub_toInt (by omega) (by omega), show (0 : Int32).toInt = 0 from rfl]
          omega
        · right
          rw [nI_s65 w]
          exact nI_le (by omega) (by omega)
      · rw [if_neg z]; left; decide
    rw [e, if_neg q]
    rfl
theorem cA_97 {i : Nat} (hz : ∀ q, n ≤ q → ch q = 0) (h : 97 ≤ ch i) : cA n ch i - 97 = nI (ch i - 97) := by
  have hin : i < n := by
    rcases Nat.lt_or_ge i n with z | z
    · exact z
    · rw [hz i z] at h; omega
  unfold cA
  rw [if_pos hin]
  exact pk_sub (b := 97) h
theorem cA_no {i : Nat} (hc : ∀ i, ch i < 256) (h : ¬ (97 ≤ ch i ∧ ch i ≤ 104)) : cA n ch i - 97 < 0 ∨ nI 8 ≤ cA n ch i - 97 := by
  unfold cA
  by_cases z : i < n
  · rw [if_pos z]
    have hci := hc i
    rcases Nat.lt_or_ge (ch i) 97 with w | w
    · left
      rw [Int32.lt_iff_toInt_lt, show (97 : Int32) = nI 97 from rfl, pk_sub_toInt (by omega) (by omega), show (0 : Int32).toInt = 0 from rfl]
      omega
    · right
      rw [show nI (ch i) - 97 = nI (ch i - 97) from pk_sub (b := 97) w]
      exact nI_le (by omega) (by omega)
  · rw [if_neg z]; left; decide
theorem r_call1 {k : Nat} (hk : k < 8) : fX5_addCall N m (nI k) S = some (st_i S (TA m) 11 (S.1 (TA m) 11 ||| (1 <<< (nI k &&& 31)))) := by
  unfold fX5_addCall fX5_addCall_19
  rw [s_isRoutine1 N S hk]
  simp only [Option.bind_some, if_neg z10]
theorem r_call0 {l : Int32} (h : l < 0 ∨ nI 8 ≤ l) : fX5_addCall N m l S = some (st_i S (TA m) 11 (S.1 (TA m) 11 ||| 0)) := by
  unfold fX5_addCall fX5_addCall_19
  rw [s_isRoutine0 N S h]
  rfl
theorem r_pair1 {i : Nat} : fX3_behindPair N (nI i) 1 S = some (nI (i + 2), S) := by
  unfold fX3_behindPair fX3_behindPair_18
  rw [if_neg z10, nI_2]
theorem r_pair0 {i : Nat} : WP (fX3_behindPair N (nI i) 0 S) (fun z => z.1 = -1 ∧ Fr (rdF m) S z.2 ∧ z.2.1 3 1 = nI 1 ∧ z.2.1 3 2 = nI (i + 1)) := by
  unfold fX3_behindPair
  rw [if_pos rfl, show nI i + 1 = nI (i + 1) from nI_add i 1]
  exact WP.bnd (r_refuse (m := m) 1 (i + 1)) (fun y hy => WP.ret hy)
end R2
/-! what is known of blocks while a text is read -/
def BOk (ch : Nat → Nat) (r5 r6 : Nat → Int32) (o i j : Nat) : Prop := ∀ k, (∀ t, t ≤ k → itn ch (mtp ch) t i < j) → (ch (itn ch (mtp ch) k i) = 94 → r6 o = 1) ∧ (∀ q, sbn ch (mtp ch) (itn ch (mtp ch) k i) q → (r6 (cb ch (q + 1)) = 1 → r6 o = 1) ∧ r5 (cb ch (q + 1)) = r5 o) ∧ (∀ p, sbt ch (mtp ch) (itn ch (mtp ch) k i) p → r5 (cb ch (p + 1 + 1)) = nI (ch p - 65))
/-- nothing of a block -/
theorem BOk.nil {ch : Nat → Nat} {r5 r6 : Nat → Int32} {o i j : Nat} (h : j ≤ i) : BOk ch r5 r6 o i j := fun k hk => by
  have := hk 0 (by omega)
  have e : itn ch (mtp ch) 0 i = i := rfl
  omega
/-- a statement, then others -/
theorem BOk.cons {ch : Nat → Nat} {r5 r6 : Nat → Int32} {o i j : Nat} (h1 : (ch i = 94 → r6 o = 1) ∧ (∀ q, sbn ch (mtp ch) i q → (r6 (cb ch (q + 1)) = 1 → r6 o = 1) ∧ r5 (cb ch (q + 1)) = r5 o) ∧ (∀ p, sbt ch (mtp ch) i p → r5 (cb ch (p + 1 + 1)) = nI (ch p - 65))) (h2 : BOk ch r5 r6 o (nxt ch (mtp ch) i) j) : BOk ch r5 r6 o i j := fun k hk => by
  cases k with
  | zero => exact h1
  | succ k => exact h2 k (fun t ht => hk (t + 1) (by omega))
