/-! ===== the first program's reader: kinds, calls ===== -/
section R2
variable {N m n : Nat} {ch : Nat → Nat} {S : St}
theorem r_kindAt (hn : n ≤ 60) (hz : ∀ q, n ≤ q → ch q = 0) (hc : ∀ i, ch i < 256) (h : Rt m n ch S) {i : Nat} (hi : i < 1000) : fX5_kindAt N m (nI i) S = some (if ltr (ch i) then nI (ch i - 65) else -1, S) := by
  unfold fX5_kindAt fX5_kindAt_21
  rw [r_at hn h hi]
  simp only [Option.bind_some]
  by_cases q : ltr (ch i)
  · have hin : i < n := by
      rcases Nat.lt_or_ge i n with z | z
      · exact z
      · rw [hz i z] at q; omega
    have e : cA n ch i - 65 = nI (ch i - 65) := by unfold cA; rw [if_pos hin]; exact nI_s65 q.1
    rw [e, s_isKind1 N S (show ch i - 65 < 6 by omega), if_pos q]
    rfl
  · have e : fX7_isKind N (cA n ch i - 65) S = some (0, S) := by
      refine s_isKind0 N S ?_
      unfold cA
      by_cases z : i < n
      · rw [if_pos z]
        have hci := hc i
        rcases Nat.lt_or_ge (ch i) 65 with w | w
        · left
          rw [Int32.lt_iff_toInt_lt, show (65 : Int32) = nI 65 from rfl, pk_sub_toInt (by omega) (by omega), show (0 : Int32).toInt = 0 from rfl]
          omega
        · right
          rw [nI_s65 w]
          exact nI_le (by omega) (by omega)
      · rw [if_neg z]; left; decide
    rw [e, if_neg q]
    rfl
theorem cA_97 {i : Nat} (hz : ∀ q, n ≤ q → ch q = 0) (h : 97 ≤ ch i) : cA n ch i - 97 = nI (ch i - 97) := by
  have hin : i < n := by
    rcases Nat.lt_or_ge i n with z | z
    · exact z
    · rw [hz i z] at h; omega
  unfold cA
  rw [if_pos hin]
  exact pk_sub (b := 97) h
theorem cA_no {i : Nat} (hc : ∀ i, ch i < 256) (h : ¬ (97 ≤ ch i ∧ ch i ≤ 104)) : cA n ch i - 97 < 0 ∨ nI 8 ≤ cA n ch i - 97 := by
  unfold cA
  by_cases z : i < n
  · rw [if_pos z]
    have hci := hc i
    rcases Nat.lt_or_ge (ch i) 97 with w | w
    · left
      rw [Int32.lt_iff_toInt_lt, show (97 : Int32) = nI 97 from rfl, pk_sub_toInt (by omega) (by omega), show (0 : Int32).toInt = 0 from rfl]
      omega
    · right
      rw [show nI (ch i) - 97 = nI (ch i - 97) from pk_sub (b := 97) w]
      exact nI_le (by omega) (by omega)
  · rw [if_neg z]; left; decide
theorem r_call1 {k : Nat} (hk : k < 8) : fX5_addCall N m (nI k) S = some (st_i S (TA m) 11 (S.1 (TA m) 11 ||| (1 <<< (nI k &&& 31)))) := by
  unfold fX5_addCall fX5_addCall_19
  rw [s_isRoutine1 N S hk]
  simp only [Option.bind_some, if_neg z10]
theorem r_call0 {l : Int32} (h : l < 0 ∨ nI 8 ≤ l) : fX5_addCall N m l S = some (st_i S (TA m) 11 (S.1 (TA m) 11 ||| 0)) := by
  unfold fX5_addCall fX5_addCall_19
  rw [s_isRoutine0 N S h]
  rfl
theorem r_pair1 {i : Nat} : fX3_behindPair N (nI i) 1 S = some (nI (i + 2), S) := by
  unfold fX3_behindPair fX3_behindPair_18
  rw [if_neg z10, nI_2]
theorem r_pair0 {i : Nat} : WP (fX3_behindPair N (nI i) 0 S) (fun z => z.1 = -1 ∧ Fr (rdF m) S z.2 ∧ z.2.1 3 1 = nI 1 ∧ z.2.1 3 2 = nI (i + 1)) := by
  unfold fX3_behindPair
  rw [if_pos rfl, show nI i + 1 = nI (i + 1) from nI_add i 1]
  exact WP.bnd (r_refuse (m := m) 1 (i + 1)) (fun y hy => WP.ret hy)
end R2
/-! places go up, whatever the text -/
theorem sck_ge (ch : Nat → Nat) : ∀ f p k, p ≤ sck ch f p k
  | 0, p, _ => Nat.le_refl p
  | f + 1, p, k => by
    show p ≤ (if ch p = 123 then sck ch f (p + 1) (k + 1) else if ch p = 125 then (if k = 0 then p else sck ch f (p + 1) (k - 1)) else sck ch f (p + 1) k)
    have h1 := sck_ge ch f (p + 1) (k + 1)
    have h2 := sck_ge ch f (p + 1) (k - 1)
    have h3 := sck_ge ch f (p + 1) k
    split
    · omega
    · split
      · split
        · omega
        · omega
      · omega
theorem mtp_ge (ch : Nat → Nat) (q : Nat) : q < mtp ch q := sck_ge ch 61 (q + 1) 0
theorem skp_ge (ch : Nat → Nat) : ∀ r j, j ≤ skp ch (mtp ch) r j
  | 0, j => Nat.le_refl j
  | r + 1, j => by
    show j ≤ (if ltr (ch j) then skp ch (mtp ch) r (mtp ch (j + 1) + 1) else j)
    have h1 := skp_ge ch r (mtp ch (j + 1) + 1)
    have h2 := mtp_ge ch (j + 1)
    split
    · omega
    · omega
theorem nxt_gt (ch : Nat → Nat) (i : Nat) : i < nxt ch (mtp ch) i := by
  have h1 := mtp_ge ch (i + 1)
  have h2 := mtp_ge ch (mtp ch (i + 1) + 1)
  have h3 := skp_ge ch 6 (mtp ch (i + 1) + 1)
  have h4 := mtp_ge ch (skp ch (mtp ch) 6 (mtp ch (i + 1) + 1) + 1)
  unfold nxt
  split
  · omega
  · split
    · omega
    · split
      · split
        · omega
        · omega
      · split
        · omega
        · omega
theorem itp_ge (ch : Nat → Nat) : ∀ k i, i ≤ itn ch (mtp ch) k i
  | 0, i => Nat.le_refl i
  | k + 1, i => Nat.le_trans (Nat.le_of_lt (nxt_gt ch i)) (itp_ge ch k (nxt ch (mtp ch) i))
theorem sbn_gt {ch : Nat → Nat} {i q : Nat} (h : sbn ch (mtp ch) i q) : i < q := by
  have h1 := mtp_ge ch (i + 1)
  have h3 := skp_ge ch 6 (mtp ch (i + 1) + 1)
  rcases h with ⟨_, h | h⟩ | ⟨_, h⟩ | ⟨_, h | ⟨_, h⟩⟩ <;> omega
theorem sbt_gt {ch : Nat → Nat} {i p : Nat} (h : sbt ch (mtp ch) i p) : i < p := by
  obtain ⟨_, r, _, _, h⟩ := h
  have h1 := mtp_ge ch (i + 1)
  have h3 := skp_ge ch r (mtp ch (i + 1) + 1)
  omega
/-! what is known of blocks while a text is read -/
def BO1 (ch : Nat → Nat) (r5 r6 : Nat → Int32) (o p j : Nat) : Prop := (ch p = 94 → r6 o = 1) ∧ (∀ q, q < j → ch q = 123 → sbn ch (mtp ch) p q → (r6 (cb ch (q + 1)) = 1 → r6 o = 1) ∧ r5 (cb ch (q + 1)) = r5 o) ∧ (∀ t, t + 1 < j → ch (t + 1) = 123 → sbt ch (mtp ch) p t → r5 (cb ch (t + 1 + 1)) = nI (ch t - 65))
def BOk (ch : Nat → Nat) (r5 r6 : Nat → Int32) (o i j : Nat) : Prop := ∀ k, (∀ t, t ≤ k → itn ch (mtp ch) t i < j) → BO1 ch r5 r6 o (itn ch (mtp ch) k i) j
theorem BOk.nil {ch : Nat → Nat} {r5 r6 : Nat → Int32} {o i j : Nat} (h : j ≤ i) : BOk ch r5 r6 o i j := fun k hk => by
  have := hk 0 (by omega)
  have e : itn ch (mtp ch) 0 i = i := rfl
  omega
theorem BOk.cons {ch : Nat → Nat} {r5 r6 : Nat → Int32} {o i j : Nat} (h1 : BO1 ch r5 r6 o i j) (h2 : BOk ch r5 r6 o (nxt ch (mtp ch) i) j) : BOk ch r5 r6 o i j := fun k hk => by
  cases k with
  | zero => exact h1
  | succ k => exact h2 k (fun t ht => hk (t + 1) (by omega))
theorem BO1.st {ch : Nat → Nat} {r5 r6 r5' r6' : Nat → Int32} {o i p j : Nat} (h : BO1 ch r5 r6 o p j) (hp : i ≤ p) (hb : ∀ b, cb ch i < b → b ≤ cb ch j → r5' b = r5 b ∧ r6' b = r6 b) (h5 : r5' o = r5 o) (h6 : r6 o = 1 → r6' o = 1) : BO1 ch r5' r6' o p j := by
  have key : ∀ q, i ≤ q → q < j → ch q = 123 → r5' (cb ch (q + 1)) = r5 (cb ch (q + 1)) ∧ r6' (cb ch (q + 1)) = r6 (cb ch (q + 1)) := fun q h1 h2 h3 => by
    refine hb _ ?_ (cb_mono (by omega))
    have := cb_mono (ch := ch) h1
    rw [cb_y h3]; omega
  refine ⟨fun z => h6 (h.1 z), fun q h1 h2 h3 => ?_, fun t h1 h2 h3 => ?_⟩
  · have hq := sbn_gt h3
    obtain ⟨e5, e6⟩ := key q (by omega) h1 h2
    obtain ⟨a1, a2⟩ := h.2.1 q h1 h2 h3
    rw [e5, e6, h5]
    exact ⟨fun z => h6 (a1 z), a2⟩
  · have hq := sbt_gt h3
    rw [(key (t + 1) (by omega) h1 h2).1]
    exact h.2.2 t h1 h2 h3
theorem BOk.st {ch : Nat → Nat} {r5 r6 r5' r6' : Nat → Int32} {o i j : Nat} (h : BOk ch r5 r6 o i j) (hb : ∀ b, cb ch i < b → b ≤ cb ch j → r5' b = r5 b ∧ r6' b = r6 b) (h5 : r5' o = r5 o) (h6 : r6 o = 1 → r6' o = 1) : BOk ch r5' r6' o i j := fun k hk => (h k hk).st (itp_ge ch k i) hb h5 h6
/-- the blocks of a statement stand before the next one -/
theorem skq_up (ch : Nat → Nat) : ∀ r s j, r < s → ltr (ch (skp ch (mtp ch) r j)) → skp ch (mtp ch) r j + 1 < skp ch (mtp ch) s j
  | 0, 0, _, h, _ => by omega
  | 0, s + 1, j, _, h => by
    have h : ltr (ch j) := h
    show j + 1 < (if ltr (ch j) then skp ch (mtp ch) s (mtp ch (j + 1) + 1) else j)
    rw [if_pos h]
    have h1 := skp_ge ch s (mtp ch (j + 1) + 1)
    have h2 := mtp_ge ch (j + 1)
    omega
  | r + 1, 0, _, h, _ => by omega
  | r + 1, s + 1, j, h, hl => by
    have hl : ltr (ch (if ltr (ch j) then skp ch (mtp ch) r (mtp ch (j + 1) + 1) else j)) := hl
    show (if ltr (ch j) then skp ch (mtp ch) r (mtp ch (j + 1) + 1) else j) + 1 < (if ltr (ch j) then skp ch (mtp ch) s (mtp ch (j + 1) + 1) else j)
    by_cases q : ltr (ch j)
    · rw [if_pos q] at hl ⊢
      rw [if_pos q]
      exact skq_up ch r s _ (by omega) hl
    · rw [if_neg q] at hl
      exact absurd hl q
theorem sbn_lt {ch : Nat → Nat} {i q : Nat} (h : sbn ch (mtp ch) i q) : q < nxt ch (mtp ch) i := by
  have h1 := mtp_ge ch (i + 1)
  have h2 := mtp_ge ch (mtp ch (i + 1) + 1)
  have h3 := skp_ge ch 6 (mtp ch (i + 1) + 1)
  have h4 := mtp_ge ch (skp ch (mtp ch) 6 (mtp ch (i + 1) + 1) + 1)
  unfold nxt
  rcases h with ⟨c, h⟩ | ⟨c, h⟩ | ⟨c, h⟩
  · rw [if_pos c]; rcases h with h | h <;> omega
  · rw [if_neg (by omega), if_pos c]; omega
  · rw [if_neg (by omega), if_neg (by omega), if_pos c]
    rcases h with h | ⟨hz, h⟩
    · split <;> omega
    · rw [if_pos hz]; omega
theorem sbt_lt {ch : Nat → Nat} {i p : Nat} (h : sbt ch (mtp ch) i p) : p + 1 < nxt ch (mtp ch) i := by
  obtain ⟨c, r, hr, hl, h⟩ := h
  have h3 := skq_up ch r 6 (mtp ch (i + 1) + 1) hr hl
  have h4 := mtp_ge ch (skp ch (mtp ch) 6 (mtp ch (i + 1) + 1) + 1)
  unfold nxt
  rw [if_neg (by omega), if_neg (by omega), if_pos c]
  split <;> omega
theorem BO1.wd {ch : Nat → Nat} {r5 r6 : Nat → Int32} {o i : Nat} (h : BO1 ch r5 r6 o i (nxt ch (mtp ch) i)) (j : Nat) : BO1 ch r5 r6 o i j :=
  ⟨h.1, fun q _ h2 h3 => h.2.1 q (sbn_lt h3) h2 h3, fun t _ h2 h3 => h.2.2 t (sbt_lt h3) h2 h3⟩
