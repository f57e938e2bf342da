/-! ===== a text that was read is a Told ===== -/
def fsb (ch : Nat → Nat) (b : Nat) : Nat → Nat
  | 0 => 0
  | i + 1 => if ch i = 123 ∧ cb ch (i + 1) = b then i + 1 else fsb ch b i
theorem fsb_is {ch : Nat → Nat} {q : Nat} (hq : ch q = 123) : ∀ n, q < n → fsb ch (cb ch (q + 1)) n = q + 1
  | 0, h => by omega
  | n + 1, h => by
    show (if ch n = 123 ∧ cb ch (n + 1) = cb ch (q + 1) then n + 1 else fsb ch (cb ch (q + 1)) n) = q + 1
    by_cases w : ch n = 123 ∧ cb ch (n + 1) = cb ch (q + 1)
    · rw [if_pos w, cb_inj w.1 hq w.2]
    · rw [if_neg w]
      have : q ≠ n := fun e => w (by subst e; exact ⟨hq, rfl⟩)
      exact fsb_is hq n (by omega)
theorem fsb_0 {ch : Nat → Nat} : ∀ n, fsb ch 0 n = 0
  | 0 => rfl
  | n + 1 => by
    show (if ch n = 123 ∧ cb ch (n + 1) = 0 then n + 1 else fsb ch 0 n) = 0
    rw [if_neg (fun w => by have := cb_y w.1; omega), fsb_0 n]
theorem cb_ex {ch : Nat → Nat} {b : Nat} (hb : 0 < b) : ∀ n, b ≤ cb ch n → ∃ q, q < n ∧ ch q = 123 ∧ cb ch (q + 1) = b
  | 0, h => by
    have : cb ch 0 = 0 := rfl
    omega
  | n + 1, h => by
    by_cases w : b ≤ cb ch n
    · obtain ⟨q, h1, h2⟩ := cb_ex hb n w
      exact ⟨q, by omega, h2⟩
    · by_cases c : ch n = 123
      · exact ⟨n, by omega, c, by have := cb_y c; omega⟩
      · have := cb_n c
        omega
def kpv (x : Int32) : Nat := if x = -1 then 6 else x.toNatClampNeg
theorem kpv_m : kpv (-1) = 6 := if_pos rfl
theorem kpv_k {k : Nat} (h : k < 6) : kpv (nI k) = k := by
  unfold kpv
  rw [if_neg (by rw [nI_m1 (by omega)]; exact id), nI_cl (by omega)]
theorem kpv_e {x : Int32} (h : x = -1 ∨ ∃ k, k < 6 ∧ x = nI k) : eP (kpv x) = x ∧ kpv x ≤ 6 ∧ (x ≠ -1 → kpv x < 6) := by
  rcases h with h | ⟨k, hk, h⟩
  · rw [h, kpv_m]; exact ⟨rfl, by omega, fun w => absurd rfl w⟩
  · rw [h, kpv_k hk]; exact ⟨eP_lt hk, by omega, fun _ => hk⟩
theorem Rdn.tx {m n : Nat} {ch : Nat → Nat} {T : St} (hn : n ≤ 60) (hz : ∀ q, n ≤ q → ch q = 0) (hc : ∀ i, ch i < 256) (hW : WF ch (mtp ch) n) (h : Rdn m n ch T) : ∃ (B : Nat) (bn fs kp : Nat → Nat) (ag : Nat → Prop), TK n B ch (mtp ch) bn fs kp ag ∧ TD m n B ch (mtp ch) bn fs kp ag T ∧ (∀ p, p < 32 → (bt (T.1 (TA m) 11) p = true ↔ p < 8 ∧ clb ch p)) := by
  obtain ⟨⟨h1, h2, h3, h4, h5, h6⟩, h7, ⟨g1, g2, g3, g4, g5⟩, h8, h9⟩ := h
  have lt_n : ∀ q, ch q = 123 → q < n := fun q hq => by
    rcases Nat.lt_or_ge q n with w | w
    · exact w
    · rw [hz q w] at hq; omega
  -- a block is the whole, or a brace's
  have bl : ∀ b, b < 1 + cb ch n → (b = 0 ∧ fsb ch b n = 0) ∨ ∃ q, q < n ∧ ch q = 123 ∧ cb ch (q + 1) = b ∧ fsb ch b n = q + 1 := fun b hb => by
    rcases Nat.eq_zero_or_pos b with w | w
    · exact Or.inl ⟨w, by rw [w]; exact fsb_0 n⟩
    · obtain ⟨q, q1, q2, q3⟩ := cb_ex (ch := ch) w n (by omega)
      exact Or.inr ⟨q, q1, q2, q3, by rw [← q3]; exact fsb_is q2 n q1⟩
  have k5 : ∀ b, b < 1 + cb ch n → (T.1 (TA m + 5) b = -1 ∨ ∃ k, k < 6 ∧ T.1 (TA m + 5) b = nI k) := fun b hb => by
    rcases bl b hb with ⟨w, _⟩ | ⟨q, q1, q2, q3, q4⟩
    · rw [w]; exact Or.inl g3
    · obtain ⟨n1, n2, n3, n4, n5, n6⟩ := h9 q q1 q2
      rw [q3] at n4; exact n4
  have k6 : ∀ b, b < 1 + cb ch n → T.1 (TA m + 6) b = 0 ∨ (T.1 (TA m + 6) b = 1 ∧ T.1 (TA m + 5) b ≠ -1) := fun b hb => by
    rcases bl b hb with ⟨w, _⟩ | ⟨q, q1, q2, q3, q4⟩
    · rw [w]; exact Or.inl g4
    · obtain ⟨n1, n2, n3, n4, n5, n6⟩ := h9 q q1 q2
      rw [q3] at n5; exact n5
  refine ⟨1 + cb ch n, fun q => cb ch (q + 1), fun b => fsb ch b n, fun b => kpv (T.1 (TA m + 5) b), fun b => T.1 (TA m + 6) b = 1, ⟨⟨hW, hc⟩, ⟨by omega, by omega, fsb_0 n, by show kpv (T.1 (TA m + 5) 0) = 6; rw [g3]; exact kpv_m⟩, fun b hb => ?_, fun b b' hb hb' => ?_, fun q hq => ?_, fun b hb => ?_, fun b k hb hk => ?_⟩, ⟨h1, h2, h3, fun b hb => ?_, fun b hb => ?_, fun q hq => ?_, fun b hb => ?_, fun b hb => ?_⟩, h7⟩
  · rcases bl b hb with ⟨_, w⟩ | ⟨q, q1, q2, q3, q4⟩
    · exact Or.inl w
    · refine Or.inr ?_
      show ch (fsb ch b n - 1) = 123 ∧ 0 < fsb ch b n
      rw [q4, Nat.add_sub_cancel]; exact ⟨q2, by omega⟩
  · show fsb ch b n < fsb ch b' n
    rcases bl b' hb' with ⟨w, _⟩ | ⟨q', q1', q2', q3', q4'⟩
    · omega
    · rcases bl b (by omega) with ⟨w, w'⟩ | ⟨q, q1, q2, q3, q4⟩
      · rw [w', q4']; omega
      · rw [q4, q4']
        rcases Nat.lt_or_ge q q' with u | u
        · omega
        · have := cb_mono (ch := ch) (show q' + 1 ≤ q + 1 by omega)
          omega
  · have hq' := lt_n q hq
    have := cb_mono (ch := ch) (show q + 1 ≤ n by omega)
    exact ⟨by show cb ch (q + 1) < 1 + cb ch n; omega, fsb_is hq n hq'⟩
  · obtain ⟨e1, e2, e3⟩ := kpv_e (k5 b hb)
    refine ⟨e2, fun w => e3 ?_⟩
    rcases k6 b hb with z | z
    · exact absurd (z.symm.trans w) (by decide)
    · exact z.2
  · -- the walk of a block
    have key : BO1 ch (T.1 (TA m + 5)) (T.1 (TA m + 6)) b (itn ch (mtp ch) k (fsb ch b n)) (enp n (mtp ch) (fsb ch b n)) ∧ Wlk ch (mtp ch) (fsb ch b n) (enp n (mtp ch) (fsb ch b n)) ∧ enp n (mtp ch) (fsb ch b n) ≤ n := by
      rcases bl b hb with ⟨w, w'⟩ | ⟨q, q1, q2, q3, q4⟩
      · have e : enp n (mtp ch) 0 = n := if_pos rfl
        have hk : ∀ j, j ≤ k → itn ch (mtp ch) j (fsb ch b n) < enp n (mtp ch) (fsb ch b n) := hk
        rw [w', e] at hk ⊢
        rw [w]
        exact ⟨g5 k hk, hW.2.2.1, Nat.le_refl _⟩
      · have e : enp n (mtp ch) (q + 1) = mtp ch q := by
          unfold enp
          rw [if_neg (by omega), Nat.add_sub_cancel]
        have hk : ∀ j, j ≤ k → itn ch (mtp ch) j (fsb ch b n) < enp n (mtp ch) (fsb ch b n) := hk
        rw [q4, e] at hk ⊢
        obtain ⟨n1, n2, n3, n4, n5, n6⟩ := h9 q q1 q2
        rw [q3] at n6
        have hw := hW.2.2.2 q q2
        exact ⟨n6 k hk, hw.2.2, Nat.le_of_lt hw.2.1⟩
    obtain ⟨kb, kw, kl⟩ := key
    have hs := (itn_ge hW k _ kw hk).2.2
    refine ⟨kb.1, fun q hq => ?_, fun p hp => ?_⟩
    · obtain ⟨s1, s2, s3⟩ := sbr_ok hW hs (sbn_sbr hq)
      have := mtp_ge ch q
      obtain ⟨u1, u2⟩ := kb.2.1 q (by omega) s1 hq
      exact ⟨u1, by show kpv _ = kpv _; rw [u2]⟩
    · obtain ⟨s1, s2, s3⟩ := sbr_ok hW hs (sbt_sbr hp)
      have := mtp_ge ch (p + 1)
      have hu := kb.2.2 p (by omega) s1 hp
      obtain ⟨_, r, hr, hl, ep⟩ := hp
      have hl : ltr (ch p) := by rw [ep]; exact hl
      show kpv (T.1 (TA m + 5) (cb ch (p + 1 + 1))) = ch p - 65
      rw [hu]; exact kpv_k (by omega)
  · rcases bl b hb with ⟨w, w'⟩ | ⟨q, q1, q2, q3, q4⟩
    · show T.1 (TA m + 3) b = nI (fsb ch b n)
      rw [w', w]; exact g1
    · obtain ⟨n1, n2, n3, n4, n5, n6⟩ := h9 q q1 q2
      show T.1 (TA m + 3) b = nI (fsb ch b n)
      rw [q4, ← q3]; exact n2
  · rcases bl b hb with ⟨w, w'⟩ | ⟨q, q1, q2, q3, q4⟩
    · show T.1 (TA m + 4) b = nI (enp n (mtp ch) (fsb ch b n))
      rw [w', w]
      exact g2
    · obtain ⟨n1, n2, n3, n4, n5, n6⟩ := h9 q q1 q2
      show T.1 (TA m + 4) b = nI (enp n (mtp ch) (fsb ch b n))
      rw [q4, ← q3]
      unfold enp
      rw [if_neg (by omega), Nat.add_sub_cancel]; exact n3
  · exact (h9 q (lt_n q hq) hq).1
  · exact (kpv_e (k5 b hb)).1.symm
  · show T.1 (TA m + 6) b = bP (T.1 (TA m + 6) b = 1)
    rcases k6 b hb with w | ⟨w, _⟩
    · rw [bP_0 (by rw [w]; decide), w]
    · rw [bP_1 w, w]
