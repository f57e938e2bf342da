/-! ===== answers by exits ===== -/
/-- the state of the first program, as far as exits need it -/
def CC (nF : Nat → Nat) (cF mF : Nat → Nat → Nat) (ab : Nat → Nat → Bool) (S : St) : Prop := (∀ q, q < 8 → TX nF cF mF q S) ∧ Ab ab S ∧ (∃ X : Nat → Nat, (∀ x, X x ≤ 1000) ∧ ∀ x, x < 896 → S.1 19 x = eC (X x)) ∧ IMc (Fx nF cF mF ab) cF (S.1 0 11) S
/-- what a call that measures changes -/
def CP (S S' : St) : Prop := FrC (0 :: meA) S S' ∧ ∀ j, j ≠ 11 → S'.1 0 j = S.1 0 j
theorem CP.refl (S : St) : CP S S := ⟨FrC.refl _ _, fun _ _ => rfl⟩
/-- the state of the second program, as far as exits need it -/
def RC (nF : Nat → Nat) (cF mF : Nat → Nat → Nat) (ab : Nat → Nat → Bool) (S : St) : Prop := (∀ r, r < 8 → RY r (nF r) (cF r) (mF r) ab S) ∧ (S.1 128 19 = -1 ∧ S.1 128 20 = -1) ∧ (S.1 128 29 = 0 ∨ (S.1 128 29 = 1 ∧ ∀ x, x < 896 → S.1 141 x = eR (Xs (Fx nF cF mF ab) x)))
def RP (S S' : St) : Prop := FrJ [23, 28, 29] rnA S S'
noncomputable def bset (P : Nat → Prop) : Nat → Int32
  | 0 => 0
  | k + 1 => @ite Int32 (P k) (Classical.propDecidable _) (bset P k ||| ((1 : Int32) <<< (nI k &&& 31))) (bset P k)
theorem bset_bt (P : Nat → Prop) {i : Nat} (hi : i < 32) : ∀ n, n ≤ 32 → (bt (bset P n) i = true ↔ i < n ∧ P i)
  | 0, _ => by
    show bt 0 i = true ↔ _
    rw [b_0]
    exact ⟨fun h => absurd h (by decide), fun h => absurd h.1 (by omega)⟩
  | n + 1, hn => by
    have ih := bset_bt P hi n (by omega)
    show bt (@ite Int32 (P n) (Classical.propDecidable _) (bset P n ||| ((1 : Int32) <<< (nI n &&& 31))) (bset P n)) i = true ↔ _
    by_cases q : P n
    · rw [if_pos q, b_or, b_one (by omega) hi, Bool.or_eq_true, ih, decide_eq_true_eq]
      constructor
      · rintro (⟨h1, h2⟩ | h)
        · exact ⟨by omega, h2⟩
        · exact ⟨by omega, by rw [h]; exact q⟩
      · rintro ⟨h1, h2⟩
        by_cases w : i = n
        · exact Or.inr w
        · exact Or.inl ⟨by omega, h2⟩
    · rw [if_neg q, ih]
      constructor
      · rintro ⟨h1, h2⟩; exact ⟨by omega, h2⟩
      · rintro ⟨h1, h2⟩
        by_cases w : i = n
        · rw [w] at h2; exact absurd h2 q
        · exact ⟨by omega, h2⟩
section AN
variable {N : Nat} {nF : Nat → Nat} {cF mF : Nat → Nat → Nat} {ab : Nat → Nat → Bool} {S : St}
/-- the least steps -/
def xs (nF : Nat → Nat) (cF mF : Nat → Nat → Nat) (ab : Nat → Nat → Bool) (r s e t : Nat) : Nat := Xs (Fx nF cF mF ab) ((r * 4 + s) * 28 + (e * 4 + t))
theorem xs_le (r s e t : Nat) : xs nF cF mF ab r s e t ≤ 1000 := itr_le (Fx_le nF cF mF ab) 896 _
def lv (nF : Nat → Nat) (cF mF : Nat → Nat → Nat) (ab : Nat → Nat → Bool) (r s e : Nat) : Prop := ∃ t, t < 4 ∧ xs nF cF mF ab r s e t < 1000
def stv (v : Nat) : Int32 := if v < 1000 then nI v else -1
theorem s_meas (hN : 2000 < N) (h : CC nF cF mF ab S) {r : Nat} (hr : r < 8) : WP (fX7_measure N (nI r) S) (fun S' => CP S S' ∧ CC nF cF mF ab S' ∧ ∀ s e t, s < 4 → e < 7 → t < 4 → S'.1 19 ((r * 4 + s) * 28 + (e * 4 + t)) = eC (xs nF cF mF ab r s e t)) := by
  obtain ⟨h1, h2, ⟨X, h3, h4⟩, h5⟩ := h
  refine (s_measure hN h1 h2 h3 h4 h5 hr).imp (fun S' g => ⟨⟨g.1, g.2.1⟩, ⟨fun q hq => (h1 q hq).mv hq g.1 (by decide), fun k j a b => by rw [g.1.2 15 (by decide)]; exact h2 k j a b, g.2.2.2.2.1, g.2.2.2.2.2⟩, fun s e t hs he ht => ?_⟩)
  exact (g.2.2.2.2.2 r hr g.2.2.1).1 _ (by omega)
theorem s_can (hN : 60 < N) {r s e : Nat} (hr : r < 8) (hs : s < 4) (he : e < 7) (h : ∀ t, t < 4 → S.1 19 ((r * 4 + s) * 28 + (e * 4 + t)) = eC (xs nF cF mF ab r s e t)) : fX0_canLeave N (nI r) (nI s) (nI e) S = some (bP (lv nF cF mF ab r s e), S) := by
  have key : ∀ (m t M : Nat), t + m = 4 → m < M → (∀ u, u < t → ¬ xs nF cF mF ab r s e u < 1000) → whl M (bfX0_canLeave_3 N (nI r) (nI s) (nI e)) (nI t, S) = some (bP (lv nF cF mF ab r s e), S) := by
    intro m
    induction m with
    | zero =>
      intro t M ht hM hno
      obtain ⟨M', rfl⟩ : ∃ M', M = M' + 1 := ⟨M - 1, by omega⟩
      obtain rfl : t = 4 := by omega
      refine whl_e ?_
      unfold bfX0_canLeave_3
      rw [if_pos (show (4 : Int32) ≤ nI 4 by decide), bP_0 (fun ⟨u, h1, h2⟩ => hno u h1 h2)]
    | succ m ih =>
      intro t M ht hM hno
      obtain ⟨M', rfl⟩ : ∃ M', M = M' + 1 := ⟨M - 1, by omega⟩
      by_cases q : xs nF cF mF ab r s e t < 1000
      · refine whl_e ?_
        unfold bfX0_canLeave_3
        rw [if_neg (show ¬ (4 : Int32) ≤ nI t from nI_ge (b := 4) (by omega) (by omega)), s_fewest N S hr hs he (show t < 4 by omega)]
        simp only [Option.bind_some]
        rw [h t (by omega), if_neg (fun z => by have := eC_ge.mp z; omega), bP_1 ⟨t, by omega, q⟩]
      · have e1 : bfX0_canLeave_3 N (nI r) (nI s) (nI e) (nI t, S) = some (.inl (nI (t + 1), S)) := by
          unfold bfX0_canLeave_3
          rw [if_neg (show ¬ (4 : Int32) ≤ nI t from nI_ge (b := 4) (by omega) (by omega)), s_fewest N S hr hs he (show t < 4 by omega)]
          simp only [Option.bind_some]
          rw [h t (by omega), if_pos (eC_ge.mpr (by omega)), nI_1]
        rw [whl_s e1]
        refine ih (t + 1) M' (by omega) (by omega) (fun u hu => ?_)
        by_cases w : u = t
        · rw [w]; exact q
        · exact hno u (by omega)
  unfold fX0_canLeave fX0_canLeave_3
  rw [show (((0 : Int32), S) : Int32 × St) = (nI 0, S) from rfl, key 4 0 N (by omega) (by omega) (fun u hu => absurd hu (by omega))]
  rfl
theorem s_leaving (hN : 60 < N) {r s : Nat} (hr : r < 8) (hs : s < 4) (h : ∀ e t, e < 7 → t < 4 → S.1 19 ((r * 4 + s) * 28 + (e * 4 + t)) = eC (xs nF cF mF ab r s e t)) : fX7_leavingKinds N (nI r) (nI s) S = some (bset (fun k => lv nF cF mF ab r s (k + 1)) 6, S) := by
  have key : ∀ (m k M : Nat), k + m = 6 → m < M → whl M (bfX7_leavingKinds_5 N (nI r) (nI s)) (bset (fun k => lv nF cF mF ab r s (k + 1)) k, nI k, S) = some (bset (fun k => lv nF cF mF ab r s (k + 1)) 6, S) := by
    intro m
    induction m with
    | zero =>
      intro k M hk hM
      obtain ⟨M', rfl⟩ : ∃ M', M = M' + 1 := ⟨M - 1, by omega⟩
      obtain rfl : k = 6 := by omega
      refine whl_e ?_
      unfold bfX7_leavingKinds_5
      rw [if_pos (show (6 : Int32) ≤ nI 6 by decide)]
    | succ m ih =>
      intro k M hk hM
      obtain ⟨M', rfl⟩ : ∃ M', M = M' + 1 := ⟨M - 1, by omega⟩
      have e1 : bfX7_leavingKinds_5 N (nI r) (nI s) (bset (fun k => lv nF cF mF ab r s (k + 1)) k, nI k, S) = some (.inl (bset (fun k => lv nF cF mF ab r s (k + 1)) (k + 1), nI (k + 1), S)) := by
        unfold bfX7_leavingKinds_5 fX7_leavingKinds_35
        rw [if_neg (show ¬ (6 : Int32) ≤ nI k from nI_ge (b := 6) (by omega) (by omega))]
        try dsimp only
        rw [show (1 : Int32) + nI k = nI (k + 1) from by rw [show (1 : Int32) = nI 1 from rfl, nI_add, Nat.add_comm], s_can hN hr hs (show k + 1 < 7 by omega) (fun t ht => h (k + 1) t (by omega) ht)]
        simp only [Option.bind_some]
        show _ = some (Sum.inl (@ite Int32 (lv nF cF mF ab r s (k + 1)) (Classical.propDecidable _) (bset (fun k => lv nF cF mF ab r s (k + 1)) k ||| ((1 : Int32) <<< (nI k &&& 31))) (bset (fun k => lv nF cF mF ab r s (k + 1)) k), nI (k + 1), S))
        by_cases q : lv nF cF mF ab r s (k + 1)
        · rw [if_neg (fun z => bP_eq0.mp z q), if_pos q, nI_1]
        · rw [if_pos (bP_0 q), if_neg q, nI_1]
      rw [whl_s e1]
      exact ih (k + 1) M' (by omega) (by omega)
  unfold fX7_leavingKinds fX7_leavingKinds_5
  rw [show (((0 : Int32), (0 : Int32), S) : Int32 × Int32 × St) = (bset (fun k => lv nF cF mF ab r s (k + 1)) 0, nI 0, S) from rfl, key 6 0 N (by omega) (by omega)]
  rfl
/-- steps: the answer -/
def vSt (nF : Nat → Nat) (cF mF : Nat → Nat → Nat) (ab : Nat → Nat → Bool) (a b c d : Int32) (v : Int32) : Prop := (∃ r s e t, r < 8 ∧ s < 4 ∧ e < 7 ∧ t < 4 ∧ a = nI r ∧ b = nI s ∧ c = nI e ∧ d = nI t ∧ v = stv (xs nF cF mF ab r s e t)) ∨ (((a < 0 ∨ nI 8 ≤ a) ∨ (b < 0 ∨ nI 4 ≤ b) ∨ (c < 0 ∨ nI 7 ≤ c) ∨ (d < 0 ∨ nI 4 ≤ d)) ∧ v = -1)
theorem c_steps (hN : 2000 < N) (h : CC nF cF mF ab S) (a b c d : Int32) : WP (fX7_steps N a b c d S) (fun z => CP S z.2 ∧ CC nF cF mF ab z.2 ∧ vSt nF cF mF ab a b c d z.1) := by
  unfold fX7_steps fX7_steps_63
  rcases nI_cases a 8 (by decide) with ⟨r, hr, rfl⟩ | ha
  · refine WP.beq (s_isRoutine1 N S hr) (WP.no z10 ?_)
    rcases nI_cases b 4 (by decide) with ⟨s, hs, rfl⟩ | hb
    · refine WP.beq (s_isSet1 N S hs) (WP.no z10 ?_)
      rcases nI_cases c 7 (by decide) with ⟨e, he, rfl⟩ | hc
      · refine WP.beq (s_isExit1 N S he) (WP.no z10 ?_)
        rcases nI_cases d 4 (by decide) with ⟨t, ht, rfl⟩ | hd
        · refine WP.beq (s_isSet1 N S ht) (WP.no z10 ?_)
          refine WP.bnd (s_meas hN h hr) (fun S1 g => ?_)
          refine WP.beq (s_fewest N S1 hr hs he ht) ?_
          try dsimp only
          rw [g.2.2 s e t hs he ht]
          by_cases q : 1000 ≤ xs nF cF mF ab r s e t
          · refine WP.yes (eC_ge.mpr q) (WP.ret ⟨g.1, g.2.1, Or.inl ⟨r, s, e, t, hr, hs, he, ht, rfl, rfl, rfl, rfl, ?_⟩⟩)
            unfold stv; rw [if_neg (by omega)]
          · refine WP.no (fun z => q (eC_ge.mp z)) (WP.ret ⟨g.1, g.2.1, Or.inl ⟨r, s, e, t, hr, hs, he, ht, rfl, rfl, rfl, rfl, ?_⟩⟩)
            unfold stv; rw [if_pos (by omega)]; exact eC_f (by omega)
        · exact WP.beq (s_isSet0 N S hd) (WP.yes rfl (WP.ret ⟨CP.refl S, h, Or.inr ⟨Or.inr (Or.inr (Or.inr hd)), rfl⟩⟩))
      · exact WP.beq (s_isExit0 N S hc) (WP.yes rfl (WP.ret ⟨CP.refl S, h, Or.inr ⟨Or.inr (Or.inr (Or.inl hc)), rfl⟩⟩))
    · exact WP.beq (s_isSet0 N S hb) (WP.yes rfl (WP.ret ⟨CP.refl S, h, Or.inr ⟨Or.inr (Or.inl hb), rfl⟩⟩))
  · exact WP.beq (s_isRoutine0 N S ha) (WP.yes rfl (WP.ret ⟨CP.refl S, h, Or.inr ⟨Or.inl ha, rfl⟩⟩))
theorem nI_out {k n : Nat} (hk : k < n) (hn : n < 2147483648) : ¬ (nI k < 0 ∨ nI n ≤ nI k) := by
  rintro (h | h)
  · exact nI_pos (by omega) h
  · exact nI_ge hk hn h
theorem vSt_uniq {a b c d v w : Int32} (h : vSt nF cF mF ab a b c d v) (k : vSt nF cF mF ab a b c d w) : v = w := by
  rcases h with ⟨r, s, e, t, h1, h2, h3, h4, rfl, rfl, rfl, rfl, h5⟩ | ⟨h1, h2⟩
  · rcases k with ⟨r', s', e', t', k1, k2, k3, k4, e1, e2, e3, e4, k5⟩ | ⟨k1, k2⟩
    · have := (nI_eq (by omega) (by omega)).mp e1
      have := (nI_eq (by omega) (by omega)).mp e2
      have := (nI_eq (by omega) (by omega)).mp e3
      have := (nI_eq (by omega) (by omega)).mp e4
      subst_vars
      rfl
    · rcases k1 with k1 | k1 | k1 | k1
      · exact absurd k1 (nI_out h1 (by omega))
      · exact absurd k1 (nI_out h2 (by omega))
      · exact absurd k1 (nI_out h3 (by omega))
      · exact absurd k1 (nI_out h4 (by omega))
  · rcases k with ⟨r, s, e, t, k1, k2, k3, k4, rfl, rfl, rfl, rfl, k5⟩ | ⟨k1, k2⟩
    · rcases h1 with h1 | h1 | h1 | h1
      · exact absurd h1 (nI_out k1 (by omega))
      · exact absurd h1 (nI_out k2 (by omega))
      · exact absurd h1 (nI_out k3 (by omega))
      · exact absurd h1 (nI_out k4 (by omega))
    · rw [h2, k2]
theorem s_r81 (N : Nat) (S : St) {k : Nat} (h : k < 8) : fX8_isRoutine N (nI k) S = some (1, S) := by
  obtain ⟨h1, h2⟩ := bi_rng h (by omega)
  unfold fX8_isRoutine
  rw [if_neg h1, if_neg (show ¬ (8 : Int32) ≤ nI k from h2)]; rfl
theorem s_r80 (N : Nat) (S : St) {l : Int32} (h : l < 0 ∨ nI 8 ≤ l) : fX8_isRoutine N l S = some (0, S) := by
  unfold fX8_isRoutine
  by_cases h1 : l < 0
  · rw [if_pos h1]; rfl
  · rw [if_neg h1, if_pos (show (8 : Int32) ≤ l from h.resolve_left h1)]; rfl
theorem s_s81 (N : Nat) (S : St) {k : Nat} (h : k < 4) : fX8_isState N (nI k) S = some (1, S) := by
  obtain ⟨h1, h2⟩ := bi_rng h (by omega)
  unfold fX8_isState
  rw [if_neg h1, if_neg (show ¬ (4 : Int32) ≤ nI k from h2)]; rfl
theorem s_s80 (N : Nat) (S : St) {l : Int32} (h : l < 0 ∨ nI 4 ≤ l) : fX8_isState N l S = some (0, S) := by
  unfold fX8_isState
  by_cases h1 : l < 0
  · rw [if_pos h1]; rfl
  · rw [if_neg h1, if_pos (show (4 : Int32) ≤ l from h.resolve_left h1)]; rfl
theorem s_runs' (hN : 900000 < N) (hW : ∀ r, r < 8 → WF (cF r) (mF r) (nF r) ∧ ∀ i, cF r i < 256) (h : RC nF cF mF ab S) : WP (fX8_runs N S) (fun S' => RP S S' ∧ RC nF cF mF ab S' ∧ ∀ x, x < 896 → S'.1 141 x = eR (Xs (Fx nF cF mF ab) x)) := by
  obtain ⟨h1, h2, h3⟩ := h
  refine (s_runs hN hW h1 h2 h3).imp (fun S' g => ⟨g.1, ⟨fun r hr => (h1 r hr).mv g.1 ⟨by decide, by decide, by decide, by decide⟩, ⟨by rw [g.1.2.2 19 (by decide)]; exact h2.1, by rw [g.1.2.2 20 (by decide)]; exact h2.2⟩, Or.inr ⟨g.2.1, g.2.2⟩⟩, g.2.2⟩)
theorem r_steps (hN : 900000 < N) (hW : ∀ r, r < 8 → WF (cF r) (mF r) (nF r) ∧ ∀ i, cF r i < 256) (h : RC nF cF mF ab S) (a b c d : Int32) : WP (fX8_steps N a b c d S) (fun z => RP S z.2 ∧ RC nF cF mF ab z.2 ∧ vSt nF cF mF ab a b c d z.1) := by
  have hrf : RP S S := FrJ.refl _ _ _
  unfold fX8_steps fX8_steps_73
  rcases nI_cases a 8 (by decide) with ⟨r, hr, rfl⟩ | ha
  · refine WP.beq (s_r81 N S hr) (WP.no z10 ?_)
    rcases nI_cases b 4 (by decide) with ⟨s, hs, rfl⟩ | hb
    · refine WP.beq (s_s81 N S hs) (WP.no z10 ?_)
      rcases nI_cases c 7 (by decide) with ⟨e, he, rfl⟩ | hc
      · refine WP.no (nI_pos (by omega)) (WP.no (nI_nlt (a := 6) (by omega) (by omega)) ?_)
        rcases nI_cases d 4 (by decide) with ⟨t, ht, rfl⟩ | hd
        · refine WP.beq (s_s81 N S ht) (WP.no z10 ?_)
          refine WP.bnd (s_runs' hN hW h) (fun S1 g => ?_)
          simp only [nI_x4, nI_x7, nI_add]
          rw [show ((r * 4 + s) * 7 + e) * 4 + t = (r * 4 + s) * 28 + (e * 4 + t) by omega]
          refine WP.ix (by omega) (by omega) ?_
          rw [nI_cl (by omega), g.2.2 _ (by omega)]
          by_cases q : Xs (Fx nF cF mF ab) ((r * 4 + s) * 28 + (e * 4 + t)) < 1000
          · refine WP.yes ((eR_lt _).mpr q) (WP.ret ⟨g.1, g.2.1, Or.inl ⟨r, s, e, t, hr, hs, he, ht, rfl, rfl, rfl, rfl, ?_⟩⟩)
            unfold stv xs; rw [if_pos q]; exact eR_f q
          · refine WP.no (fun z => q ((eR_lt _).mp z)) (WP.ret ⟨g.1, g.2.1, Or.inl ⟨r, s, e, t, hr, hs, he, ht, rfl, rfl, rfl, rfl, ?_⟩⟩)
            unfold stv xs; rw [if_neg q]
        · exact WP.beq (s_s80 N S hd) (WP.yes rfl (WP.ret ⟨hrf, h, Or.inr ⟨Or.inr (Or.inr (Or.inr hd)), rfl⟩⟩))
      · by_cases hc0 : c < 0
        · exact WP.yes hc0 (WP.ret ⟨hrf, h, Or.inr ⟨Or.inr (Or.inr (Or.inl hc)), rfl⟩⟩)
        · refine WP.no hc0 (WP.yes ?_ (WP.ret ⟨hrf, h, Or.inr ⟨Or.inr (Or.inr (Or.inl hc)), rfl⟩⟩))
          have h7 := hc.resolve_left hc0
          exact Int32.lt_of_lt_of_le (show (6 : Int32) < nI 7 by decide) h7
    · exact WP.beq (s_s80 N S hb) (WP.yes rfl (WP.ret ⟨hrf, h, Or.inr ⟨Or.inr (Or.inl hb), rfl⟩⟩))
  · exact WP.beq (s_r80 N S ha) (WP.yes rfl (WP.ret ⟨hrf, h, Or.inr ⟨Or.inl ha, rfl⟩⟩))
end AN
