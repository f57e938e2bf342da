/-! ===== answers by exits: due ===== -/
theorem WP.fr2x {Y : Type} {b : Int32 × Int32 × St → Option ((Int32 × Int32 × St) ⊕ Y)} {Q : Y → Prop} (n N : Nat) (J : Nat → Int32 → St → Prop) (hN : n < N)
    (hs : ∀ i a S, i < n → J i a S → WP (b (a, nI i, S)) (fun z => (∃ a' S', z = .inl (a', nI (i + 1), S') ∧ J (i + 1) a' S') ∨ (∃ y, z = .inr y ∧ Q y)))
    (he : ∀ a S, J n a S → WP (b (a, nI n, S)) (fun z => ∃ y, z = .inr y ∧ Q y)) {a : Int32} {S : St} (k : Nat) (hk : k ≤ n) (h0 : J k a S) : WP (whl N b (a, nI k, S)) Q := by
  have key : ∀ (m k N : Nat) (a : Int32) (S : St), k + m = n → m < N → J k a S → WP (whl N b (a, nI k, S)) Q := by
    intro m
    induction m with
    | zero =>
      intro k N a S hk hN h0
      obtain ⟨N', rfl⟩ : ∃ N', N = N' + 1 := ⟨N - 1, by omega⟩
      obtain rfl : k = n := by omega
      obtain ⟨z, e, y, rfl, hq⟩ := he a S h0
      exact WP.eq (whl_e e) hq
    | succ m ih =>
      intro k N a S hk hN h0
      obtain ⟨N', rfl⟩ : ∃ N', N = N' + 1 := ⟨N - 1, by omega⟩
      obtain ⟨z, e, ⟨a', S', rfl, hq⟩ | ⟨y, rfl, hq⟩⟩ := hs k a S (by omega) h0
      · rw [whl_s e]
        exact ih (k + 1) N' a' S' (by omega) (by omega) hq
      · exact WP.eq (whl_e e) hq
  exact key (n - k) k N a S (by omega) (by omega) h0
noncomputable def cntP (P : Nat → Prop) (m : Nat) : Nat := sm m (fun x => @ite Nat (P x) (Classical.propDecidable _) 1 0)
theorem cntP_y {P : Nat → Prop} {m : Nat} (h : P m) : cntP P (m + 1) = cntP P m + 1 := by
  show cntP P m + @ite Nat (P m) (Classical.propDecidable _) 1 0 = _
  rw [if_pos h]
theorem cntP_n {P : Nat → Prop} {m : Nat} (h : ¬ P m) : cntP P (m + 1) = cntP P m := by
  show cntP P m + @ite Nat (P m) (Classical.propDecidable _) 1 0 = _
  rw [if_neg h]; rfl
theorem cntP_le (P : Nat → Prop) : ∀ m, cntP P m ≤ m
  | 0 => Nat.le_refl _
  | m + 1 => by
    have := cntP_le P m
    by_cases h : P m
    · rw [cntP_y h]; omega
    · rw [cntP_n h]; omega
theorem cntP_mono {P : Nat → Prop} {m : Nat} : ∀ k, cntP P m ≤ cntP P (m + k)
  | 0 => Nat.le_refl _
  | k + 1 => by
    have := cntP_mono (P := P) (m := m) k
    by_cases h : P (m + k)
    · rw [show m + (k + 1) = m + k + 1 by omega, cntP_y h]; omega
    · rw [show m + (k + 1) = m + k + 1 by omega, cntP_n h]; exact this
/-- the answer of due -/
def vDu (P : Nat → Prop) (l v : Int32) : Prop := (∃ m, m < 21 ∧ P m ∧ nI (cntP P m) = l ∧ v = nI (4 * (m / 3) + (m % 3 + 1))) ∨ ((∀ m, m < 21 → P m → nI (cntP P m) ≠ l) ∧ v = -1)
theorem vDu_uniq {P : Nat → Prop} {l v w : Int32} (h : vDu P l v) (k : vDu P l w) : v = w := by
  rcases h with ⟨m, h1, h2, h3, h4⟩ | ⟨h1, h2⟩
  · rcases k with ⟨m', k1, k2, k3, k4⟩ | ⟨k1, k2⟩
    · have e : nI (cntP P m) = nI (cntP P m') := h3.trans k3.symm
      have c1 := cntP_le P m
      have c2 := cntP_le P m'
      have e := (nI_eq (by omega) (by omega)).mp e
      have hm : m = m' := by
        rcases Nat.lt_trichotomy m m' with w | w | w
        · have := cntP_mono (P := P) (m := m + 1) (m' - (m + 1))
          rw [show m + 1 + (m' - (m + 1)) = m' by omega, cntP_y h2] at this
          omega
        · exact w
        · have := cntP_mono (P := P) (m := m' + 1) (m - (m' + 1))
          rw [show m' + 1 + (m - (m' + 1)) = m by omega, cntP_y k2] at this
          omega
      rw [h4, k4, hm]
    · exact absurd h3 (k1 m h1 h2)
  · rcases k with ⟨m', k1, k2, k3, k4⟩ | ⟨k1, k2⟩
    · exact absurd k3 (h1 m' k1 k2)
    · rw [h2, k2]
section DU
variable {N : Nat} {nF : Nat → Nat} {cF mF : Nat → Nat → Nat} {ab : Nat → Nat → Bool} {S : St}
def duP (nF : Nat → Nat) (cF mF : Nat → Nat → Nat) (ab : Nat → Nat → Bool) (r m : Nat) : Prop := xs nF cF mF ab r 0 (m / 3) (m % 3 + 1) < 1000
theorem x4 (e t : Nat) : 4 * nI e + nI t = nI (4 * e + t) := by rw [show (4 : Int32) = nI 4 from rfl, nI_mul, nI_add]
theorem c_due (hN : 2000 < N) (h : CC nF cF mF ab S) {r : Nat} (hr : r < 8) (l : Int32) (hl : 0 ≤ l) : WP (fX7_due N (nI r) l S) (fun z => CP S z.2 ∧ CC nF cF mF ab z.2 ∧ vDu (duP nF cF mF ab r) l z.1) := by
  unfold fX7_due
  refine WP.beq (s_isRoutine1 N S hr) (WP.no z10 (WP.yes hl ?_))
  refine WP.bnd (s_meas hN h hr) (fun S1 g => ?_)
  obtain ⟨g1, g2, g3⟩ := g
  let P := duP nF cF mF ab r
  refine WP.bnd (P := fun z => z.2 = S1 ∧ vDu P l z.1) ?_ (fun z hz => WP.ret ⟨by rw [hz.1]; exact g1, by rw [hz.1]; exact g2, hz.2⟩)
  unfold fX7_due_23
  let J : Nat → Int32 → St → Prop := fun m a T => T = S1 ∧ a = nI (cntP P m) ∧ ∀ m', m' < m → P m' → nI (cntP P m') ≠ l
  refine WP.fr2x 7 N (fun e a T => J (e * 3) a T) (by omega) ?_ ?_ 0 (by omega) ⟨rfl, rfl, fun m' h => absurd h (by omega)⟩
  · intro e a T he hJ
    unfold bfX7_due_23
    refine WP.no (nI_ge (a := e) (b := 7) he (by omega)) ?_
    refine WP.bnd (P := fun y => (∃ a' T', y = .inl (a', T') ∧ J ((e + 1) * 3) a' T') ∨ (∃ v T', y = .inr (v, T') ∧ T' = S1 ∧ vDu P l v)) ?_ (fun y hy => ?_)
    · unfold fX7_due_33
      refine WP.fr2x 4 N (fun t a T => 1 ≤ t ∧ J (e * 3 + (t - 1)) a T) (by omega) ?_ ?_ 1 (by omega) ⟨Nat.le_refl _, hJ⟩
      · rintro t a T ht ⟨ht1, rfl, j2, j3⟩
        have d1 : (e * 3 + (t - 1)) / 3 = e := by omega
        have d2 : (e * 3 + (t - 1)) % 3 + 1 = t := by omega
        have hp : P (e * 3 + (t - 1)) ↔ xs nF cF mF ab r 0 e t < 1000 := by
          show xs nF cF mF ab r 0 ((e * 3 + (t - 1)) / 3) ((e * 3 + (t - 1)) % 3 + 1) < 1000 ↔ _
          rw [d1, d2]
        have c1 := cntP_le P (e * 3 + (t - 1))
        unfold bfX7_due_33 fX7_due_73
        refine WP.no (nI_ge (a := t) (b := 4) ht (by omega)) ?_
        refine WP.beq (s_fewest N T (s := 0) hr (by omega) he ht) ?_
        try dsimp only
        rw [g3 0 e t (by omega) he ht]
        by_cases q : xs nF cF mF ab r 0 e t < 1000
        · refine WP.no (fun z => by have := eC_ge.mp z; omega) ?_
          by_cases q2 : a = l
          · refine WP.yes q2 (WP.ret (Or.inr ⟨_, rfl, Or.inr ⟨_, _, rfl, rfl, Or.inl ⟨e * 3 + (t - 1), by omega, hp.mpr q, j2.symm.trans q2, ?_⟩⟩⟩))
            rw [d1, d2]; exact x4 e t
          · refine WP.no q2 (WP.ret (Or.inl ⟨_, T, by rw [nI_1], by omega, rfl, ?_, fun m' hm hP' => ?_⟩))
            · rw [show e * 3 + (t + 1 - 1) = e * 3 + (t - 1) + 1 by omega, cntP_y (hp.mpr q), j2, nI_1]
            · by_cases w : m' = e * 3 + (t - 1)
              · rw [w, ← j2]; exact q2
              · exact j3 m' (by omega) hP'
        · refine WP.yes (eC_ge.mpr (by omega)) (WP.ret (Or.inl ⟨_, T, by rw [nI_1], by omega, rfl, ?_, fun m' hm hP' => ?_⟩))
          · rw [show e * 3 + (t + 1 - 1) = e * 3 + (t - 1) + 1 by omega, cntP_n (fun z => q (hp.mp z))]; exact j2
          · by_cases w : m' = e * 3 + (t - 1)
            · rw [w] at hP'; exact absurd (hp.mp hP') q
            · exact j3 m' (by omega) hP'
      · rintro a T ⟨_, hJ'⟩
        unfold bfX7_due_33
        refine WP.yes (show (4 : Int32) ≤ nI 4 by decide) (WP.ret ⟨_, rfl, Or.inl ⟨_, _, rfl, ?_⟩⟩)
        rw [show (e + 1) * 3 = e * 3 + (4 - 1) by omega]; exact hJ'
    · rcases hy with ⟨a', T', rfl, hJ'⟩ | ⟨v, T', rfl, hT, hv⟩
      · exact WP.ret (Or.inl ⟨_, _, by rw [nI_1], hJ'⟩)
      · exact WP.ret (Or.inr ⟨_, rfl, hT, hv⟩)
  · rintro a T ⟨t1, t2, t3⟩
    unfold bfX7_due_23
    exact WP.yes (show (7 : Int32) ≤ nI 7 by decide) (WP.ret ⟨_, rfl, t1, Or.inr ⟨fun m hm => t3 m (by omega), rfl⟩⟩)
theorem r_due (hN : 900000 < N) (hW : ∀ r, r < 8 → WF (cF r) (mF r) (nF r) ∧ ∀ i, cF r i < 256) (h : RC nF cF mF ab S) {r : Nat} (hr : r < 8) (l : Int32) (hl : 0 ≤ l) : WP (fX8_due N (nI r) l S) (fun z => RP S z.2 ∧ RC nF cF mF ab z.2 ∧ vDu (duP nF cF mF ab r) l z.1) := by
  unfold fX8_due
  refine WP.beq (s_r81 N S hr) (WP.no z10 (WP.yes hl ?_))
  let P := duP nF cF mF ab r
  refine WP.bnd (P := fun z => RP S z.2 ∧ RC nF cF mF ab z.2 ∧ vDu P l z.1) ?_ (fun z hz => WP.ret hz)
  unfold fX8_due_18
  let J : Nat → Int32 → St → Prop := fun m a T => (RP S T ∧ RC nF cF mF ab T) ∧ a = nI (cntP P m) ∧ ∀ m', m' < m → P m' → nI (cntP P m') ≠ l
  refine WP.fr2x 7 N (fun e a T => J (e * 3) a T) (by omega) ?_ ?_ 0 (by omega) ⟨⟨FrJ.refl _ _ _, h⟩, rfl, fun m' h => absurd h (by omega)⟩
  · intro e a T he hJ
    unfold bfX8_due_18
    refine WP.no (nI_nlt (a := 6) (b := e) (by omega) (by omega)) ?_
    refine WP.bnd (P := fun y => (∃ a' T', y = .inl (a', T') ∧ J ((e + 1) * 3) a' T') ∨ (∃ v T', y = .inr (v, T') ∧ (RP S T' ∧ RC nF cF mF ab T') ∧ vDu P l v)) ?_ (fun y hy => ?_)
    · unfold fX8_due_28
      refine WP.fr2x 4 N (fun t a T => 1 ≤ t ∧ J (e * 3 + (t - 1)) a T) (by omega) ?_ ?_ 1 (by omega) ⟨Nat.le_refl _, hJ⟩
      · rintro t a T ht ⟨ht1, j1, j2, j3⟩
        have d1 : (e * 3 + (t - 1)) / 3 = e := by omega
        have d2 : (e * 3 + (t - 1)) % 3 + 1 = t := by omega
        have hp : P (e * 3 + (t - 1)) ↔ xs nF cF mF ab r 0 e t < 1000 := by
          show xs nF cF mF ab r 0 ((e * 3 + (t - 1)) / 3) ((e * 3 + (t - 1)) % 3 + 1) < 1000 ↔ _
          rw [d1, d2]
        have c1 := cntP_le P (e * 3 + (t - 1))
        unfold bfX8_due_28 fX8_due_68
        refine WP.no (nI_ge (a := t) (b := 4) ht (by omega)) ?_
        refine WP.bnd (r_steps hN hW j1.2 (nI r) (nI 0) (nI e) (nI t)) (fun y g => ?_)
        have hv := vSt_v hr (by omega) he ht g.2.2
        have jy : RP S y.2 ∧ RC nF cF mF ab y.2 := ⟨j1.1.trans g.1, g.2.1⟩
        by_cases q : xs nF cF mF ab r 0 e t < 1000
        · refine WP.no (fun z => stv_m1.mp (hv.symm.trans z) q) ?_
          by_cases q2 : a = l
          · refine WP.yes q2 (WP.ret (Or.inr ⟨_, rfl, Or.inr ⟨_, _, rfl, jy, Or.inl ⟨e * 3 + (t - 1), by omega, hp.mpr q, j2.symm.trans q2, ?_⟩⟩⟩))
            rw [d1, d2]; exact x4 e t
          · refine WP.no q2 (WP.ret (Or.inl ⟨_, y.2, by rw [nI_1], by omega, jy, ?_, fun m' hm hP' => ?_⟩))
            · rw [show e * 3 + (t + 1 - 1) = e * 3 + (t - 1) + 1 by omega, cntP_y (hp.mpr q), j2, nI_1]
            · by_cases w : m' = e * 3 + (t - 1)
              · rw [w, ← j2]; exact q2
              · exact j3 m' (by omega) hP'
        · refine WP.yes (hv.trans (stv_m1.mpr q)) (WP.ret (Or.inl ⟨_, y.2, by rw [nI_1], by omega, jy, ?_, fun m' hm hP' => ?_⟩))
          · rw [show e * 3 + (t + 1 - 1) = e * 3 + (t - 1) + 1 by omega, cntP_n (fun z => q (hp.mp z))]; exact j2
          · by_cases w : m' = e * 3 + (t - 1)
            · rw [w] at hP'; exact absurd (hp.mp hP') q
            · exact j3 m' (by omega) hP'
      · rintro a T ⟨_, hJ'⟩
        unfold bfX8_due_28
        refine WP.yes (show (4 : Int32) ≤ nI 4 by decide) (WP.ret ⟨_, rfl, Or.inl ⟨_, _, rfl, ?_⟩⟩)
        rw [show (e + 1) * 3 = e * 3 + (4 - 1) by omega]; exact hJ'
    · rcases hy with ⟨a', T', rfl, hJ'⟩ | ⟨v, T', rfl, hT, hv⟩
      · exact WP.ret (Or.inl ⟨_, _, by rw [nI_1], hJ'⟩)
      · exact WP.ret (Or.inr ⟨_, rfl, hT.1, hT.2, hv⟩)
  · rintro a T ⟨t1, t2, t3⟩
    unfold bfX8_due_18
    exact WP.yes (show (6 : Int32) < nI 7 by decide) (WP.ret ⟨_, rfl, t1.1, t1.2, Or.inr ⟨fun m hm => t3 m (by omega), rfl⟩⟩)
end DU
