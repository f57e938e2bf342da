/-! ===== answers by exits: broken, idle ===== -/
section A3
variable {N : Nat} {nF : Nat → Nat} {cF mF : Nat → Nat → Nat} {ab : Nat → Nat → Bool} {S : St}
/-- what lies above has no bits but the kinds' -/
def Ab6 (S : St) : Prop := ∀ k i, k < 6 → 6 ≤ i → i < 32 → bt (S.1 15 k) i = false
theorem and0 {A P : Int32} : (A &&& P = 0) ↔ ∀ i, i < 32 → ¬ (bt A i = true ∧ bt P i = true) := by
  constructor
  · intro h i _ ⟨h1, h2⟩
    have : bt (A &&& P) i = true := by rw [b_and, h1, h2]; rfl
    rw [h, b_0] at this
    exact absurd this (by decide)
  · intro h
    apply b_ext
    intro i hi
    rw [b_0, b_and]
    have := h i hi
    cases h1 : bt A i with
    | false => rfl
    | true =>
      cases h2 : bt P i with
      | false => rfl
      | true => exact absurd ⟨h1, h2⟩ this
def vBr (nF : Nat → Nat) (cF mF : Nat → Nat → Nat) (ab : Nat → Nat → Bool) (r : Nat) (P v : Int32) : Prop := ∀ i, i < 32 → (bt v i = true ↔ i < 6 ∧ lv nF cF mF ab r 0 (i + 1) ∧ ¬ ∃ f, f < 6 ∧ bt P f = true ∧ ab i f = true)
def vId (nF : Nat → Nat) (cF mF : Nat → Nat → Nat) (ab : Nat → Nat → Bool) (r : Nat) (P v : Int32) : Prop := ∀ i, i < 32 → (bt v i = true ↔ i < 6 ∧ bt P i = true ∧ ¬ ∃ k, k < 6 ∧ lv nF cF mF ab r 0 (k + 1) ∧ ab k i = true)
theorem s_isOfy (hN : 60 < N) {r n : Nat} {ch mt : Nat → Nat} (h : RY r n ch mt ab S) {k f : Nat} (hk : k < 6) (hf : f < 6) : fX8_isOf N (nI k) (nI f) S = some (bP (ab k f = true), S) := by
  rw [s_isOf N (by omega) hk hf S h.2.2.2.1 h.2.2.2.2.1]
  by_cases q : ab k f = true
  · rw [bP_1 q, bK_1 ((h.2.2.2.2.2 k f hk hf).mp q)]
  · rw [bP_0 q, bK_0 (fun z => q ((h.2.2.2.2.2 k f hk hf).mpr z))]
theorem c_broken (hN : 2000 < N) (h : CC nF cF mF ab S) (h6 : Ab6 S) {P : Int32} {r : Nat} (hr : r < 8) (hP : S.1 17 r = P) : WP (fX7_broken N (nI r) S) (fun z => CP S z.2 ∧ CC nF cF mF ab z.2 ∧ vBr nF cF mF ab r P z.1) := by
  unfold fX7_broken
  refine WP.beq (s_isRoutine1 N S hr) (WP.no z10 ?_)
  refine WP.bnd (s_meas hN h hr) (fun S1 g => ?_)
  obtain ⟨g1, g2, g3⟩ := g
  refine WP.beq (s_leaving (nF := nF) (cF := cF) (mF := mF) (ab := ab) (s := 0) (by omega) hr (by omega) (fun e t he ht => g3 0 e t (by omega) he ht)) ?_
  try dsimp only
  have hb : ∀ k, k < 6 → (bt (bset (fun k => lv nF cF mF ab r 0 (k + 1)) 6) k = true ↔ lv nF cF mF ab r 0 (k + 1)) := fun k hk => (bset_bt _ (by omega) 6 (by omega)).trans ⟨fun w => w.2, fun w => ⟨hk, w⟩⟩
  generalize bset (fun k => lv nF cF mF ab r 0 (k + 1)) 6 = L at hb
  have hab := g2.2.1
  refine WP.bnd (P := fun z => z.2 = S1 ∧ vBr nF cF mF ab r P z.1) ?_ (fun z hz => WP.ret ⟨by rw [hz.1]; exact g1, by rw [hz.1]; exact g2, hz.2⟩)
  unfold fX7_broken_26
  refine WP.fr2 6 N (fun k a T => T = S1 ∧ ∀ i, i < 32 → (bt a i = true ↔ i < k ∧ lv nF cF mF ab r 0 (i + 1) ∧ ¬ ∃ f, f < 6 ∧ bt P f = true ∧ ab i f = true)) (by omega) ?_ ?_ 0 (by omega) ⟨rfl, fun i hi => by rw [b_0]; exact ⟨fun w => absurd w (by decide), fun w => absurd w.1 (by omega)⟩⟩
  · rintro k a T hk ⟨rfl, t2⟩
    unfold bfX7_broken_26 fX7_broken_68
    refine WP.no (nI_ge (a := k) (b := 6) hk (by omega)) (WP.beq (s_has N L (show k < 32 by omega) T) ?_)
    try dsimp only
    have same : ∀ (Q : Prop), ¬ (lv nF cF mF ab r 0 (k + 1) ∧ ¬ ∃ f, f < 6 ∧ bt P f = true ∧ ab k f = true) → ∀ i, i < 32 → (bt a i = true ↔ i < k + 1 ∧ lv nF cF mF ab r 0 (i + 1) ∧ ¬ ∃ f, f < 6 ∧ bt P f = true ∧ ab i f = true) := by
      intro _ hq i hi
      rw [t2 i hi]
      constructor
      · rintro ⟨w1, w2⟩; exact ⟨by omega, w2⟩
      · rintro ⟨w1, w2⟩
        by_cases w : i = k
        · rw [w] at w2; exact absurd w2 hq
        · exact ⟨by omega, w2⟩
    by_cases q : lv nF cF mF ab r 0 (k + 1)
    · rw [if_pos ((hb k hk).mpr q)]
      refine WP.no z10 (WP.beq (s_above1 N T hk) (WP.ix hr (by omega) ?_))
      try dsimp only
      have hc : (T.1 15 k &&& T.1 17 r = 0) ↔ ¬ ∃ f, f < 6 ∧ bt P f = true ∧ ab k f = true := by
        have h17 : T.1 17 r = P := by rw [g1.1.2 17 (by decide)]; exact hP
        rw [h17, and0]
        constructor
        · rintro w ⟨f, f1, f2, f3⟩
          exact w f (by omega) ⟨(hab k f hk f1).mpr f3, f2⟩
        · intro w i hi ⟨w1, w2⟩
          rcases Nat.lt_or_ge i 6 with v | v
          · exact w ⟨i, v, w2, (hab k i hk v).mp w1⟩
          · have h15 : T.1 15 k = S.1 15 k := by rw [g1.1.2 15 (by decide)]
            rw [h15, h6 k i hk v hi] at w1
            exact absurd w1 (by decide)
      rw [nI_cl (by omega)]
      by_cases q2 : ∃ f, f < 6 ∧ bt P f = true ∧ ab k f = true
      · refine WP.no (fun z => hc.mp z q2) (WP.ret ⟨a, T, by rw [nI_1], rfl, same True (fun w => w.2 q2)⟩)
      · refine WP.yes (hc.mpr q2) (WP.ret ⟨_, T, by rw [nI_1], rfl, fun i hi => ?_⟩)
        rw [b_or, b_one (by omega) hi, Bool.or_eq_true, t2 i hi, decide_eq_true_eq]
        constructor
        · rintro (⟨w1, w2⟩ | w)
          · exact ⟨by omega, w2⟩
          · rw [w]; exact ⟨by omega, q, q2⟩
        · rintro ⟨w1, w2⟩
          by_cases w : i = k
          · exact Or.inr w
          · exact Or.inl ⟨by omega, w2⟩
    · rw [if_neg (fun z => q ((hb k hk).mp z))]
      exact WP.yes rfl (WP.ret ⟨a, T, by rw [nI_1], rfl, same True (fun w => q w.1)⟩)
  · rintro a T ⟨t1, t2⟩
    unfold bfX7_broken_26
    exact WP.yes (show (6 : Int32) ≤ nI 6 by decide) (WP.ret ⟨_, rfl, t1, t2⟩)
theorem c_idle (hN : 2000 < N) (h : CC nF cF mF ab S) {P : Int32} (hP6 : ∀ i, 6 ≤ i → i < 32 → bt P i = false) {r : Nat} (hr : r < 8) (hP : S.1 17 r = P) : WP (fX7_idle N (nI r) S) (fun z => CP S z.2 ∧ CC nF cF mF ab z.2 ∧ vId nF cF mF ab r P z.1) := by
  unfold fX7_idle
  refine WP.beq (s_isRoutine1 N S hr) (WP.no z10 ?_)
  refine WP.bnd (s_meas hN h hr) (fun S1 g => ?_)
  obtain ⟨g1, g2, g3⟩ := g
  refine WP.beq (s_leaving (nF := nF) (cF := cF) (mF := mF) (ab := ab) (s := 0) (by omega) hr (by omega) (fun e t he ht => g3 0 e t (by omega) he ht)) ?_
  try dsimp only
  have hb : ∀ k, k < 6 → (bt (bset (fun k => lv nF cF mF ab r 0 (k + 1)) 6) k = true ↔ lv nF cF mF ab r 0 (k + 1)) := fun k hk => (bset_bt _ (by omega) 6 (by omega)).trans ⟨fun w => w.2, fun w => ⟨hk, w⟩⟩
  generalize bset (fun k => lv nF cF mF ab r 0 (k + 1)) 6 = L at hb
  have hab := g2.2.1
  refine WP.ix hr (by omega) ?_
  rw [nI_cl (by omega), g1.1.2 17 (by decide), hP]
  refine WP.bnd (P := fun z => z.2 = S1 ∧ vId nF cF mF ab r P z.1) ?_ (fun z hz => WP.ret ⟨by rw [hz.1]; exact g1, by rw [hz.1]; exact g2, hz.2⟩)
  unfold fX7_idle_31
  refine WP.fr2 6 N (fun k a T => T = S1 ∧ ∀ i, i < 32 → (bt a i = true ↔ bt P i = true ∧ ¬ ∃ k', k' < k ∧ lv nF cF mF ab r 0 (k' + 1) ∧ bt (S1.1 15 k') i = true)) (by omega) ?_ ?_ 0 (by omega) ⟨rfl, fun i hi => ⟨fun w => ⟨w, fun ⟨k', w1, _⟩ => absurd w1 (by omega)⟩, fun w => w.1⟩⟩
  · rintro k a T hk ⟨rfl, t2⟩
    unfold bfX7_idle_31 fX7_idle_61
    refine WP.no (nI_ge (a := k) (b := 6) hk (by omega)) (WP.beq (s_has N L (show k < 32 by omega) T) ?_)
    try dsimp only
    by_cases q : lv nF cF mF ab r 0 (k + 1)
    · rw [if_pos ((hb k hk).mpr q)]
      refine WP.no z10 (WP.beq (s_above1 N T hk) (WP.ret ⟨_, T, by rw [nI_1], rfl, fun i hi => ?_⟩))
      try dsimp only
      rw [b_and, b_not _ hi, Bool.and_eq_true, t2 i hi]
      constructor
      · rintro ⟨⟨w1, w2⟩, w3⟩
        refine ⟨w1, fun ⟨k', v1, v2, v3⟩ => ?_⟩
        by_cases v : k' = k
        · rw [v] at v3; rw [v3] at w3; exact absurd w3 (by decide)
        · exact w2 ⟨k', by omega, v2, v3⟩
      · rintro ⟨w1, w2⟩
        refine ⟨⟨w1, fun ⟨k', v1, v2, v3⟩ => w2 ⟨k', by omega, v2, v3⟩⟩, ?_⟩
        cases hv : bt (T.1 15 k) i with
        | false => rfl
        | true => exact absurd ⟨k, by omega, q, hv⟩ w2
    · rw [if_neg (fun z => q ((hb k hk).mp z))]
      refine WP.yes rfl (WP.ret ⟨a, T, by rw [nI_1], rfl, fun i hi => ?_⟩)
      rw [t2 i hi]
      constructor
      · rintro ⟨w1, w2⟩
        refine ⟨w1, fun ⟨k', v1, v2, v3⟩ => ?_⟩
        by_cases v : k' = k
        · rw [v] at v2; exact q v2
        · exact w2 ⟨k', by omega, v2, v3⟩
      · rintro ⟨w1, w2⟩
        exact ⟨w1, fun ⟨k', v1, v2, v3⟩ => w2 ⟨k', by omega, v2, v3⟩⟩
  · rintro a T ⟨t1, t2⟩
    unfold bfX7_idle_31
    refine WP.yes (show (6 : Int32) ≤ nI 6 by decide) (WP.ret ⟨_, rfl, t1, fun i hi => ?_⟩)
    rw [t2 i hi]
    constructor
    · rintro ⟨w1, w2⟩
      have hi6 : i < 6 := by
        rcases Nat.lt_or_ge i 6 with v | v
        · exact v
        · rw [hP6 i v hi] at w1; exact absurd w1 (by decide)
      exact ⟨hi6, w1, fun ⟨k', v1, v2, v3⟩ => w2 ⟨k', v1, v2, (hab k' i v1 hi6).mpr v3⟩⟩
    · rintro ⟨hi6, w1, w2⟩
      exact ⟨w1, fun ⟨k', v1, v2, v3⟩ => w2 ⟨k', v1, v2, (hab k' i v1 hi6).mp v3⟩⟩
theorem r_broken (hN : 900000 < N) (hW : ∀ r, r < 8 → WF (cF r) (mF r) (nF r) ∧ ∀ i, cF r i < 256) (h : RC nF cF mF ab S) {P : Int32} {r : Nat} (hr : r < 8) (hP : S.1 130 r = P) : WP (fX8_broken N (nI r) S) (fun z => RP S z.2 ∧ RC nF cF mF ab z.2 ∧ vBr nF cF mF ab r P z.1) := by
  unfold fX8_broken
  refine WP.beq (s_r81 N S hr) (WP.no z10 ?_)
  refine WP.bnd (r_leaving hN hW h hr (s := 0) (by omega)) (fun y g => ?_)
  obtain ⟨g1, g2, g3⟩ := g
  have hb : ∀ i, i < 32 → (bt y.1 i = true ↔ i < 6 ∧ lv nF cF mF ab r 0 (i + 1)) := fun i hi => by rw [g3]; exact bset_bt _ hi 6 (by omega)
  generalize hye : y.2 = S1 at *
  have h130 : S1.1 130 r = P := by rw [g1.2.1 130 (by decide) (by decide)]; exact hP
  refine WP.bnd (P := fun z => z.2 = S1 ∧ vBr nF cF mF ab r P z.1) ?_ (fun z hz => WP.ret ⟨by rw [hz.1]; exact g1, by rw [hz.1]; exact g2, hz.2⟩)
  unfold fX8_broken_18
  refine WP.fr2 6 N (fun k a T => T = S1 ∧ ∀ i, i < 32 → (bt a i = true ↔ i < 6 ∧ lv nF cF mF ab r 0 (i + 1) ∧ ¬ (i < k ∧ ∃ f, f < 6 ∧ bt P f = true ∧ ab i f = true))) (by omega) ?_ ?_ 0 (by omega) ⟨rfl, fun i hi => (hb i hi).trans ⟨fun w => ⟨w.1, w.2, fun v => absurd v.1 (by omega)⟩, fun w => ⟨w.1, w.2.1⟩⟩⟩
  · rintro k a T hk ⟨rfl, t2⟩
    unfold bfX8_broken_18 fX8_broken_93
    refine WP.no (nI_ge (a := k) (b := 6) hk (by omega)) ?_
    refine WP.bnd (P := fun z => z.2 = T ∧ z.1 = bP (∃ f, f < 6 ∧ bt P f = true ∧ ab k f = true)) ?_ (fun z hz => ?_)
    · unfold fX8_broken_30
      refine WP.fr2 6 N (fun f c U => U = T ∧ c = bP (∃ f', f' < f ∧ bt P f' = true ∧ ab k f' = true)) (by omega) ?_ ?_ 0 (by omega) ⟨rfl, (bP_0 (fun ⟨f', w, _⟩ => absurd w (by omega))).symm⟩
      · rintro f c U hf ⟨rfl, u2⟩
        unfold bfX8_broken_30 fX8_broken_71 fX8_broken_67 fX8_broken_72
        refine WP.no (nI_ge (a := f) (b := 6) hf (by omega)) ?_
        try dsimp only
        rw [u2]
        have ext : ∀ Q : Prop, (Q ↔ (∃ f', f' < f + 1 ∧ bt P f' = true ∧ ab k f' = true)) → ∀ v : Int32, v = bP Q → v = bP (∃ f', f' < f + 1 ∧ bt P f' = true ∧ ab k f' = true) := fun Q hQ v hv => by rw [hv]; exact bP_congr hQ
        by_cases q : ∃ f', f' < f ∧ bt P f' = true ∧ ab k f' = true
        · refine WP.no (fun z => bP_eq0.mp z q) (WP.ret ⟨1, U, by rw [nI_1], rfl, ?_⟩)
          obtain ⟨f', w1, w2⟩ := q
          exact (bP_1 ⟨f', by omega, w2⟩).symm
        · refine WP.yes (bP_0 q) (WP.ix hr (by omega) ?_)
          rw [nI_cl (by omega), h130]
          by_cases q2 : bt P f = true
          · refine WP.yes ((b_tst P (show f < 32 by omega)).mpr q2) ?_
            refine WP.beq (s_isOfy (by omega) (g2.1 r hr) hk hf) ?_
            try dsimp only
            by_cases q3 : ab k f = true
            · exact WP.no (fun z => bP_eq0.mp z q3) (WP.ret ⟨1, U, by rw [nI_1], rfl, (bP_1 ⟨f, by omega, q2, q3⟩).symm⟩)
            · refine WP.yes (bP_0 q3) (WP.ret ⟨0, U, by rw [nI_1], rfl, (bP_0 ?_).symm⟩)
              rintro ⟨f', w1, w2, w3⟩
              by_cases v : f' = f
              · rw [v] at w3; exact q3 w3
              · exact q ⟨f', by omega, w2, w3⟩
          · refine WP.no (fun z => q2 ((b_tst P (show f < 32 by omega)).mp z)) (WP.ret ⟨0, U, by rw [nI_1], rfl, (bP_0 ?_).symm⟩)
            rintro ⟨f', w1, w2, w3⟩
            by_cases v : f' = f
            · rw [v] at w2; exact q2 w2
            · exact q ⟨f', by omega, w2, w3⟩
      · rintro c U ⟨u1, u2⟩
        unfold bfX8_broken_30
        exact WP.yes (show (6 : Int32) ≤ nI 6 by decide) (WP.ret ⟨_, rfl, u1, u2⟩)
    · obtain ⟨z1, z2⟩ := hz
      rw [z1, z2]
      by_cases q : ∃ f, f < 6 ∧ bt P f = true ∧ ab k f = true
      · refine WP.no (fun z => bP_eq0.mp z q) (WP.ret ⟨_, T, by rw [nI_1], rfl, fun i hi => ?_⟩)
        rw [b_and, b_not _ hi, b_one (by omega) hi, Bool.and_eq_true, t2 i hi]
        by_cases w : i = k
        · subst w
          constructor
          · rintro ⟨_, v⟩; simp at v
          · rintro ⟨_, _, v⟩; exact absurd ⟨by omega, q⟩ v
        · constructor
          · rintro ⟨⟨v1, v2, v3⟩, _⟩; exact ⟨v1, v2, fun v => v3 ⟨by omega, v.2⟩⟩
          · rintro ⟨v1, v2, v3⟩; exact ⟨⟨v1, v2, fun v => v3 ⟨by omega, v.2⟩⟩, by simp [w]⟩
      · refine WP.yes (bP_0 q) (WP.ret ⟨_, T, by rw [nI_1], rfl, fun i hi => ?_⟩)
        rw [t2 i hi]
        constructor
        · rintro ⟨v1, v2, v3⟩
          refine ⟨v1, v2, fun v => ?_⟩
          by_cases w : i = k
          · rw [w] at v; exact q v.2
          · exact v3 ⟨by omega, v.2⟩
        · rintro ⟨v1, v2, v3⟩; exact ⟨v1, v2, fun v => v3 ⟨by omega, v.2⟩⟩
  · rintro a T ⟨t1, t2⟩
    unfold bfX8_broken_18
    refine WP.yes (show (6 : Int32) ≤ nI 6 by decide) (WP.ret ⟨_, rfl, t1, fun i hi => ?_⟩)
    rw [t2 i hi]
    exact ⟨fun ⟨v1, v2, v3⟩ => ⟨v1, v2, fun v => v3 ⟨v1, v⟩⟩, fun ⟨v1, v2, v3⟩ => ⟨v1, v2, fun v => v3 v.2⟩⟩
theorem r_idle (hN : 900000 < N) (hW : ∀ r, r < 8 → WF (cF r) (mF r) (nF r) ∧ ∀ i, cF r i < 256) (h : RC nF cF mF ab S) {P : Int32} (hP6 : ∀ i, 6 ≤ i → i < 32 → bt P i = false) {r : Nat} (hr : r < 8) (hP : S.1 130 r = P) : WP (fX8_idle N (nI r) S) (fun z => RP S z.2 ∧ RC nF cF mF ab z.2 ∧ vId nF cF mF ab r P z.1) := by
  unfold fX8_idle
  refine WP.beq (s_r81 N S hr) (WP.no z10 ?_)
  refine WP.bnd (r_leaving hN hW h hr (s := 0) (by omega)) (fun y g => ?_)
  obtain ⟨g1, g2, g3⟩ := g
  have hb : ∀ i, i < 6 → (bt y.1 i = true ↔ lv nF cF mF ab r 0 (i + 1)) := fun i hi => by rw [g3]; exact (bset_bt _ (by omega) 6 (by omega)).trans ⟨fun w => w.2, fun w => ⟨hi, w⟩⟩
  generalize hye : y.2 = S1 at *
  generalize y.1 = L at hb
  refine WP.ix hr (by omega) ?_
  rw [nI_cl (by omega), g1.2.1 130 (by decide) (by decide), hP]
  refine WP.bnd (P := fun z => z.2 = S1 ∧ vId nF cF mF ab r P z.1) ?_ (fun z hz => WP.ret ⟨by rw [hz.1]; exact g1, by rw [hz.1]; exact g2, hz.2⟩)
  unfold fX8_idle_26
  refine WP.fr2 6 N (fun f a T => T = S1 ∧ ∀ i, i < 32 → (bt a i = true ↔ bt P i = true ∧ ¬ (i < f ∧ ∃ k, k < 6 ∧ lv nF cF mF ab r 0 (k + 1) ∧ ab k i = true))) (by omega) ?_ ?_ 0 (by omega) ⟨rfl, fun i hi => ⟨fun w => ⟨w, fun v => absurd v.1 (by omega)⟩, fun w => w.1⟩⟩
  · rintro f a T hf ⟨rfl, t2⟩
    unfold bfX8_idle_26 fX8_idle_99
    refine WP.no (nI_ge (a := f) (b := 6) hf (by omega)) ?_
    refine WP.bnd (P := fun z => z.2 = T ∧ z.1 = bP (∃ k, k < 6 ∧ lv nF cF mF ab r 0 (k + 1) ∧ ab k f = true)) ?_ (fun z hz => ?_)
    · unfold fX8_idle_39
      refine WP.fr2 6 N (fun k c U => U = T ∧ c = bP (∃ k', k' < k ∧ lv nF cF mF ab r 0 (k' + 1) ∧ ab k' f = true)) (by omega) ?_ ?_ 0 (by omega) ⟨rfl, (bP_0 (fun ⟨f', w, _⟩ => absurd w (by omega))).symm⟩
      · rintro k c U hk ⟨rfl, u2⟩
        unfold bfX8_idle_39 fX8_idle_76 fX8_idle_72 fX8_idle_77
        refine WP.no (nI_ge (a := k) (b := 6) hk (by omega)) ?_
        try dsimp only
        rw [u2]
        by_cases q : ∃ k', k' < k ∧ lv nF cF mF ab r 0 (k' + 1) ∧ ab k' f = true
        · refine WP.no (fun z => bP_eq0.mp z q) (WP.ret ⟨1, U, by rw [nI_1], rfl, ?_⟩)
          obtain ⟨k', w1, w2⟩ := q
          exact (bP_1 ⟨k', by omega, w2⟩).symm
        · refine WP.yes (bP_0 q) ?_
          by_cases q2 : lv nF cF mF ab r 0 (k + 1)
          · refine WP.yes ((b_tst L (show k < 32 by omega)).mpr ((hb k hk).mpr q2)) ?_
            refine WP.beq (s_isOfy (by omega) (g2.1 r hr) hk hf) ?_
            try dsimp only
            by_cases q3 : ab k f = true
            · exact WP.no (fun z => bP_eq0.mp z q3) (WP.ret ⟨1, U, by rw [nI_1], rfl, (bP_1 ⟨k, by omega, q2, q3⟩).symm⟩)
            · refine WP.yes (bP_0 q3) (WP.ret ⟨0, U, by rw [nI_1], rfl, (bP_0 ?_).symm⟩)
              rintro ⟨k', w1, w2, w3⟩
              by_cases v : k' = k
              · rw [v] at w3; exact q3 w3
              · exact q ⟨k', by omega, w2, w3⟩
          · refine WP.no (fun z => q2 ((hb k hk).mp ((b_tst L (show k < 32 by omega)).mp z))) (WP.ret ⟨0, U, by rw [nI_1], rfl, (bP_0 ?_).symm⟩)
            rintro ⟨k', w1, w2, w3⟩
            by_cases v : k' = k
            · rw [v] at w2; exact q2 w2
            · exact q ⟨k', by omega, w2, w3⟩
      · rintro c U ⟨u1, u2⟩
        unfold bfX8_idle_39
        exact WP.yes (show (6 : Int32) ≤ nI 6 by decide) (WP.ret ⟨_, rfl, u1, u2⟩)
    · obtain ⟨z1, z2⟩ := hz
      rw [z1, z2]
      by_cases q : ∃ k, k < 6 ∧ lv nF cF mF ab r 0 (k + 1) ∧ ab k f = true
      · refine WP.no (fun z => bP_eq0.mp z q) (WP.ret ⟨_, T, by rw [nI_1], rfl, fun i hi => ?_⟩)
        rw [b_and, b_not _ hi, b_one (by omega) hi, Bool.and_eq_true, t2 i hi]
        by_cases w : i = f
        · subst w
          constructor
          · rintro ⟨_, v⟩; simp at v
          · rintro ⟨_, v⟩; exact absurd ⟨by omega, q⟩ v
        · constructor
          · rintro ⟨⟨v1, v3⟩, _⟩; exact ⟨v1, fun v => v3 ⟨by omega, v.2⟩⟩
          · rintro ⟨v1, v3⟩; exact ⟨⟨v1, fun v => v3 ⟨by omega, v.2⟩⟩, by simp [w]⟩
      · refine WP.yes (bP_0 q) (WP.ret ⟨_, T, by rw [nI_1], rfl, fun i hi => ?_⟩)
        rw [t2 i hi]
        constructor
        · rintro ⟨v1, v3⟩
          refine ⟨v1, fun v => ?_⟩
          by_cases w : i = f
          · rw [w] at v; exact q v.2
          · exact v3 ⟨by omega, v.2⟩
        · rintro ⟨v1, v3⟩; exact ⟨v1, fun v => v3 ⟨by omega, v.2⟩⟩
  · rintro a T ⟨t1, t2⟩
    unfold bfX8_idle_26
    refine WP.yes (show (6 : Int32) ≤ nI 6 by decide) (WP.ret ⟨_, rfl, t1, fun i hi => ?_⟩)
    rw [t2 i hi]
    constructor
    · rintro ⟨w1, w2⟩
      have hi6 : i < 6 := by
        rcases Nat.lt_or_ge i 6 with v | v
        · exact v
        · rw [hP6 i v hi] at w1; exact absurd w1 (by decide)
      exact ⟨hi6, w1, fun v => w2 ⟨hi6, v⟩⟩
    · rintro ⟨_, w1, w2⟩; exact ⟨w1, fun v => w2 v.2⟩
end A3
