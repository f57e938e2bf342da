/-! ===== the first program: measure ===== -/
/-- the text of a routine, as told -/
def TX (nF : Nat → Nat) (cF mF : Nat → Nat → Nat) (q : Nat) (S : St) : Prop := ∃ (B : Nat) (bn fs kp : Nat → Nat) (ag : Nat → Prop), TK (nF q) B (cF q) (mF q) bn fs kp ag ∧ TD (S.2 q) (nF q) B (cF q) (mF q) bn fs kp ag S ∧ ∀ p, p < 32 → (bt (S.1 (TA (S.2 q)) 11) p = true ↔ p < 8 ∧ clb (cF q) p)
/-- cells of A change, and which Told the measurer and the tracer look at -/
def FrC (A : List Nat) (S S' : St) : Prop := (∀ j, j ≠ 10 → j ≠ 11 → S'.2 j = S.2 j) ∧ ∀ c, c ∉ A → S'.1 c = S.1 c
theorem FrC.refl (A : List Nat) (S : St) : FrC A S S := ⟨fun _ _ _ => rfl, fun _ _ => rfl⟩
theorem FrC.trans {A : List Nat} {S T U : St} (h : FrC A S T) (k : FrC A T U) : FrC A S U := ⟨fun j h1 h2 => (k.1 j h1 h2).trans (h.1 j h1 h2), fun c hc => (k.2 c hc).trans (h.2 c hc)⟩
theorem FrC.mono {A B : List Nat} {S T : St} (h : FrC A S T) (hs : ∀ c, c ∈ A → c ∈ B) : FrC B S T := ⟨h.1, fun c hc => h.2 c (fun q => hc (hs c q))⟩
theorem Fr.C {A : List Nat} {S T : St} (h : Fr A S T) : FrC A S T := ⟨fun j _ _ => by rw [h.1], h.2⟩
theorem Fr.Cp {A : List Nat} {S T : St} {j m : Nat} (hj : j = 10 ∨ j = 11) (h : Fr A (st_p S j m) T) : FrC A S T := by
  refine ⟨fun i h1 h2 => ?_, fun c hc => h.2 c hc⟩
  rw [h.1]
  show va_up S.2 j m i = S.2 i
  unfold va_up
  rw [if_neg (by omega)]
theorem TX.mv {nF : Nat → Nat} {cF mF : Nat → Nat → Nat} {q : Nat} {S T : St} (h : TX nF cF mF q S) (hq : q < 8) {A : List Nat} (f : FrC A S T) (hA : ∀ c, c ∈ A → c ∈ nT) : TX nF cF mF q T := by
  obtain ⟨B, bn, fs, kp, ag, h1, h2, h3⟩ := h
  have g : ∀ o, o < 9 → T.1 (TA (S.2 q) + o) = S.1 (TA (S.2 q) + o) := fun o ho => f.2 _ (fun z => TA_ne (S.2 q) o ho (hA _ z) rfl)
  refine ⟨B, bn, fs, kp, ag, h1, ?_, ?_⟩
  · rw [f.1 q (by omega) (by omega)]
    unfold TD
    rw [show T.1 (TA (S.2 q)) = S.1 (TA (S.2 q)) from g 0 (by omega), g 1 (by omega), g 2 (by omega), g 3 (by omega), g 4 (by omega), g 5 (by omega), g 6 (by omega)]
    exact h2
  · rw [f.1 q (by omega) (by omega), show T.1 (TA (S.2 q)) = S.1 (TA (S.2 q)) from g 0 (by omega)]
    exact h3
theorem TD.mvC {m n B : Nat} {ch mt bn fs kp : Nat → Nat} {ag : Nat → Prop} {S T : St} (h : TD m n B ch mt bn fs kp ag S) {A : List Nat} (f : ∀ c, c ∉ A → T.1 c = S.1 c) (hA : ∀ c, c ∈ A → c ∈ nT) : TD m n B ch mt bn fs kp ag T := by
  have g : ∀ o, o < 9 → T.1 (TA m + o) = S.1 (TA m + o) := fun o ho => f _ (fun q => TA_ne m o ho (hA _ q) rfl)
  unfold TD
  rw [show T.1 (TA m) = S.1 (TA m) from g 0 (by omega), g 1 (by omega), g 2 (by omega), g 3 (by omega), g 4 (by omega), g 5 (by omega), g 6 (by omega)]
  exact h
theorem Xs_itr {F : (Nat → Nat) → Nat → Nat} (hG : ∀ x, Gd (fun X => F X x)) (hT : ∀ X x, 896 ≤ x → F X x = 1000) (hL : ∀ X x, F X x ≤ 1000) (m : Nat) : ∀ x, Xs F x ≤ itr F m x := by
  induction m with
  | zero => intro x; rw [itr_0]; exact itr_le hL 896 x
  | succ m ih =>
    intro x
    rw [itr_s, ← Xs_fix hG hT hL x]
    exact (hG x).1 _ _ ih
section ME
variable {N : Nat} {nF : Nat → Nat} {cF mF : Nat → Nat → Nat} {ab : Nat → Nat → Bool} {S : St}
def meA : List Nat := [19, 30, 31, 32, 33, 34, 35]
theorem clS_mv {T : St} {A : List Nat} (f : FrC A S T) (hA : ∀ c, c ∈ A → c ∈ nT) {q : Nat} (hq : q < 8) : clS T q = clS S q := by
  unfold clS
  rw [f.1 q (by omega) (by omega), show T.1 (TA (S.2 q)) = S.1 (TA (S.2 q)) from f.2 _ (fun z => TA_ne (S.2 q) 0 (by omega) (hA _ z) rfl)]
/-- what is known of exits that are up to date -/
def IMc (G : (Nat → Nat) → Nat → Nat) (cF : Nat → Nat → Nat) (M : Int32) (S : St) : Prop := ∀ q, q < 8 → bt M q = true → (∀ x, x / 112 = q → S.1 19 x = eC (Xs G x)) ∧ ∀ p, p < 8 → clb (cF q) p → bt M p = true
theorem s_mpass (hN : 100 < N) (hT : ∀ q, q < 8 → TX nF cF mF q S) (hA : Ab ab S) {W l4 : Int32} {C Ms : Nat → Prop} (hW : ∀ r, r < 8 → WF (cF r) (mF r) (nF r)) (hC : ∀ q p, q < 8 → p < 8 → C q → clb (cF q) p → C p) (hCW : ∀ q, q < 8 → bt W q = true → C q) (hMW : ∀ q, Ms q → ¬ (q < 8 ∧ bt W q = true)) (hCm : ∀ q, C q → Ms q ∨ (q < 8 ∧ bt W q = true)) {O : Int32} {Y : Nat → Nat} (hO : ∀ q, q < 8 → bt O q = true → bt W q = true) (hY : ∀ x, x < 896 → S.1 19 x = eC (Y x)) (hP : PI (Fx nF cF mF ab) C (fun q => q < 8 ∧ bt W q = true) Ms (fun q => bt O q = true) Y) {n : Nat} (hn : ∀ x, x < 896 → C (x / 112) → Y x ≤ itr (Fx nF cF mF ab) n x) :
    WP (fX7_measure_79 N W l4 (O, 0, S)) (fun z => FrC meA S z.2 ∧ (∀ q, q < 8 → bt z.1 q = true → bt W q = true) ∧ ∃ Y' : Nat → Nat, (∀ x, x < 896 → z.2.1 19 x = eC (Y' x)) ∧ PI (Fx nF cF mF ab) C (fun q => q < 8 ∧ bt W q = true) Ms (fun q => bt z.1 q = true) Y' ∧ ∀ x, x < 896 → C (x / 112) → Y' x ≤ itr (Fx nF cF mF ab) (n + 1) x) := by
  have hG : ∀ x, Gd (fun X => Fx nF cF mF ab X x) := Fx_gd nF cF mF ab
  let J : Nat → Int32 → St → Prop := fun q O T => FrC meA S T ∧ (∀ q, q < 8 → bt O q = true → bt W q = true) ∧ ∃ Y' : Nat → Nat, (∀ x, x < 896 → T.1 19 x = eC (Y' x)) ∧ PI (Fx nF cF mF ab) C (fun q => q < 8 ∧ bt W q = true) Ms (fun q => bt O q = true) Y' ∧ (∀ x, x < 896 → C (x / 112) → Y' x ≤ itr (Fx nF cF mF ab) n x) ∧ (∀ x, x < 896 → C (x / 112) → x / 112 < q → Y' x ≤ itr (Fx nF cF mF ab) (n + 1) x)
  unfold fX7_measure_79
  refine WP.imp (P := fun z => J 8 z.1 z.2) ?_ (fun z hz => ?_)
  · refine WP.fr2 8 N J (by omega) ?_ ?_ 0 (by omega) ⟨FrC.refl _ _, hO, Y, hY, hP, hn, fun x _ _ h => absurd h (by omega)⟩
    · rintro q O1 T hq ⟨j1, j2, Y1, y1, y2, y3, y4⟩
      have hdown : ∀ x, x < 896 → C (x / 112) → Fx nF cF mF ab Y1 x ≤ itr (Fx nF cF mF ab) (n + 1) x := fun x hx hc => by
        rw [itr_s]
        exact Fx_C hW hC y3 y2.1 hx hc
      unfold bfX7_measure_79 fX7_measure_141
      refine WP.no (nI_ge (a := q) (b := 8) hq (by omega)) (WP.beq (s_has N O1 (show q < 32 by omega) T) ?_)
      try dsimp only
      by_cases w : bt O1 q = true
      · rw [if_pos w]
        refine WP.no z10 (WP.ix hq (by omega) ?_)
        rw [nI_cl (by omega)]
        have hqW := j2 q hq w
        obtain ⟨B, bn, fs, kp, ag, k1, k2, k3⟩ := (hT q hq).mv hq j1 (by decide)
        refine WP.bnd (s_measureAll (ab := ab) hN k1 k2 (fun k j h1 h2 => by rw [j1.2 15 (by decide)]; exact hA k j h1 h2) y2.1 y1) (fun T1 g1 => ?_)
        have f1 : FrC maA T T1 := Fr.Cp (Or.inl rfl) g1.1
        have hS10 : T1.2 10 = T.2 q := by
          rw [g1.1.1]
          show va_up T.2 10 (T.2 q) 10 = T.2 q
          unfold va_up; rw [if_pos rfl]
        have kD : TD (T1.2 10) (nF q) B (cF q) (mF q) bn fs kp ag T1 := by
          rw [hS10]
          exact k2.mvC (A := maA) f1.2 (by decide)
        refine WP.bnd (s_tell (nF := nF) (cF := cF) (mF := mF) (ab := ab) (by omega) hq k1 kD g1.2 y2.1 (fun x hx => by rw [f1.2 19 (by decide)]; exact y1 x hx)) (fun z g2 => ?_)
        obtain ⟨z1, z2, z3⟩ := g2
        have fz : FrC meA S z.2 := (j1.trans (f1.mono (by decide))).trans ((Fr.C z1).mono (by decide))
        have hone : ∀ p, p < 8 → bt (((1 : Int32) <<< (nI q &&& 31)) ^^^ (-1)) p = !(decide (p = q)) := fun p hp => by rw [b_not _ (by omega), b_one (by omega) (by omega)]
        have hO1 : ∀ p, p < 8 → (bt (O1 &&& (((1 : Int32) <<< (nI q &&& 31)) ^^^ (-1))) p = true ↔ bt O1 p = true ∧ p ≠ q) := fun p hp => by
          rw [b_and, hone p hp, Bool.and_eq_true]
          by_cases v : p = q
          · simp [v]
          · simp [v]
        -- either way the new bits fit
        have key : ∀ O2 : Int32, (∀ p, p < 8 → bt O2 p = true → bt W p = true) → (∀ p, p < 8 → p ≠ q → (¬ bt O2 p = true → ¬ bt O1 p = true)) → ((∃ x, q * 112 ≤ x ∧ x < q * 112 + 112 ∧ Fx nF cF mF ab Y1 x ≠ Y1 x) → ∀ p, p < 8 → (p < 8 ∧ bt W p = true) → clb (cF p) q → bt O2 p = true) → J (q + 1) O2 z.2 := by
          intro O2 o1 o2 o3
          obtain ⟨p1, p2⟩ := PI_step hW hC (fun q h => hCW q h.1 h.2) hMW hCm y2 hq ⟨hq, hqW⟩ o2 o3
          refine ⟨fz, o1, _, z3, p1, fun x hx hc => Nat.le_trans (p2 x hx hc) (y3 x hx hc), fun x hx hc hxq => ?_⟩
          by_cases v : x / 112 = q
          · rw [if_pos (by omega)]; exact hdown x hx hc
          · rw [if_neg (by omega)]; exact y4 x hx hc (by omega)
        try dsimp only
        rw [z2]
        by_cases hch : ∃ x, q * 112 ≤ x ∧ x < q * 112 + 112 ∧ Fx nF cF mF ab Y1 x ≠ Y1 x
        · refine WP.no (fun v => bP_eq0.mp v hch) ?_
          obtain ⟨A, ea, hA2⟩ := s_callersOf (N := N) (S := z.2) (by omega) hq
          refine WP.beq ea (WP.ret ⟨_, z.2, by rw [nI_1], key _ (fun p hp hb => ?_) (fun p hp hpq h1 h2 => ?_) (fun _ p hp hw hcl => ?_)⟩)
          · rw [b_or, b_and, b_and, Bool.or_eq_true, Bool.and_eq_true, Bool.and_eq_true] at hb
            rcases hb with hb | hb
            · exact j2 p hp hb.1
            · exact hb.1
          · apply h1
            rw [b_or, Bool.or_eq_true]
            exact Or.inl ((hO1 p hp).mpr ⟨h2, hpq⟩)
          · rw [b_or, b_and W, Bool.or_eq_true, Bool.and_eq_true]
            refine Or.inr ⟨hw.2, (hA2 p hp).mpr ?_⟩
            obtain ⟨B', bn', fs', kp', ag', _, _, k3'⟩ := (hT p hp).mv hp fz (by decide)
            exact (k3' q (by omega)).mpr ⟨hq, hcl⟩
        · refine WP.yes (bP_0 hch) (WP.ret ⟨_, z.2, by rw [nI_1], key _ (fun p hp hb => j2 p hp ((hO1 p hp).mp hb).1) (fun p hp hpq h1 h2 => h1 ((hO1 p hp).mpr ⟨h2, hpq⟩)) (fun h => absurd h hch)⟩)
      · rw [if_neg w]
        refine WP.yes rfl (WP.ret ⟨O1, T, by rw [nI_1], j1, j2, Y1, y1, y2, y3, fun x hx hc hxq => ?_⟩)
        by_cases v : x / 112 = q
        · rcases hCm _ hc with hms | hwt
          · rw [y2.2.2.1 x hx hms]
            exact Xs_itr hG (Fx_top nF cF mF ab) (Fx_le nF cF mF ab) (n + 1) x
          · rw [y2.2.2.2.1 x hx hwt (by rw [v]; exact w)]
            exact hdown x hx hc
        · exact y4 x hx hc (by omega)
    · intro O1 T hJ
      unfold bfX7_measure_79
      exact WP.yes (show (8 : Int32) ≤ nI 8 by decide) (WP.ret ⟨_, rfl, hJ⟩)
  · obtain ⟨j1, j2, Y1, y1, y2, y3, y4⟩ := hz
    exact ⟨j1, j2, Y1, y1, y2, fun x hx hc => y4 x hx hc (by omega)⟩
theorem s_measure (hN : 2000 < N) (hT : ∀ q, q < 8 → TX nF cF mF q S) (hA : Ab ab S) {X : Nat → Nat} (hX : ∀ x, X x ≤ 1000) (hE : ∀ x, x < 896 → S.1 19 x = eC (X x)) (hM : IMc (Fx nF cF mF ab) cF (S.1 0 11) S) {r : Nat} (hr : r < 8) :
    WP (fX7_measure N (nI r) S) (fun S' => FrC (0 :: meA) S S' ∧ (∀ j, j ≠ 11 → S'.1 0 j = S.1 0 j) ∧ bt (S'.1 0 11) r = true ∧ (∀ q, q < 8 → bt (S.1 0 11) q = true → bt (S'.1 0 11) q = true) ∧ (∃ X' : Nat → Nat, (∀ x, X' x ≤ 1000) ∧ ∀ x, x < 896 → S'.1 19 x = eC (X' x)) ∧ IMc (Fx nF cF mF ab) cF (S'.1 0 11) S') := by
  have hG : ∀ x, Gd (fun X => Fx nF cF mF ab X x) := Fx_gd nF cF mF ab
  have hW : ∀ r, r < 8 → WF (cF r) (mF r) (nF r) := fun q hq => by obtain ⟨B, bn, fs, kp, ag, h1, _, _⟩ := hT q hq; exact h1.1.1
  have hcl : ∀ q p, q < 8 → p < 8 → (bt (clS S q) p = true ↔ clb (cF q) p) := fun q p hq hp => by
    obtain ⟨B, bn, fs, kp, ag, _, _, h3⟩ := hT q hq
    exact (h3 p (by omega)).trans ⟨fun h => h.2, fun h => ⟨hp, h⟩⟩
  unfold fX7_measure
  refine WP.beq (s_has N (S.1 0 11) (show r < 32 by omega) S) ?_
  by_cases hm : bt (S.1 0 11) r = true
  · rw [if_pos hm]
    exact WP.no z10 (WP.ret ⟨FrC.refl _ _, fun _ _ => rfl, hm, fun _ _ h => h, ⟨X, hX, hE⟩, hM⟩)
  · rw [if_neg hm]
    refine WP.yes rfl (WP.beq (s_comesTo (by omega) hr) ?_)
    try dsimp only
    generalize hAe : cAll (clS S) 8 (clS S r) = A
    have hAcl : clsd (clS S) A := by rw [← hAe]; exact cAll_cl _ _
    have hAr : sub8 (clS S r) A := by
      have := cAll_up (clS S) (clS S r) 0 8
      rw [← hAe]; exact this
    generalize hWe : ((((1 : Int32) <<< (nI r &&& 31)) ||| A) &&& ((S.1 0 11) ^^^ (-1))) = W
    have hWb : ∀ q, q < 8 → (bt W q = true ↔ (q = r ∨ bt A q = true) ∧ ¬ bt (S.1 0 11) q = true) := fun q hq => by
      rw [← hWe, b_and, b_or, b_one (by omega) (by omega), b_not _ (by omega), Bool.and_eq_true, Bool.or_eq_true, decide_eq_true_eq]
      simp
    let Ms : Nat → Prop := fun q => q < 8 ∧ bt (S.1 0 11) q = true
    let C : Nat → Prop := fun q => q < 8 ∧ (bt (S.1 0 11) q = true ∨ bt W q = true)
    have hC : ∀ q p, q < 8 → p < 8 → C q → clb (cF q) p → C p := by
      rintro q p hq hp ⟨_, h1 | h1⟩ h2
      · exact ⟨hp, Or.inl ((hM q hq h1).2 p hp h2)⟩
      · have h3 : bt A p = true := by
          rcases ((hWb q hq).mp h1).1 with h4 | h4
          · rw [h4] at h2; exact hAr p hp ((hcl r p hr hp).mpr h2)
          · exact hAcl q hq h4 p hp ((hcl q p hq hp).mpr h2)
        by_cases h5 : bt (S.1 0 11) p = true
        · exact ⟨hp, Or.inl h5⟩
        · exact ⟨hp, Or.inr ((hWb p hp).mpr ⟨Or.inr h3, h5⟩)⟩
    have hCW : ∀ q, q < 8 → bt W q = true → C q := fun q hq h => ⟨hq, Or.inr h⟩
    have hMW : ∀ q, Ms q → ¬ (q < 8 ∧ bt W q = true) := fun q h1 h2 => ((hWb q h2.1).mp h2.2).2 h1.2
    have hCm : ∀ q, C q → Ms q ∨ (q < 8 ∧ bt W q = true) := fun q h => h.2.elim (fun w => Or.inl ⟨h.1, w⟩) (fun w => Or.inr ⟨h.1, w⟩)
    -- clearing
    let X1 : Nat → Nat := fun x => if bt W (x / 112) = true then 1000 else X x
    refine WP.bnd (P := fun S1 => FrC meA S S1 ∧ ∀ x, x < 896 → S1.1 19 x = eC (X1 x)) ?_ (fun S1 g1 => ?_)
    · unfold fX7_measure_31
      refine WP.fr1 8 N (fun q T => FrC meA S T ∧ ∀ x, x < 896 → T.1 19 x = eC (if x / 112 < q ∧ bt W (x / 112) = true then 1000 else X x)) (by omega) ?_ ?_ 0 (by omega) ⟨FrC.refl _ _, fun x hx => by rw [if_neg (by omega)]; exact hE x hx⟩
      · rintro q T hq ⟨t1, t2⟩
        unfold bfX7_measure_31 fX7_measure_53
        refine WP.no (nI_ge (a := q) (b := 8) hq (by omega)) (WP.beq (s_has N W (show q < 32 by omega) T) ?_)
        try dsimp only
        by_cases w : bt W q = true
        · rw [if_pos w]
          refine WP.no z10 ?_
          refine WP.bnd (s_clear (by omega) hq (X := fun x => if x / 112 < q ∧ bt W (x / 112) = true then 1000 else X x) (fun x => by split; exact Nat.le_refl _; exact hX x) t2) (fun T1 g => WP.ret ⟨T1, by rw [nI_1], t1.trans ((Fr.C g.1).mono (by decide)), fun x hx => ?_⟩)
          rw [g.2 x hx]
          refine congrArg eC ?_
          by_cases v : x / 112 = q
          · rw [if_pos (by omega), if_pos ⟨by omega, by rw [v]; exact w⟩]
          · rw [if_neg (by omega)]
            by_cases v2 : x / 112 < q ∧ bt W (x / 112) = true
            · rw [if_pos v2, if_pos ⟨by omega, v2.2⟩]
            · rw [if_neg v2, if_neg (fun v3 => v2 ⟨by omega, v3.2⟩)]
        · rw [if_neg w]
          refine WP.yes rfl (WP.ret ⟨T, by rw [nI_1], t1, fun x hx => ?_⟩)
          rw [t2 x hx]
          refine congrArg eC ?_
          by_cases v2 : x / 112 < q ∧ bt W (x / 112) = true
          · rw [if_pos v2, if_pos ⟨by omega, v2.2⟩]
          · rw [if_neg v2, if_neg (fun v3 => ?_)]
            by_cases v : x / 112 = q
            · rw [v] at v3; exact w v3.2
            · exact v2 ⟨by omega, v3.2⟩
      · rintro T ⟨t1, t2⟩
        unfold bfX7_measure_31
        refine WP.yes (show (8 : Int32) ≤ nI 8 by decide) (WP.ret ⟨_, rfl, t1, fun x hx => ?_⟩)
        rw [t2 x hx]
        refine congrArg eC ?_
        show _ = if bt W (x / 112) = true then 1000 else X x
        by_cases v : bt W (x / 112) = true
        · rw [if_pos ⟨by omega, v⟩, if_pos v]
        · rw [if_neg (fun v2 => v v2.2), if_neg v]
    have hX1 : ∀ x, X1 x ≤ 1000 := fun x => by show (if bt W (x / 112) = true then 1000 else X x) ≤ 1000; split; exact Nat.le_refl _; exact hX x
    have hX1w : ∀ x, bt W (x / 112) = true → X1 x = 1000 := fun x h => if_pos h
    have hX1m : ∀ x, x < 896 → bt (S.1 0 11) (x / 112) = true → X1 x = Xs (Fx nF cF mF ab) x := fun x hx h => by
      have hnw : ¬ bt W (x / 112) = true := fun z => ((hWb _ (by omega)).mp z).2 h
      show (if bt W (x / 112) = true then 1000 else X x) = _
      rw [if_neg hnw]
      have h1 := (hM _ (by omega) h).1 x rfl
      rw [hE x hx] at h1
      exact (eC_inj (hX x) (itr_le (Fx_le nF cF mF ab) 896 x)).mp h1
    have hP0 : PI (Fx nF cF mF ab) C (fun q => q < 8 ∧ bt W q = true) Ms (fun q => bt W q = true) X1 := by
      refine ⟨hX1, fun x hx hc => ?_, fun x hx h => hX1m x hx h.2, fun x hx h1 h2 => absurd h1.2 h2, fun x hx hc => ?_⟩
      · rcases hc.2 with h | h
        · rw [hX1m x hx h]; exact Nat.le_refl _
        · rw [hX1w x h]; exact itr_le (Fx_le nF cF mF ab) 896 x
      · rcases hc.2 with h | h
        · rw [hX1m x hx h]
          rw [← Xs_fix hG (Fx_top nF cF mF ab) (Fx_le nF cF mF ab) x]
          refine Nat.le_of_eq (Fx_Ce hW (C := fun q => q < 8 ∧ bt (S.1 0 11) q = true) (fun q p hq hp h1 h2 => ⟨hp, (hM q hq h1.2).2 p hp h2⟩) (fun y hy hyc => hX1m y hy hyc.2) hx ⟨by omega, h⟩)
        · rw [hX1w x h]; exact Fx_le _ _ _ _ _ _
    -- the passes
    have loop : ∀ (m n M : Nat) (O : Int32) (T : St) (Y : Nat → Nat), n + m = 1000 → m < M → FrC meA S T → (∀ q, q < 8 → bt O q = true → bt W q = true) → (∀ x, x < 896 → T.1 19 x = eC (Y x)) → PI (Fx nF cF mF ab) C (fun q => q < 8 ∧ bt W q = true) Ms (fun q => bt O q = true) Y → (∀ x, x < 896 → C (x / 112) → Y x ≤ itr (Fx nF cF mF ab) n x) → WP (whl M (bfX7_measure_64 N W) (O, nI n, T)) (fun T' => FrC meA S T' ∧ ∃ Y' : Nat → Nat, (∀ x, Y' x ≤ 1000) ∧ (∀ x, x < 896 → T'.1 19 x = eC (Y' x)) ∧ ∀ x, x < 896 → C (x / 112) → Y' x = Xs (Fx nF cF mF ab) x) := by
      intro m
      induction m with
      | zero =>
        intro n M O T Y hn hM' t1 t2 t3 t4 t5
        obtain ⟨M', rfl⟩ : ∃ M', M = M' + 1 := ⟨M - 1, by omega⟩
        obtain rfl : n = 1000 := by omega
        refine WP.eq (whl_e (y := T) ?_) ⟨t1, Y, t4.1, t3, PI_end hW hC t4 t5 (Or.inl (by omega))⟩
        unfold bfX7_measure_64
        rw [if_pos (show (1000 : Int32) ≤ nI 1000 by decide)]
      | succ m ih =>
        intro n M O T Y hn hM' t1 t2 t3 t4 t5
        obtain ⟨M', rfl⟩ : ∃ M', M = M' + 1 := ⟨M - 1, by omega⟩
        by_cases hO : O = 0
        · refine WP.eq (whl_e (y := T) ?_) ⟨t1, Y, t4.1, t3, PI_end hW hC t4 t5 (Or.inr (fun x hx hc => ?_))⟩
          · unfold bfX7_measure_64
            rw [if_neg (show ¬ (1000 : Int32) ≤ nI n from nI_ge (b := 1000) (by omega) (by omega)), if_pos hO]
          · rcases hCm _ hc with h | h
            · rw [t4.2.2.1 x hx h]
              rw [← Xs_fix hG (Fx_top nF cF mF ab) (Fx_le nF cF mF ab) x]
              exact (Fx_Ce hW (C := fun q => q < 8 ∧ bt (S.1 0 11) q = true) (fun q p hq hp h1 h2 => ⟨hp, (hM q hq h1.2).2 p hp h2⟩) (fun y hy hyc => t4.2.2.1 y hy hyc) hx h).symm
            · exact t4.2.2.2.1 x hx h (show ¬ bt O (x / 112) = true by rw [hO, b_0]; decide)
        · obtain ⟨z, e1, z1, z2, Y', z3, z4, z5⟩ := s_mpass (N := N) (ab := ab) (by omega) (fun q hq => (hT q hq).mv hq t1 (by decide)) (fun k j h1 h2 => by rw [t1.2 15 (by decide)]; exact hA k j h1 h2) (l4 := nI n) hW hC hCW hMW hCm t2 t3 t4 t5
          have hs : bfX7_measure_64 N W (O, nI n, T) = some (.inl (z.1, nI (n + 1), z.2)) := by
            unfold bfX7_measure_64
            rw [if_neg (show ¬ (1000 : Int32) ≤ nI n from nI_ge (b := 1000) (by omega) (by omega)), if_neg hO, e1]
            simp only [Option.bind_some, nI_1]
          rw [whl_s hs]
          exact ih (n + 1) M' z.1 z.2 Y' (by omega) (by omega) (t1.trans z1) z2 z3 z4 z5
    unfold fX7_measure_64
    refine WP.bnd (loop 1000 0 N W S1 X1 (by omega) (by omega) g1.1 (fun _ _ h => h) g1.2 hP0 (fun x _ _ => by rw [itr_0]; exact hX1 x)) (fun S2 g2 => WP.ret ?_)
    obtain ⟨f2, Y, y1, y2, y3⟩ := g2
    generalize hS3 : st_i S2 0 11 ((S2.1 0 11) ||| W) = S3
    have h011 : S2.1 0 11 = S.1 0 11 := by rw [f2.2 0 (by decide)]
    have hb3 : ∀ q, bt (S3.1 0 11) q = (bt (S.1 0 11) q || bt W q) := fun q => by rw [← hS3, si_at, b_or, h011]
    have f3 : FrC (0 :: meA) S S3 := by
      refine ⟨fun j h1 h2 => by rw [← hS3]; exact f2.1 j h1 h2, fun c hc => ?_⟩
      have hc0 : c ≠ 0 := fun z => hc (by rw [z]; decide)
      rw [← hS3, si_nx _ _ hc0]
      exact f2.2 c (fun z => hc (List.mem_cons_of_mem _ z))
    have h19 : ∀ x, S3.1 19 x = S2.1 19 x := fun x => by rw [← hS3, si_nx _ _ (by decide)]
    refine ⟨f3, fun j hj => ?_, ?_, fun q hq h => ?_, ⟨Y, y1, fun x hx => by rw [h19]; exact y2 x hx⟩, fun q hq h => ⟨fun x hx => ?_, fun p hp hc => ?_⟩⟩
    · rw [← hS3, si_ni _ _ hj, f2.2 0 (by decide)]
    · rw [hb3, (hWb r hr).mpr ⟨Or.inl rfl, hm⟩, Bool.or_true]
    · rw [hb3, h, Bool.true_or]
    · rw [h19, y2 x (by omega), y3 x (by omega)]
      rw [hx]
      rw [hb3, Bool.or_eq_true] at h
      exact ⟨hq, h⟩
    · rw [hb3, Bool.or_eq_true] at h ⊢
      exact (hC q p hq hp ⟨hq, h⟩ hc).2
end ME
