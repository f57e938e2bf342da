/-! ===== the second program: a step of a block ===== -/
section R7
variable {N r n lo : Nat} {ch mt : Nat → Nat} {ab : Nat → Nat → Bool} {X : Nat → Nat} {τ : Nat → Nat → Nat → Nat → Nat} {μ : Nat → Nat → Nat → Prop} {S : St} {hb : Nat → Nat → Prop} {lb : Nat → Prop}
/-- the rest of a row: all but its first four -/
def Ro (a : Nat) (f : Nat → Nat) (S : St) : Prop := ∀ x, 4 ≤ x → x < 32 → S.1 a x = eR (f (co x))
theorem s_pas127 (hN : 60 < N) {l1 l2 l3 : Int32} {t u : Nat} (ht : t < 4) (hu : u < 4) {h a f7 : Nat → Nat} {U : Nat → Nat} (hh : h t ≤ 1000) (hU : ∀ c, U c ≤ 1000) (hf7 : ∀ c, f7 c ≤ 1000) (ha : ∀ c, a c = sat (h t) (U c)) (h5 : R4 145 eR h S) (h2 : Rr 142 U S) {P : Nat → Prop}
    (h7 : ∀ x, 4 ≤ x → x < 32 → S.1 147 x = eR (if x % 4 < u then min (f7 (co x)) (a (co x)) else f7 (co x))) : WP (fX8_passes_127 N l1 l2 l3 (nI t) (nI u) (nI 1, S)) (fun S' => FrR [147] S S' ∧ S'.1 128 23 = S.1 128 23 ∧ S'.1 128 28 = S.1 128 28 ∧ (∀ x, 4 ≤ x → x < 32 → S'.1 147 x = eR (if x % 4 < u + 1 then min (f7 (co x)) (a (co x)) else f7 (co x)))) := by
  unfold fX8_passes_127
  refine WP.fr1 8 N (fun o T => FrR [147] S T ∧ T.1 128 23 = S.1 128 23 ∧ T.1 128 28 = S.1 128 28 ∧ (∀ x, 4 ≤ x → x < 32 → T.1 147 x = eR (if x % 4 < u ∨ (x % 4 = u ∧ x / 4 < o) then min (f7 (co x)) (a (co x)) else f7 (co x)))) (by omega) ?_ ?_ 1 (by omega) ⟨FrR.refl _ _, rfl, rfl, ?_⟩
  · rintro o T ho ⟨t1, t2, t3, t4⟩
    by_cases ho0 : o = 0
    · -- never: the loop begins at 1
      subst ho0
      unfold bfX8_passes_127
      refine WP.no (nI_ge (a := 0) (b := 8) (by omega) (by omega)) ?_
      try dsimp only
      rw [nI_x4, nI_add]
      refine WP.ix (by omega) (by omega) (WP.ix ht (by omega) (WP.ix (by omega) (by omega) ?_))
      rw [nI_cl (show t < 2147483648 by omega), nI_cl (show 0 * 4 + u < 2147483648 by omega), t1.2.1 145 (by decide) (by decide), t1.2.1 142 (by decide) (by decide), h5 t ht, h2 _ (by omega)]
      refine WP.beq (s_sum N T hh (hU _)) ?_
      try dsimp only
      unfold fX8_less fX8_less_10
      have fin : ∀ v : Int32, FrR [147] S (st_i T 147 (0 * 4 + u) v) ∧ (st_i T 147 (0 * 4 + u) v).1 128 23 = S.1 128 23 ∧ (st_i T 147 (0 * 4 + u) v).1 128 28 = S.1 128 28 ∧ (∀ x, 4 ≤ x → x < 32 → (st_i T 147 (0 * 4 + u) v).1 147 x = eR (if x % 4 < u ∨ (x % 4 = u ∧ x / 4 < 0 + 1) then min (f7 (co x)) (a (co x)) else f7 (co x))) := by
        intro v
        refine ⟨t1.i (by decide) (by decide), by rw [si_nx _ _ (by decide)]; exact t2, by rw [si_nx _ _ (by decide)]; exact t3, fun x h4 hx => ?_⟩
        rw [si_ni _ _ (by omega), t4 x h4 hx]
        by_cases q : x % 4 < u
        · rw [if_pos (Or.inl q), if_pos (Or.inl q)]
        · rw [if_neg (by omega), if_neg (by omega)]
      refine WP.bnd (P := fun q => q.2 = T) (WP.ite (fun _ => WP.ret rfl) (fun _ => WP.ret rfl)) (fun q hq => ?_)
      refine WP.no ?_ (WP.ret ⟨_, by rw [nI_1], by rw [hq]; exact fin q.1⟩)
      rintro (z | z)
      · exact nI_pos (by omega) z
      · omega
    · unfold bfX8_passes_127
      refine WP.no (nI_ge (a := o) (b := 8) ho (by omega)) ?_
      try dsimp only
      rw [nI_x4, nI_add]
      refine WP.ix (by omega) (by omega) (WP.ix ht (by omega) (WP.ix (by omega) (by omega) ?_))
      rw [nI_cl (show t < 2147483648 by omega), nI_cl (show o * 4 + u < 2147483648 by omega), t1.2.1 145 (by decide) (by decide), t1.2.1 142 (by decide) (by decide), h5 t ht, h2 _ (by omega), t4 _ (by omega) (by omega), if_neg (by omega)]
      refine WP.beq (s_sum N T hh (hU _)) ?_
      refine WP.beq (s_less N T (hf7 _) (sat_le _ _)) ?_
      try dsimp only
      refine WP.no ?_ (WP.ret ⟨_, by rw [nI_1], t1.i (by decide) (by decide), by rw [si_nx _ _ (by decide)]; exact t2, by rw [si_nx _ _ (by decide)]; exact t3, fun x h4 hx => ?_⟩)
      · rintro (z | z)
        · exact nI_pos (by omega) z
        · omega
      · rw [si_if]
        by_cases q : x = o * 4 + u
        · rw [if_pos q, q, if_pos (by omega), ha]
        · rw [if_neg q, t4 x h4 hx]
          by_cases q2 : x % 4 < u ∨ (x % 4 = u ∧ x / 4 < o)
          · rw [if_pos q2, if_pos (by omega)]
          · rw [if_neg q2, if_neg (by omega)]
  · rintro T ⟨t1, t2, t3, t4⟩
    unfold bfX8_passes_127
    refine WP.yes (show (8 : Int32) ≤ nI 8 by decide) (WP.ret ⟨_, rfl, t1, t2, t3, fun x h4 hx => ?_⟩)
    rw [t4 x h4 hx]
    by_cases q : x % 4 < u + 1
    · rw [if_pos q, if_pos (by omega)]
    · rw [if_neg q, if_neg (by omega)]
  · intro x h4 hx
    rw [h7 x h4 hx]
    by_cases q : x % 4 < u
    · rw [if_pos q, if_pos (Or.inl q)]
    · rw [if_neg q, if_neg (by omega)]
theorem s_pas84 (hN : 60 < N) {l1 l2 l3 : Int32} {t : Nat} (ht : t < 4) {h a f6 f7 : Nat → Nat} {U : Nat → Nat} (hh : h t ≤ 1000) (hU : ∀ c, U c ≤ 1000) (hf6 : ∀ c, f6 c ≤ 1000) (hf7 : ∀ c, f7 c ≤ 1000) (ha : ∀ c, a c = sat (h t) (U c)) (h5 : R4 145 eR h S) (h2 : Rr 142 U S) (h6 : R4 146 eR f6 S) (h7 : Ro 147 f7 S) : WP (fX8_passes_84 N l1 l2 l3 (nI t) (nI 0, S)) (fun S' => FrR [146, 147] S S' ∧ S'.1 128 28 = S.1 128 28 ∧ R4 146 eR (fun v => min (f6 v) (a v)) S' ∧ Ro 147 (fun c => min (f7 c) (a c)) S') := by
  unfold fX8_passes_84
  refine WP.fr1 4 N (fun u T => FrR [146, 147] S T ∧ T.1 128 28 = S.1 128 28 ∧ (∀ v, v < 4 → T.1 146 v = eR (if v < u then min (f6 v) (a v) else f6 v)) ∧ (∀ x, 4 ≤ x → x < 32 → T.1 147 x = eR (if x % 4 < u then min (f7 (co x)) (a (co x)) else f7 (co x)))) (by omega) ?_ ?_ 0 (by omega) ⟨FrR.refl _ _, rfl, fun v hv => by rw [if_neg (by omega)]; exact h6 v hv, fun x h4 hx => by rw [if_neg (by omega)]; exact h7 x h4 hx⟩
  · rintro u T hu ⟨t1, t2, t3, t4⟩
    unfold bfX8_passes_84
    refine WP.no (nI_ge (a := u) (b := 4) hu (by omega)) ?_
    try dsimp only
    refine WP.ix hu (by omega) (WP.ix ht (by omega) (WP.ix (by omega) (by omega) ?_))
    have hcu : co u = u := by unfold co; rw [if_pos hu]
    rw [nI_cl (show t < 2147483648 by omega), nI_cl (show u < 2147483648 by omega), t1.2.1 145 (by decide) (by decide), t1.2.1 142 (by decide) (by decide), h5 t ht, h2 _ (by omega), hcu, t3 u hu, if_neg (by omega)]
    refine WP.beq (s_sum N T hh (hU _)) ?_
    refine WP.beq (s_less N T (hf6 _) (sat_le _ _)) ?_
    try dsimp only
    refine WP.no ?_ ?_
    · rintro (z | z)
      · exact nI_pos (by omega) z
      · omega
    generalize hT1 : st_i T 146 u (eR (min (f6 u) (sat (h t) (U u)))) = T1
    have g1 : FrR [146, 147] T T1 := by rw [← hT1]; exact (FrR.refl _ _).i (by decide) (by decide)
    refine WP.bnd (s_pas127 hN (S := T1) ht hu hh hU hf7 ha (fun v hv => by rw [g1.2.1 145 (by decide) (by decide), t1.2.1 145 (by decide) (by decide)]; exact h5 v hv) (fun x hx => by rw [g1.2.1 142 (by decide) (by decide), t1.2.1 142 (by decide) (by decide)]; exact h2 x hx) (P := fun _ => True) (fun x h4 hx => by rw [← hT1, si_nx _ _ (by decide)]; exact t4 x h4 hx)) (fun T2 g2 => WP.ret ⟨T2, by rw [nI_1], (t1.trans g1).trans (g2.1.mono (by decide)), ?_, fun v hv => ?_, g2.2.2.2⟩)
    · rw [g2.2.2.1, ← hT1, si_nx _ _ (by decide)]; exact t2
    · rw [g2.1.2.1 146 (by decide) (by decide), ← hT1, si_if]
      by_cases q : v = u
      · rw [if_pos q, q, if_pos (by omega), ha]
      · rw [if_neg q, t3 v hv]
        by_cases q2 : v < u
        · rw [if_pos q2, if_pos (by omega)]
        · rw [if_neg q2, if_neg (by omega)]
  · rintro T ⟨t1, t2, t3, t4⟩
    unfold bfX8_passes_84
    refine WP.yes (show (4 : Int32) ≤ nI 4 by decide) (WP.ret ⟨_, rfl, t1, t2, fun v hv => ?_, fun x h4 hx => ?_⟩)
    · rw [t3 v hv, if_pos hv]
    · rw [t4 x h4 hx, if_pos (by omega)]
theorem s_passes (hN : 60 < N) (hK : RK r n ch mt X) (hX : RX r n ch mt ab X S) (hT : RT r lo ch τ μ S) (hM : RM hb lb S) (hτ : ∀ sp tk s c, τ sp tk s c ≤ 1000) {i e tk : Nat} (hlo : lo ≤ i) (hs : OkS ch mt i e) (hi : i < e) (he : e ≤ n) (hk : tk ≤ 6) {z : (Nat → Nat) × (Nat → Nat)} (hz : zle z) (h5 : R4 145 eR z.1 S) (h7 : Ro 147 z.2 S) {P : Prop} (hP : S.1 128 28 = bP P) :
    WP (fX8_passes N (nI r) (nI i) (nI tk) S) (fun S' => FrJ [23, 28] [142, 143, 144, 145, 146, 147] S S' ∧ R4 145 eR (wst (un ch mt ab X τ tk i) z).1 S' ∧ Ro 147 (wst (un ch mt ab X τ tk i) z).2 S' ∧ S'.1 128 28 = bP (P ∨ ∃ t, t < 4 ∧ z.1 t < 1000 ∧ mun hb lb ch mt ab τ μ tk i t)) := by
  unfold fX8_passes
  -- then := far
  refine WP.bnd (P := fun S1 => FrJ [23, 28] [142, 143, 144, 146, 147] S S1 ∧ S1.1 147 = S.1 147 ∧ S1.1 128 28 = S.1 128 28 ∧ R4 146 eR (fun _ => 1000) S1) ?_ (fun S1 g1 => ?_)
  · unfold fX8_passes_3
    refine WP.fr1 4 N (fun u T => FrJ [23, 28] [142, 143, 144, 146, 147] S T ∧ T.1 147 = S.1 147 ∧ T.1 128 28 = S.1 128 28 ∧ ∀ v, v < u → T.1 146 v = eR 1000) (by omega) ?_ ?_ 0 (by omega) ⟨FrJ.refl _ _ _, rfl, rfl, fun v hv => absurd hv (by omega)⟩
    · rintro u T hu ⟨t1, t2, t3, t4⟩
      unfold bfX8_passes_3
      refine WP.no (nI_ge (a := u) (b := 4) hu (by omega)) (WP.ix hu (by omega) (WP.ret ⟨_, by rw [nI_1, nI_cl (by omega)], t1.i (by decide) (by decide), by rw [si_nx _ _ (by decide)]; exact t2, by rw [si_nx _ _ (by decide)]; exact t3, fun v hv => ?_⟩))
      rw [si_if]
      by_cases q : v = u
      · rw [if_pos q]; rfl
      · rw [if_neg q]; exact t4 v (by omega)
    · rintro T ⟨t1, t2, t3, t4⟩
      unfold bfX8_passes_3
      exact WP.yes (show (4 : Int32) ≤ nI 4 by decide) (WP.ret ⟨_, rfl, t1, t2, t3, t4⟩)
  -- over t
  let U := un ch mt ab X τ tk i
  have hU : ∀ t c, U t c ≤ 1000 := fun t c => un_le hτ tk i t c
  refine WP.bnd (P := fun S2 => FrJ [23, 28] [142, 143, 144, 146, 147] S S2 ∧ R4 146 eR (fun u => mn 4 (fun s => sat (z.1 s) (U s u))) S2 ∧ Ro 147 (fun c => min (z.2 c) (mn 4 (fun s => sat (z.1 s) (U s c)))) S2 ∧ S2.1 128 28 = bP (P ∨ ∃ t, t < 4 ∧ z.1 t < 1000 ∧ mun hb lb ch mt ab τ μ tk i t)) ?_ (fun S2 g2 => ?_)
  · unfold fX8_passes_27
    refine WP.fr1 4 N (fun t T => FrJ [23, 28] [142, 143, 144, 146, 147] S T ∧ R4 146 eR (fun u => mn t (fun s => sat (z.1 s) (U s u))) T ∧ Ro 147 (fun c => min (z.2 c) (mn t (fun s => sat (z.1 s) (U s c)))) T ∧ T.1 128 28 = bP (P ∨ ∃ s, s < t ∧ z.1 s < 1000 ∧ mun hb lb ch mt ab τ μ tk i s)) (by omega) ?_ ?_ 0 (by omega) ⟨g1.1, g1.2.2.2, fun x h4 hx => ?_, ?_⟩
    · rintro t T ht ⟨t1, t2, t3, t4⟩
      have e5 : R4 145 eR z.1 T := fun v hv => by rw [t1.2.1 145 (by decide) (by decide)]; exact h5 v hv
      unfold bfX8_passes_27
      refine WP.no (nI_ge (a := t) (b := 4) ht (by omega)) ?_
      try dsimp only
      refine WP.ix ht (by omega) ?_
      rw [nI_cl (show t < 2147483648 by omega), e5 t ht]
      by_cases q : z.1 t < 1000
      · refine WP.yes ((eR_lt _).mpr q) ?_
        refine WP.bnd (s_statement hN hK (hX.mv t1 ⟨by decide, by decide, by decide, by decide, by decide⟩) (hT.mv t1 ⟨by decide, by decide⟩) (hM.mv t1) hτ hlo hs hi he hk ht) (fun y gy => ?_)
        obtain ⟨y1, y2, y3, y4⟩ := gy
        generalize hye : y.2 = T1 at *
        have key : ∀ Q : Prop, (Q ↔ (P ∨ ∃ s, s < t + 1 ∧ z.1 s < 1000 ∧ mun hb lb ch mt ab τ μ tk i s)) → WP (fX8_passes_78 N (nI r) (nI i) (nI tk) (nI t) (bP Q) T1) (fun w => ∃ S', w = .inl (nI (t + 1), S') ∧ FrJ [23, 28] [142, 143, 144, 146, 147] S S' ∧ R4 146 eR (fun u => mn (t + 1) (fun s => sat (z.1 s) (U s u))) S' ∧ Ro 147 (fun c => min (z.2 c) (mn (t + 1) (fun s => sat (z.1 s) (U s c)))) S' ∧ S'.1 128 28 = bP (P ∨ ∃ s, s < t + 1 ∧ z.1 s < 1000 ∧ mun hb lb ch mt ab τ μ tk i s)) := by
          intro Q hQ
          unfold fX8_passes_78 fX8_passes_195
          refine WP.yes (bP_01 Q) ?_
          generalize hT2 : st_i T1 128 28 (bP Q) = T2
          have f2 : FrJ [23, 28] [142, 143, 144, 146, 147] S T2 := by rw [← hT2]; exact (t1.trans ((y2.mono (by decide)).wid (by decide))).m (by decide)
          refine WP.bnd (s_pas84 hN (S := T2) ht (h := z.1) (a := fun c => sat (z.1 t) (U t c)) (U := U t) (hz.1 t) (hU t) (fun c => mn_le t (fun s => sat (z.1 s) (U s c))) (f7 := fun c => min (z.2 c) (mn t (fun s => sat (z.1 s) (U s c)))) (fun c => Nat.le_trans (Nat.min_le_left _ _) (hz.2 c)) (fun _ => rfl) (fun v hv => by rw [f2.2.1 145 (by decide) (by decide)]; exact h5 v hv) (fun x hx => by rw [← hT2, si_nx _ _ (by decide)]; exact y3 x hx) (fun v hv => by rw [← hT2, si_nx _ _ (by decide), y2.2.1 146 (by decide) (by decide)]; exact t2 v hv) (fun x h4 hx => by rw [← hT2, si_nx _ _ (by decide), y2.2.1 147 (by decide) (by decide)]; exact t3 x h4 hx)) (fun T3 g3 => WP.ret ⟨T3, by rw [nI_1], f2.trans ((g3.1.mono (by decide)).wid (by decide)), g3.2.2.1, fun x h4 hx => ?_, ?_⟩)
          · rw [g3.2.2.2 x h4 hx]
            exact congrArg eR (Nat.min_assoc _ _ _)
          · rw [g3.2.1, ← hT2, si_at]; exact bP_congr hQ
        have e28 : T1.1 128 28 = bP (P ∨ ∃ s, s < t ∧ z.1 s < 1000 ∧ mun hb lb ch mt ab τ μ tk i s) := by rw [y2.2.2 28 (by decide)]; exact t4
        unfold fX8_passes_73
        -- the statement leaves the mark of the block as it was: both ways of it are gone through
        have hnew : (P ∨ ∃ s, s < t + 1 ∧ z.1 s < 1000 ∧ mun hb lb ch mt ab τ μ tk i s) ↔ ((P ∨ ∃ s, s < t ∧ z.1 s < 1000 ∧ mun hb lb ch mt ab τ μ tk i s) ∨ mun hb lb ch mt ab τ μ tk i t) := by
          constructor
          · rintro (w | ⟨s, s1, s2⟩)
            · exact Or.inl (Or.inl w)
            · by_cases v : s = t
              · subst v; exact Or.inr s2.2
              · exact Or.inl (Or.inr ⟨s, by omega, s2⟩)
          · rintro ((w | ⟨s, s1, s2⟩) | w)
            · exact Or.inl w
            · exact Or.inr ⟨s, by omega, s2⟩
            · exact Or.inr ⟨t, by omega, q, w⟩
        rw [e28, y4]
        by_cases w1 : P ∨ ∃ s, s < t ∧ z.1 s < 1000 ∧ mun hb lb ch mt ab τ μ tk i s
        · refine WP.no (fun v => bP_eq0.mp v w1) ?_
          rw [← bP_1 (P := True) trivial]
          exact key True ⟨fun _ => hnew.mpr (Or.inl w1), fun _ => trivial⟩
        · refine WP.yes (bP_0 w1) ?_
          by_cases w2 : mun hb lb ch mt ab τ μ tk i t
          · refine WP.no (fun v => bP_eq0.mp v w2) ?_
            rw [← bP_1 (P := True) trivial]
            exact key True ⟨fun _ => hnew.mpr (Or.inr w2), fun _ => trivial⟩
          · refine WP.yes (bP_0 w2) ?_
            rw [← bP_0 (P := False) id]
            exact key False ⟨False.elim, fun v => (hnew.mp v).elim w1 w2⟩
      · refine WP.no (fun v => q ((eR_lt _).mp v)) ?_
        unfold fX8_passes_195
        have ez : ∀ c, mn (t + 1) (fun s => sat (z.1 s) (U s c)) = mn t (fun s => sat (z.1 s) (U s c)) := fun c => by
          show min (mn t (fun s => sat (z.1 s) (U s c))) (sat (z.1 t) (U t c)) = _
          rw [sat_t (Or.inl (by omega))]
          exact Nat.min_eq_left (mn_le _ _)
        refine WP.ret ⟨T, by rw [nI_1], t1, fun v hv => ?_, fun x h4 hx => ?_, ?_⟩
        · show T.1 146 v = eR (mn (t + 1) (fun s => sat (z.1 s) (U s v)))
          rw [ez]; exact t2 v hv
        · show T.1 147 x = eR (min (z.2 (co x)) (mn (t + 1) (fun s => sat (z.1 s) (U s (co x)))))
          rw [ez]; exact t3 x h4 hx
        · rw [t4]
          refine bP_congr ⟨fun v => v.imp id (fun ⟨s, s1, s2⟩ => ⟨s, by omega, s2⟩), fun v => v.imp id (fun ⟨s, s1, s2⟩ => ⟨s, ?_, s2⟩)⟩
          by_cases w : s = t
          · subst w; exact absurd s2.1 q
          · omega
    · rintro T ⟨t1, t2, t3, t4⟩
      unfold bfX8_passes_27
      exact WP.yes (show (4 : Int32) ≤ nI 4 by decide) (WP.ret ⟨_, rfl, t1, t2, t3, t4⟩)
    · rw [g1.2.1, h7 x h4 hx]
      exact congrArg eR (Nat.min_eq_left (hz.2 _)).symm
    · rw [g1.2.2.1, hP]
      exact bP_congr ⟨Or.inl, fun w => w.elim id (fun ⟨_, w, _⟩ => absurd w (by omega))⟩
  -- now := then
  refine WP.bnd (P := fun S3 => FrJ [23, 28] [145] S2 S3 ∧ S3.1 128 28 = S2.1 128 28 ∧ R4 145 eR (fun u => mn 4 (fun s => sat (z.1 s) (U s u))) S3) ?_ (fun S3 g3 => WP.ret ⟨(g2.1.mono (by decide)).trans (g3.1.mono (by decide)), g3.2.2, fun x h4 hx => ?_, ?_⟩)
  · unfold fX8_passes_204
    refine WP.fr1 4 N (fun u T => FrJ [23, 28] [145] S2 T ∧ T.1 128 28 = S2.1 128 28 ∧ ∀ v, v < u → T.1 145 v = eR (mn 4 (fun s => sat (z.1 s) (U s v)))) (by omega) ?_ ?_ 0 (by omega) ⟨FrJ.refl _ _ _, rfl, fun v hv => absurd hv (by omega)⟩
    · rintro u T hu ⟨t1, t2, t3⟩
      unfold bfX8_passes_204
      refine WP.no (nI_ge (a := u) (b := 4) hu (by omega)) (WP.ix hu (by omega) (WP.ix hu (by omega) (WP.ret ⟨_, by rw [nI_1, nI_cl (by omega)], t1.i (by decide) (by decide), by rw [si_nx _ _ (by decide)]; exact t2, fun v hv => ?_⟩)))
      rw [si_if]
      by_cases q : v = u
      · rw [if_pos q, q, t1.2.1 146 (by decide) (by decide)]; exact g2.2.1 u hu
      · rw [if_neg q]; exact t3 v (by omega)
    · rintro T ⟨t1, t2, t3⟩
      unfold bfX8_passes_204
      exact WP.yes (show (4 : Int32) ≤ nI 4 by decide) (WP.ret ⟨_, rfl, t1, t2, t3⟩)
  · rw [g3.1.2.1 147 (by decide) (by decide)]; exact g2.2.2.1 x h4 hx
  · rw [g3.2.1]; exact g2.2.2.2
end R7
