/-! ===== the second program: takers, endings ===== -/
section R4s
variable {N r : Nat} {τ : Nat → Nat → Nat → Nat → Nat} {μ : Nat → Nat → Nat → Prop} {S : St} {hb : Nat → Nat → Prop} {lb : Nat → Prop}
/-- what is looked for -/
def RM (hb : Nat → Nat → Prop) (lb : Nat → Prop) (S : St) : Prop := (∀ p k, p < 1000 → k < 6 → (hb p k ↔ S.1 128 19 = nI p ∧ S.1 128 20 = nI k)) ∧ (∀ k, k < 6 → (lb k ↔ S.1 128 19 = -1 ∧ S.1 128 20 = nI k))
theorem RM.mv {J A : List Nat} {T : St} (h : RM hb lb S) (f : FrJ J A S T) (hJ : 19 ∉ J ∧ 20 ∉ J := by decide) : RM hb lb T := by
  unfold RM
  rw [f.2.2 19 hJ.1, f.2.2 20 hJ.2]
  exact h
theorem s_takes52 (hN : 60 < N) (hr : r < 8) (hτ : ∀ sp tk s c, τ sp tk s c ≤ 1000) {i k t a : Nat} (hi : i + 2 ≤ 60) (hk : k < 6) (ht : t < 4) (ha : a ≤ 1000) (h : ET r (i + 2) (k + 1) t τ μ S) {f : Nat → Nat} (hf : ∀ c, f c ≤ 1000) (hR : Rr 143 f S) (Q : Prop) : WP (fX8_takes_52 N (nI r) (nI i) (nI k) (nI t) (eR a) (bP Q) S) (fun S' => FrR [143] S S' ∧ Rr 143 (fun c => min (f c) (sat a (τ (i + 2) (k + 1) t c))) S' ∧ S'.1 128 23 = bP Q) := by
  unfold fX8_takes_52
  refine WP.yes (bP_01 Q) ?_
  refine WP.bnd (P := fun S' => Jl 143 S f (fun c => sat a (τ (i + 2) (k + 1) t c)) (bP Q) 32 S') ?_ (fun y hy => WP.ret ⟨hy.1, Rp_32 hy.2.1, hy.2.2⟩)
  unfold fX8_takes_58
  refine dbl (A := 8) (B := 4) (bi := fun o => bfX8_takes_68 N (nI r) (nI i) (nI k) (nI t) (eR a) o) (Jl 143 S f (fun c => sat a (τ (i + 2) (k + 1) t c)) (bP Q)) (by omega) (by omega) (by omega) (by omega) (fun _ => rfl) (fun o T => ?_) (fun o u T ho hu hT => ?_) 0 (by omega) ?_
  · exact if_pos (show (4 : Int32) ≤ nI 4 by decide)
  · show WP (bfX8_takes_68 N (nI r) (nI i) (nI k) (nI t) (eR a) (nI o) (nI u, T)) _
    unfold bfX8_takes_68
    refine WP.no (nI_ge (a := u) (b := 4) hu (by omega)) ?_
    rw [nI_1, nI_2]
    refine WP.beq (s_allOf N T hr hi (by omega) ht ho hu) ?_
    have e1 : T.1 139 ((61 * r + (i + 2)) * 896 + ((k + 1) * 4 + t) * 32 + (o * 4 + u)) = eR (τ (i + 2) (k + 1) t (co (o * 4 + u))) := by
      rw [hT.1.2.1 139 (by decide) (by decide)]; exact h.1 _ (by omega)
    dsimp only
    rw [e1]
    refine WP.beq (s_sum N T ha (hτ _ _ _ _)) ?_
    refine WP.beq (s_putsMid N T ho hu (sat_le _ _) (hf _) (Rp_m hT.2.1 (by omega))) ?_
    exact WP.ret ⟨_, by rw [nI_1], hT.1.i (by decide) (by decide), Rp_s hT.2.1, by rw [si_nx _ _ (by decide)]; exact hT.2.2⟩
  · refine ⟨(FrR.refl _ _).m (by decide), fun x hx => ?_, si_at _ _ _ _⟩
    rw [si_nx _ _ (by decide)]; exact Rp_0 (g := fun c => sat a (τ (i + 2) (k + 1) t c)) hR x hx
theorem s_takes (hN : 60 < N) (hr : r < 8) (hτ : ∀ sp tk s c, τ sp tk s c ≤ 1000) {i k t a : Nat} (hi : i + 2 ≤ 60) (hk : k < 6) (ht : t < 4) (ha : a ≤ 1000) (h : ET r (i + 2) (k + 1) t τ μ S) (hM : RM hb lb S) {f : Nat → Nat} (hf : ∀ c, f c ≤ 1000) (hR : Rr 143 f S) {P : Prop} (hP : S.1 128 23 = bP P) : WP (fX8_takes N (nI r) (nI i) (nI k) (nI t) (eR a) S) (fun S' => FrR [143] S S' ∧ Rr 143 (fun c => min (f c) (sat a (τ (i + 2) (k + 1) t c))) S' ∧ S'.1 128 23 = bP (P ∨ (a < 1000 ∧ (hb i k ∨ μ (i + 2) (k + 1) t)))) := by
  unfold fX8_takes fX8_takes_47 fX8_takes_32 fX8_takes_47
  have key : ∀ Q : Prop, (Q ↔ (P ∨ (a < 1000 ∧ (hb i k ∨ μ (i + 2) (k + 1) t)))) → WP (fX8_takes_52 N (nI r) (nI i) (nI k) (nI t) (eR a) (bP Q) S) (fun S' => FrR [143] S S' ∧ Rr 143 (fun c => min (f c) (sat a (τ (i + 2) (k + 1) t c))) S' ∧ S'.1 128 23 = bP (P ∨ (a < 1000 ∧ (hb i k ∨ μ (i + 2) (k + 1) t)))) := by
    intro Q hQ
    rw [← bP_congr hQ]
    exact s_takes52 hN hr hτ hi hk ht ha h hf hR Q
  by_cases q : a < 1000
  · refine WP.yes ((eR_lt a).mpr q) ?_
    rw [hP]
    have kT : (P ∨ (a < 1000 ∧ (hb i k ∨ μ (i + 2) (k + 1) t))) → WP (fX8_takes_52 N (nI r) (nI i) (nI k) (nI t) (eR a) 1 S) (fun S' => FrR [143] S S' ∧ Rr 143 (fun c => min (f c) (sat a (τ (i + 2) (k + 1) t c))) S' ∧ S'.1 128 23 = bP (P ∨ (a < 1000 ∧ (hb i k ∨ μ (i + 2) (k + 1) t)))) := by
      intro hq
      rw [← bP_1 (P := True) trivial]
      exact key True ⟨fun _ => hq, fun _ => trivial⟩
    have k32 : ¬ P → ¬ hb i k → WP ((fX8_metOf N (nI i + 2) (nI k + 1) (nI t) S).bind (fun q8 => (if q8.1 = 0 then fX8_takes_52 N (nI r) (nI i) (nI k) (nI t) (eR a) 0 q8.2 else fX8_takes_52 N (nI r) (nI i) (nI k) (nI t) (eR a) 1 q8.2))) (fun S' => FrR [143] S S' ∧ Rr 143 (fun c => min (f c) (sat a (τ (i + 2) (k + 1) t c))) S' ∧ S'.1 128 23 = bP (P ∨ (a < 1000 ∧ (hb i k ∨ μ (i + 2) (k + 1) t)))) := by
      intro n1 n2
      rw [nI_1, nI_2]
      refine WP.beq (s_metOf N S hi (by omega) ht h.2) ?_
      dsimp only
      by_cases m : μ (i + 2) (k + 1) t
      · exact WP.no (fun z => bP_eq0.mp z m) (kT (Or.inr ⟨q, Or.inr m⟩))
      · refine WP.yes (bP_0 m) ?_
        rw [← bP_0 (P := False) id]
        exact key False ⟨False.elim, fun z => z.elim n1 (fun w => w.2.elim n2 m)⟩
    by_cases p : P
    · exact WP.no (fun z => bP_eq0.mp z p) (kT (Or.inl p))
    · refine WP.yes (bP_0 p) ?_
      have hm := hM.1 i k (by omega) hk
      by_cases m : hb i k
      · exact WP.yes (hm.mp m).1 (WP.yes (hm.mp m).2 (kT (Or.inr ⟨q, Or.inl m⟩)))
      · refine WP.ite (fun h1 => WP.ite (fun h2 => absurd (hm.mpr ⟨h1, h2⟩) m) (fun _ => k32 p m)) (fun _ => k32 p m)
  · refine WP.no (fun z => q ((eR_lt a).mp z)) (WP.ret ⟨FrR.refl _ _, fun x hx => ?_, by rw [hP]; exact bP_congr ⟨Or.inl, fun z => z.elim id (fun w => absurd w.1 q)⟩⟩)
    have := hf (co x)
    have q' : 1000 ≤ a := by omega
    rw [hR x hx]
    show eR (f (co x)) = eR (min (f (co x)) (sat a (τ (i + 2) (k + 1) t (co x))))
    rw [sat_t (Or.inl q')]
    congr 1; omega
/-- the row while an ending is gone through -/
def psr (f : Nat → Nat) (a : Nat) (v : Nat → Nat) (w m c : Nat) : Nat := min (f c) (min (if c / 4 = w ∧ c % 4 < m then sat a (v (c % 4)) else 1000) (if c / 4 ≠ 0 ∧ oc c < m then sat a (v c) else 1000))
theorem psr_le {f : Nat → Nat} (hf : ∀ c, f c ≤ 1000) (a : Nat) (v : Nat → Nat) (w m c : Nat) : psr f a v w m c ≤ 1000 := Nat.le_trans (Nat.min_le_left _ _) (hf c)
theorem psr_0 {f : Nat → Nat} (hf : ∀ c, f c ≤ 1000) (a : Nat) (v : Nat → Nat) (w c : Nat) : psr f a v w 0 c = f c := by
  unfold psr
  rw [if_neg (by omega), if_neg (by omega)]
  have := hf c
  omega
theorem psr_32 {f : Nat → Nat} (a : Nat) (sp tk t : Nat) (τ : Nat → Nat → Nat → Nat → Nat) {c0 c : Nat} (ht : c0 % 4 = t) (hc : c < 32) : psr f a (τ sp tk t) (c0 / 4) 32 c = min (f c) (sat a (emx τ sp tk c0 c)) := by
  unfold psr emx
  have h1 := oc_lt hc
  rw [ht, sat_comm a (min _ _), sat_min, sat_comm _ a, sat_comm _ a]
  congr 1
  congr 1
  · by_cases q : c / 4 = c0 / 4
    · rw [if_pos ⟨q, by omega⟩, if_pos q]
    · rw [if_neg (fun z => q z.1), if_neg q, sat_top']
  · by_cases q : c / 4 ≠ 0
    · rw [if_pos ⟨q, h1⟩, if_pos q]
    · rw [if_neg (fun z => q z.1), if_neg q, sat_top']
theorem co_div {o u : Nat} (ho : o < 8) (hu : u < 4) : co (o * 4 + u) % 4 = u ∧ co (o * 4 + u) / 4 = (if o = 0 then 0 else if o = 1 then 7 else o - 1) := by
  unfold co
  by_cases h0 : o = 0
  · subst h0; rw [if_pos (by omega), if_pos rfl]; omega
  · rw [if_neg (by omega), if_neg h0]
    by_cases h1 : o = 1
    · subst h1; rw [if_pos (by omega), if_pos rfl]; omega
    · rw [if_neg (by omega), if_neg h1]; omega
theorem s_endsBy34 (hN : 60 < N) (hr : r < 8) (hτ : ∀ sp tk s c, τ sp tk s c ≤ 1000) {b tk o t a : Nat} (hb60 : b + 1 ≤ 60) (hk : tk ≤ 6) (ho : o < 8) (ht : t < 4) (ha : a < 1000) (h : ET r (b + 1) tk t τ μ S) (hM : RM hb lb S) {f : Nat → Nat} (hf : ∀ c, f c ≤ 1000) (hR : Rr 142 f S) (Q : Prop) : WP (fX8_endsBy_34 N (nI r) (nI b) (nI tk) (nI o) (nI t) (eR a) (bP Q) S) (fun S' => FrR [142] S S' ∧ Rr 142 (fun c => min (f c) (sat a (emx τ (b + 1) tk (co (o * 4 + t)) c))) S' ∧ S'.1 128 23 = bP (Q ∨ ∃ c', c' < 32 ∧ c' / 4 ≠ 0 ∧ τ (b + 1) tk t c' < 1000 ∧ 1 ≤ co (o * 4 + t) / 4 ∧ co (o * 4 + t) / 4 ≤ 6 ∧ lb (co (o * 4 + t) / 4 - 1))) := by
  obtain ⟨cm, cd⟩ := co_div ho ht
  have hc0 : co (o * 4 + t) < 32 := co_lt (by omega)
  generalize hc0e : co (o * 4 + t) = c0 at *
  unfold fX8_endsBy_34
  refine WP.yes (bP_01 Q) ?_
  let J : Nat → St → Prop := fun m T => FrR [142] S T ∧ (∀ x, x < 32 → T.1 142 x = eR (psr f a (τ (b + 1) tk t) (c0 / 4) m (co x))) ∧ T.1 128 23 = bP (Q ∨ ∃ c', c' < 32 ∧ oc c' < m ∧ c' / 4 ≠ 0 ∧ τ (b + 1) tk t c' < 1000 ∧ 1 ≤ c0 / 4 ∧ c0 / 4 ≤ 6 ∧ lb (c0 / 4 - 1))
  refine WP.bnd (P := J 32) ?_ (fun y hy => WP.ret ⟨hy.1, fun x hx => by rw [hy.2.1 x hx, psr_32 a _ _ _ τ cm (co_lt hx)], by rw [hy.2.2]; exact bP_congr ⟨fun z => z.imp id (fun ⟨c', h1, _, h2⟩ => ⟨c', h1, h2⟩), fun z => z.imp id (fun ⟨c', h1, h2⟩ => ⟨c', h1, oc_lt h1, h2⟩)⟩⟩)
  unfold fX8_endsBy_40
  refine dbl (A := 8) (B := 4) (bi := fun q => bfX8_endsBy_50 N (nI r) (nI b) (nI tk) (nI o) (nI t) (eR a) q) J (by omega) (by omega) (by omega) (by omega) (fun _ => rfl) (fun o T => ?_) (fun p u T hp hu hT => ?_) 0 (by omega) ?_
  · exact if_pos (show (4 : Int32) ≤ nI 4 by decide)
  · show WP (bfX8_endsBy_50 N (nI r) (nI b) (nI tk) (nI o) (nI t) (eR a) (nI p) (nI u, T)) _
    obtain ⟨h1, h2, h3⟩ := hT
    have hM' := hM.mv h1
    unfold bfX8_endsBy_50
    refine WP.no (nI_ge (a := u) (b := 4) hu (by omega)) ?_
    rw [nI_1]
    refine WP.beq (s_allOf N T hr hb60 hk ht hp hu) ?_
    have e1 : T.1 139 ((61 * r + (b + 1)) * 896 + (tk * 4 + t) * 32 + (p * 4 + u)) = eR (τ (b + 1) tk t (co (p * 4 + u))) := by
      rw [h1.2.1 139 (by decide) (by decide)]; exact h.1 _ (by omega)
    dsimp only
    rw [e1]
    obtain ⟨pm, pd⟩ := co_div hp hu
    generalize hpe : co (p * 4 + u) = cp at *
    have hcp : cp < 32 := by rw [← hpe]; exact co_lt (by omega)
    have hocp : oc cp = p * 4 + u := by rw [← hpe]; exact oc_co (by omega)
    -- what the two ways have in common
    have key : ∀ g : Nat, g < 8 → (p = 0 → g = o) → (p ≠ 0 → g = p) → WP (fX8_endsBy_86 N (nI r) (nI b) (nI tk) (nI o) (nI t) (eR a) (nI p) (nI u) (eR (τ (b + 1) tk t cp)) (nI g) T) (fun z => ∃ S', z = .inl (nI (u + 1), S') ∧ J (p * 4 + u + 1) S') := by
      intro g hg hg0 hg1
      unfold fX8_endsBy_86
      refine WP.beq (s_sum N T (by omega) (hτ _ _ _ _)) ?_
      dsimp only
      refine WP.beq (s_puts N T hg hu (sat_le _ _) (psr_le hf a (τ (b + 1) tk t) (c0 / 4) (p * 4 + u) (co (g * 4 + u))) (h2 _ (by omega))) ?_
      try dsimp only
      generalize hT1 : st_i T 142 (g * 4 + u) _ = T1
      have f1 : FrR [142] T T1 := by rw [← hT1]; exact (FrR.refl _ _).i (by decide) (by decide)
      have hM1 := hM'.mv f1
      have e3 : T1.1 128 23 = T.1 128 23 := by rw [← hT1, si_nx _ _ (by decide)]
      obtain ⟨gm, gd⟩ := co_div hg hu
      have hrow : ∀ x, x < 32 → T1.1 142 x = eR (psr f a (τ (b + 1) tk t) (c0 / 4) (p * 4 + u + 1) (co x)) := by
        intro x hx
        rw [← hT1, si_if]
        by_cases z : x = g * 4 + u
        · rw [if_pos z, z]
          congr 1
          generalize hcg : co (g * 4 + u) = cg at *
          have hcg32 : cg < 32 := by rw [← hcg]; exact co_lt (by omega)
          have hocg : oc cg = g * 4 + u := by rw [← hcg]; exact oc_co (by omega)
          have b1 := hf cg
          have b2 := sat_le a (τ (b + 1) tk t cg)
          have b3 := sat_le a (τ (b + 1) tk t (cg % 4))
          have b4 := sat_le a (τ (b + 1) tk t u)
          by_cases p0 : p = 0
          · have hgo := hg0 p0
            subst hgo
            have hw : cg / 4 = c0 / 4 := by rw [gd, cd]
            have hcpu : cp = u := by
              have a1 : cp / 4 = 0 := by rw [pd, if_pos p0]
              omega
            subst p0
            unfold psr
            rw [if_neg (show ¬ (cg / 4 = c0 / 4 ∧ cg % 4 < 0 * 4 + u) by omega), if_pos (show cg / 4 = c0 / 4 ∧ cg % 4 < 0 * 4 + u + 1 by omega), hcpu, gm]
            by_cases w0 : cg / 4 ≠ 0
            · have hg0' : g ≠ 0 := fun y => w0 (by rw [gd, if_pos y])
              rw [if_neg (show ¬ (cg / 4 ≠ 0 ∧ oc cg < 0 * 4 + u) by omega), if_neg (show ¬ (cg / 4 ≠ 0 ∧ oc cg < 0 * 4 + u + 1) by omega)]
              omega
            · rw [if_neg (fun y => w0 y.1), if_neg (fun y => w0 y.1)]
              omega
          · have hgp := hg1 p0
            subst hgp
            have hcc : cg = cp := by rw [← hcg]; exact hpe
            subst hcc
            have hw : cg / 4 ≠ 0 := by rw [gd, if_neg p0]; split <;> omega
            unfold psr
            rw [if_neg (show ¬ (cg / 4 ≠ 0 ∧ oc cg < g * 4 + u) by omega), if_pos (show cg / 4 ≠ 0 ∧ oc cg < g * 4 + u + 1 from ⟨hw, by omega⟩)]
            by_cases w1 : cg / 4 = c0 / 4
            · rw [if_pos ⟨w1, by omega⟩, if_pos ⟨w1, by omega⟩]
              omega
            · rw [if_neg (fun y => w1 y.1), if_neg (fun y => w1 y.1)]
              omega
        · rw [if_neg z, h2 x hx]
          congr 1
          have hxx : oc (co x) = x := oc_co hx
          have hcx : co x < 32 := co_lt hx
          have hne : co x ≠ co (g * 4 + u) := fun y => z (by rw [← hxx, y, oc_co (by omega)])
          unfold psr
          congr 1
          congr 1
          · by_cases p0 : p = 0
            · have hgo := hg0 p0
              subst hgo
              subst p0
              by_cases w1 : co x / 4 = c0 / 4
              · have : co x % 4 ≠ u := by
                  intro y
                  apply hne
                  have : co (g * 4 + u) / 4 = c0 / 4 := by rw [gd, cd]
                  omega
                by_cases w2 : co x % 4 < 0 * 4 + u
                · rw [if_pos ⟨w1, w2⟩, if_pos ⟨w1, by omega⟩]
                · rw [if_neg (by omega), if_neg (by omega)]
              · rw [if_neg (fun y => w1 y.1), if_neg (fun y => w1 y.1)]
            · by_cases w1 : co x / 4 = c0 / 4
              · rw [if_pos ⟨w1, by omega⟩, if_pos ⟨w1, by omega⟩]
              · rw [if_neg (fun y => w1 y.1), if_neg (fun y => w1 y.1)]
          · by_cases w1 : co x / 4 ≠ 0
            · have : oc (co x) ≠ p * 4 + u := by
                rw [hxx]
                by_cases p0 : p = 0
                · intro y
                  apply w1
                  have : x < 4 := by omega
                  unfold co; rw [if_pos this]; omega
                · have := hg1 p0
                  omega
              by_cases w2 : oc (co x) < p * 4 + u
              · rw [if_pos ⟨w1, w2⟩, if_pos ⟨w1, by omega⟩]
              · rw [if_neg (by omega), if_neg (by omega)]
            · rw [if_neg (fun y => w1 y.1), if_neg (fun y => w1 y.1)]
      have fin : ∀ R : Prop, (R ↔ (Q ∨ ∃ c', c' < 32 ∧ oc c' < p * 4 + u + 1 ∧ c' / 4 ≠ 0 ∧ τ (b + 1) tk t c' < 1000 ∧ 1 ≤ c0 / 4 ∧ c0 / 4 ≤ 6 ∧ lb (c0 / 4 - 1))) → WP (fX8_endsBy_148 N (nI r) (nI b) (nI tk) (nI o) (nI t) (eR a) (nI p) (nI u) (bP R) T1) (fun z => ∃ S', z = .inl (nI (u + 1), S') ∧ J (p * 4 + u + 1) S') := by
        intro R hR2
        unfold fX8_endsBy_148
        refine WP.yes (bP_01 R) (WP.ret ⟨_, by rw [nI_1], (h1.trans f1).m (by decide), fun x hx => ?_, ?_⟩)
        · rw [si_nx _ _ (by decide)]; exact hrow x hx
        · rw [si_at]; exact bP_congr hR2
      have fT : (Q ∨ ∃ c', c' < 32 ∧ oc c' < p * 4 + u + 1 ∧ c' / 4 ≠ 0 ∧ τ (b + 1) tk t c' < 1000 ∧ 1 ≤ c0 / 4 ∧ c0 / 4 ≤ 6 ∧ lb (c0 / 4 - 1)) → WP (fX8_endsBy_143 N (nI r) (nI b) (nI tk) (nI o) (nI t) (eR a) (nI p) (nI u) T1) (fun z => ∃ S', z = .inl (nI (u + 1), S') ∧ J (p * 4 + u + 1) S') := by
        intro hq
        unfold fX8_endsBy_143
        rw [← bP_1 (P := True) trivial]
        exact fin True ⟨fun _ => hq, fun _ => trivial⟩
      by_cases q0 : Q ∨ ∃ c', c' < 32 ∧ oc c' < p * 4 + u ∧ c' / 4 ≠ 0 ∧ τ (b + 1) tk t c' < 1000 ∧ 1 ≤ c0 / 4 ∧ c0 / 4 ≤ 6 ∧ lb (c0 / 4 - 1)
      · rw [e3, h3]
        exact WP.no (fun z => bP_eq0.mp z q0) (fT (q0.imp id (fun ⟨c', a1, a2, a3⟩ => ⟨c', a1, by omega, a3⟩)))
      · rw [e3, h3]
        refine WP.yes (bP_0 q0) ?_
        have nof : ¬ (cp / 4 ≠ 0 ∧ τ (b + 1) tk t cp < 1000 ∧ 1 ≤ c0 / 4 ∧ c0 / 4 ≤ 6 ∧ lb (c0 / 4 - 1)) → WP (fX8_endsBy_147 N (nI r) (nI b) (nI tk) (nI o) (nI t) (eR a) (nI p) (nI u) T1) (fun z => ∃ S', z = .inl (nI (u + 1), S') ∧ J (p * 4 + u + 1) S') := by
          intro hq
          unfold fX8_endsBy_147
          rw [← bP_0 (P := False) id]
          refine fin False ⟨False.elim, fun z => z.elim (fun y => q0 (Or.inl y)) ?_⟩
          rintro ⟨c', a1, a2, a3⟩
          by_cases w : oc c' < p * 4 + u
          · exact q0 (Or.inr ⟨c', a1, w, a3⟩)
          · have : c' = cp := by
              have : oc c' = p * 4 + u := by omega
              rw [← co_oc a1, this, hpe]
            rw [this] at a3
            exact hq a3
        by_cases q1 : 1000 ≤ τ (b + 1) tk t cp
        · exact WP.yes ((eR_ge _).mpr q1) (nof (fun z => by omega))
        · refine WP.no (fun z => q1 ((eR_ge _).mp z)) ?_
          by_cases q2 : p = 0
          · exact WP.yes (by rw [q2]; rfl) (nof (fun z => z.1 (by rw [pd, if_pos q2])))
          · refine WP.no (nI_ne0 (by omega) (by omega)) ?_
            by_cases q3 : o < 2
            · refine WP.yes (nI_lt (b := 2) q3 (by omega)) (nof (fun z => ?_))
              have : c0 / 4 = 0 ∨ c0 / 4 = 7 := by
                rw [cd]
                by_cases y : o = 0
                · rw [if_pos y]; exact Or.inl rfl
                · rw [if_neg y, if_pos (by omega)]; exact Or.inr rfl
              omega
            · refine WP.no (nI_nlt (b := 2) (by omega) (by omega)) ?_
              have hw : c0 / 4 = o - 1 := by rw [cd, if_neg (by omega), if_neg (by omega)]
              have hl := hM1.2 (o - 2) (by omega)
              have e2 : nI o - 2 = nI (o - 2) := pk_sub (b := 2) (by omega)
              rw [e2]
              by_cases q4 : lb (o - 2)
              · refine WP.yes (hl.mp q4).1 (WP.yes (hl.mp q4).2 (fT (Or.inr ⟨cp, hcp, by omega, ?_, by omega, by omega, by omega, ?_⟩)))
                · rw [pd, if_neg q2]; split <;> omega
                · rw [hw, show o - 1 - 1 = o - 2 by omega]; exact q4
              · have hno : ¬ (cp / 4 ≠ 0 ∧ τ (b + 1) tk t cp < 1000 ∧ 1 ≤ c0 / 4 ∧ c0 / 4 ≤ 6 ∧ lb (c0 / 4 - 1)) := by
                  rintro ⟨_, _, _, _, z⟩
                  rw [hw, show o - 1 - 1 = o - 2 by omega] at z
                  exact q4 z
                exact WP.ite (fun y1 => WP.ite (fun y2 => absurd (hl.mpr ⟨y1, y2⟩) q4) (fun _ => nof hno)) (fun _ => nof hno)
    by_cases p0 : p = 0
    · exact WP.yes (by rw [p0]; rfl) (key o ho (fun _ => rfl) (fun y => absurd p0 y))
    · exact WP.no (nI_ne0 (by omega) (by omega)) (key p hp (fun y => absurd y p0) (fun _ => rfl))
  · refine ⟨(FrR.refl _ _).m (by decide), fun x hx => ?_, ?_⟩
    · rw [si_nx _ _ (by decide), psr_0 hf]; exact hR x hx
    · rw [si_at]; exact bP_congr ⟨Or.inl, fun z => z.elim id (fun ⟨_, _, y, _⟩ => absurd y (by omega))⟩
theorem s_endsBy (hN : 60 < N) (hr : r < 8) (hτ : ∀ sp tk s c, τ sp tk s c ≤ 1000) {b tk o t a : Nat} (hb60 : b + 1 ≤ 60) (hk : tk ≤ 6) (ho : o < 8) (ht : t < 4) (ha : a ≤ 1000) (h : ET r (b + 1) tk t τ μ S) (hM : RM hb lb S) {f : Nat → Nat} (hf : ∀ c, f c ≤ 1000) (hR : Rr 142 f S) {P : Prop} (hP : S.1 128 23 = bP P) : WP (fX8_endsBy N (nI r) (nI b) (nI tk) (nI o) (nI t) (eR a) S) (fun S' => FrR [142] S S' ∧ Rr 142 (fun c => min (f c) (sat a (emx τ (b + 1) tk (co (o * 4 + t)) c))) S' ∧ S'.1 128 23 = bP (P ∨ (a < 1000 ∧ (μ (b + 1) tk t ∨ ∃ c', c' < 32 ∧ c' / 4 ≠ 0 ∧ τ (b + 1) tk t c' < 1000 ∧ 1 ≤ co (o * 4 + t) / 4 ∧ co (o * 4 + t) / 4 ≤ 6 ∧ lb (co (o * 4 + t) / 4 - 1))))) := by
  unfold fX8_endsBy fX8_endsBy_29
  by_cases q : a < 1000
  · refine WP.yes ((eR_lt a).mpr q) ?_
    rw [hP]
    have key : ∀ Q : Prop, (Q ↔ (P ∨ μ (b + 1) tk t)) → WP (fX8_endsBy_34 N (nI r) (nI b) (nI tk) (nI o) (nI t) (eR a) (bP Q) S) (fun S' => FrR [142] S S' ∧ Rr 142 (fun c => min (f c) (sat a (emx τ (b + 1) tk (co (o * 4 + t)) c))) S' ∧ S'.1 128 23 = bP (P ∨ (a < 1000 ∧ (μ (b + 1) tk t ∨ ∃ c', c' < 32 ∧ c' / 4 ≠ 0 ∧ τ (b + 1) tk t c' < 1000 ∧ 1 ≤ co (o * 4 + t) / 4 ∧ co (o * 4 + t) / 4 ≤ 6 ∧ lb (co (o * 4 + t) / 4 - 1))))) := by
      intro Q hQ
      refine (s_endsBy34 hN hr hτ hb60 hk ho ht q h hM hf hR Q).imp (fun S' h' => ⟨h'.1, h'.2.1, ?_⟩)
      rw [h'.2.2]
      refine bP_congr ⟨fun z => ?_, fun z => ?_⟩
      · rcases z with z | z
        · rcases hQ.mp z with y | y
          · exact Or.inl y
          · exact Or.inr ⟨q, Or.inl y⟩
        · exact Or.inr ⟨q, Or.inr z⟩
      · rcases z with z | ⟨_, z | z⟩
        · exact Or.inl (hQ.mpr (Or.inl z))
        · exact Or.inl (hQ.mpr (Or.inr z))
        · exact Or.inr z
    by_cases p : P
    · refine WP.no (fun z => bP_eq0.mp z p) ?_
      rw [← bP_1 (P := True) trivial]
      exact key True ⟨fun _ => Or.inl p, fun _ => trivial⟩
    · refine WP.yes (bP_0 p) ?_
      rw [nI_1]
      refine WP.beq (s_metOf N S hb60 hk ht h.2) ?_
      dsimp only
      by_cases m : μ (b + 1) tk t
      · refine WP.no (fun z => bP_eq0.mp z m) ?_
        rw [← bP_1 (P := True) trivial]
        exact key True ⟨fun _ => Or.inr m, fun _ => trivial⟩
      · refine WP.yes (bP_0 m) ?_
        rw [← bP_0 (P := False) id]
        exact key False ⟨False.elim, fun z => z.elim p m⟩
  · refine WP.no (fun z => q ((eR_lt a).mp z)) (WP.ret ⟨FrR.refl _ _, fun x hx => ?_, by rw [hP]; exact bP_congr ⟨Or.inl, fun z => z.elim id (fun w => absurd w.1 q)⟩⟩)
    have := hf (co x)
    have q' : 1000 ≤ a := by omega
    rw [hR x hx]
    show eR (f (co x)) = eR (min (f (co x)) (sat a (emx τ (b + 1) tk (co (o * 4 + t)) (co x))))
    rw [sat_t (Or.inl q')]
    congr 1; omega
end R4s
