/-! ===== the second program: stars ===== -/
section R3
variable {N r : Nat} {τ : Nat → Nat → Nat → Nat → Nat} {μ : Nat → Nat → Nat → Prop} {S : St}
def R4 (a : Nat) (e : Nat → Int32) (H : Nat → Nat) (S : St) : Prop := ∀ v, v < 4 → S.1 a v = e (H v)
theorem R4.s {a : Nat} {e : Nat → Int32} {H : Nat → Nat} {S : St} (h : R4 a e H S) (v k : Nat) : R4 a e (fun x => if x = v then k else H x) (st_i S a v (e k)) := by
  intro x hx
  show _ = e (if x = v then k else H x)
  rw [si_if]
  by_cases q : x = v
  · rw [if_pos q, if_pos q]
  · rw [if_neg q, if_neg q]; exact h x hx
theorem s_star3 (hN : 60 < N) (S : St) {l1 l2 l3 : Int32} {t : Nat} (ht : t < 4) : WP (fX8_star_3 N l1 l2 l3 (nI t) (0, S)) (fun S' => FrR [144] S S' ∧ R4 144 eR (un1 t) S' ∧ S'.1 128 23 = S.1 128 23) := by
  unfold fX8_star_3
  refine WP.fr1 4 N (fun i T => FrR [144] S T ∧ (∀ v, v < i → T.1 144 v = eR (un1 t v)) ∧ T.1 128 23 = S.1 128 23) (by omega) ?_ ?_ 0 (by omega) ⟨FrR.refl _ _, fun x hx => absurd hx (by omega), rfl⟩
  · rintro i T hi ⟨h1, h2, h3⟩
    unfold bfX8_star_3 fX8_star_28
    refine WP.no (nI_ge (a := i) (b := 4) hi (by omega)) ?_
    have key : ∀ v : Int32, v = eR (un1 t i) → WP (if nI i < 0 ∨ 4 ≤ Int32.toNatClampNeg (nI i) then none else some (.inl ((nI i + 1), (st_i T 144 (Int32.toNatClampNeg (nI i)) v))) : Option ((Int32 × St) ⊕ St)) (fun z => ∃ S', z = .inl (nI (i + 1), S') ∧ FrR [144] S S' ∧ (∀ v, v < i + 1 → S'.1 144 v = eR (un1 t v)) ∧ S'.1 128 23 = S.1 128 23) := by
      intro v hv
      refine WP.ix hi (by omega) (WP.ret ⟨_, by rw [nI_1, nI_cl (by omega)], h1.i (by decide) (by decide), fun x hx => ?_, by rw [si_nx _ _ (by decide)]; exact h3⟩)
      rw [si_if]
      by_cases q : x = i
      · rw [if_pos q, hv, q]
      · rw [if_neg q]; exact h2 x (by omega)
    by_cases q : i = t
    · refine WP.yes (by rw [q]) (key 0 ?_)
      unfold un1; rw [if_pos q]; rfl
    · refine WP.no (fun z => q ((nI_eq (by omega) (by omega)).mp z)) (key 100000 ?_)
      unfold un1; rw [if_neg q]; rfl
  · rintro T ⟨h1, h2, h3⟩
    unfold bfX8_star_3
    exact WP.yes (show (4 : Int32) ≤ nI 4 by decide) (WP.ret ⟨_, rfl, h1, h2, h3⟩)
theorem s_star38 (hN : 60 < N) (hr : r < 8) (hτ : ∀ sp tk s c, τ sp tk s c ≤ 1000) {b tk t : Nat} (hb : b + 1 ≤ 60) (hk : tk ≤ 6) (h : ∀ u, u < 4 → ET r (b + 1) tk u τ μ S) (hH : R4 144 eR (un1 t) S) : WP (fX8_star_38 N (nI r) (nI b) (nI tk) (0, S)) (fun S' => FrR [144] S S' ∧ R4 144 eR (clo (τ (b + 1) tk) (un1 t)) S' ∧ S'.1 128 23 = S.1 128 23) := by
  unfold fX8_star_38
  let J : Nat → Nat → St → Prop := fun n m T => FrR [144] S T ∧ T.1 128 23 = S.1 128 23 ∧ ∃ H, R4 144 eR H T ∧ IR (τ (b + 1) tk) (un1 t) n m H
  refine WP.fr1 5 N (fun n T => J n 0 T) (by omega) ?_ ?_ 0 (by omega) ⟨FrR.refl _ _, rfl, un1 t, hH, IR_0⟩
  · intro n T hn hT
    unfold bfX8_star_38
    refine WP.no (nI_ge (a := n) (b := 5) hn (by omega)) ?_
    refine WP.bnd (P := fun T' => J n 16 T') ?_ (fun y hy => WP.ret ⟨y, by rw [nI_1], hy.1, hy.2.1, ?_⟩)
    · unfold fX8_star_47
      refine dbl (A := 4) (B := 4) (bi := fun o => bfX8_star_56 N (nI r) (nI b) (nI tk) (nI n) o) (J n) (by omega) (by omega) (by omega) (by omega) (fun _ => rfl) (fun o T => ?_) (fun u v T hu hv hT => ?_) 0 (by omega) ?_
      · exact if_pos (show (4 : Int32) ≤ nI 4 by decide)
      · show WP (bfX8_star_56 N (nI r) (nI b) (nI tk) (nI n) (nI u) (nI v, T)) _
        obtain ⟨h1, h2, H, h3, h4⟩ := hT
        unfold bfX8_star_56
        refine WP.no (nI_ge (a := v) (b := 4) hv (by omega)) ?_
        dsimp only
        refine WP.ix hv (by omega) (WP.ix hu (by omega) ?_)
        rw [nI_1]
        refine WP.beq (s_allOf N T (o := 0) hr hb hk hu (by omega) hv) ?_
        have e1 : T.1 139 ((61 * r + (b + 1)) * 896 + (tk * 4 + u) * 32 + (0 * 4 + v)) = eR (τ (b + 1) tk u v) := by
          rw [h1.2.1 139 (by decide) (by decide), (h u hu).1 (0 * 4 + v) (by omega), Nat.zero_mul, Nat.zero_add]
          unfold co; rw [if_pos hv]
        dsimp only
        rw [e1, nI_cl (show u < 2147483648 by omega), h3 u hu]
        refine WP.beq (s_sum N T (IR_le (un1_le t) h4 hu) (hτ _ _ _ _)) ?_
        dsimp only
        rw [nI_cl (show v < 2147483648 by omega), h3 v hv]
        refine WP.beq (s_less N T (IR_le (un1_le t) h4 hv) (sat_le _ _)) ?_
        dsimp only
        refine WP.no ?_ (WP.ret ⟨_, by rw [nI_1], h1.i (by decide) (by decide), by rw [si_nx _ _ (by decide)]; exact h2, _, R4.s h3 v _, IR_s (un1_le t) hu hv h4⟩)
        rintro (q | q)
        · exact nI_pos (by omega) q
        · omega
      · exact hT
    · obtain ⟨H, h3, h4⟩ := hy.2.2
      exact ⟨H, h3, IR_n (un1_le t) h4⟩
  · intro T hT
    unfold bfX8_star_38
    obtain ⟨h1, h2, H, h3, h4⟩ := hT
    refine WP.yes (show (5 : Int32) ≤ nI 5 by decide) (WP.ret ⟨_, rfl, h1, fun v hv => ?_, h2⟩)
    rw [h3 v hv, IR_e (by omega) h4 hv]
/-- the row of a star, u places in -/
def phr (ρ : Nat → Nat) (M : Nat → Nat → Nat) (u c : Nat) : Nat := if c < 4 then (if c < u then ρ c else 1000) else mn u (fun s => sat (ρ s) (M s c))
theorem phr_le {ρ : Nat → Nat} {M : Nat → Nat → Nat} (hρ : ∀ c, ρ c ≤ 1000) (u c : Nat) : phr ρ M u c ≤ 1000 := by
  unfold phr; split
  · split
    · exact hρ c
    · exact Nat.le_refl _
  · exact mn_le _ _
theorem s_star182 (hN : 60 < N) (hr : r < 8) (hτ : ∀ sp tk s c, τ sp tk s c ≤ 1000) {b tk u : Nat} (hb : b + 1 ≤ 60) (hk : tk ≤ 6) (hu : u < 4) (h : ET r (b + 1) tk u τ μ S) {ρ f : Nat → Nat} (hρ : ∀ c, ρ c ≤ 1000) (hf : ∀ c, f c ≤ 1000) (hR : Rr 142 f S) (h4 : R4 144 eR ρ S) (Q : Prop) : WP (fX8_star_182 N (nI r) (nI b) (nI tk) (nI u) (bP Q) S) (fun z => ∃ S', z = .inl (nI (u + 1), S') ∧ FrR [142] S S' ∧ Rr 142 (fun c => if c < 4 then f c else min (f c) (sat (ρ u) (τ (b + 1) tk u c))) S' ∧ S'.1 128 23 = bP Q) := by
  unfold fX8_star_182
  refine WP.yes (bP_01 Q) ?_
  let g : Nat → Nat := fun c => if c < 4 then 1000 else sat (ρ u) (τ (b + 1) tk u c)
  have hg : ∀ c, g c ≤ 1000 := fun c => by show (if c < 4 then 1000 else _) ≤ 1000; split; exact Nat.le_refl _; exact sat_le _ _
  refine WP.bnd (P := fun S' => Jl 142 S f g (bP Q) 32 S') ?_ (fun y hy => WP.ret ⟨y, by rw [nI_1], hy.1, fun x hx => ?_, hy.2.2⟩)
  · unfold fX8_star_188
    refine dbl (A := 8) (B := 4) (bi := fun o => bfX8_star_198 N (nI r) (nI b) (nI tk) (nI u) o) (fun m T => 4 ≤ m ∧ Jl 142 S f g (bP Q) m T) (by omega) (by omega) (by omega) (by omega) (fun _ => rfl) (fun o T => ?_) (fun o v T ho hv hT => ?_) 1 (by omega) ?_ |>.imp (fun y hy => hy.2)
    · exact if_pos (show (4 : Int32) ≤ nI 4 by decide)
    · show WP (bfX8_star_198 N (nI r) (nI b) (nI tk) (nI u) (nI o) (nI v, T)) _
      obtain ⟨hm, hT⟩ := hT
      unfold bfX8_star_198
      refine WP.no (nI_ge (a := v) (b := 4) hv (by omega)) ?_
      dsimp only
      refine WP.ix hu (by omega) ?_
      rw [nI_1]
      refine WP.beq (s_allOf N T hr hb hk hu ho hv) ?_
      have e1 : T.1 139 ((61 * r + (b + 1)) * 896 + (tk * 4 + u) * 32 + (o * 4 + v)) = eR (τ (b + 1) tk u (co (o * 4 + v))) := by
        rw [hT.1.2.1 139 (by decide) (by decide)]; exact h.1 _ (by omega)
      dsimp only
      rw [e1, nI_cl (show u < 2147483648 by omega), hT.1.2.1 144 (by decide) (by decide), h4 u hu]
      refine WP.beq (s_sum N T (hρ u) (hτ _ _ _ _)) ?_
      have e2 : sat (ρ u) (τ (b + 1) tk u (co (o * 4 + v))) = g (co (o * 4 + v)) := by
        show _ = (if co (o * 4 + v) < 4 then 1000 else _)
        rw [if_neg]
        unfold co
        rw [if_neg (by omega)]
        split <;> omega
      dsimp only
      rw [e2]
      refine WP.beq (s_puts N T ho hv (hg _) (hf _) (Rp_m hT.2.1 (by omega))) ?_
      exact WP.ret ⟨_, by rw [nI_1], by omega, hT.1.i (by decide) (by decide), Rp_s hT.2.1, by rw [si_nx _ _ (by decide)]; exact hT.2.2⟩
    · refine ⟨by omega, (FrR.refl _ _).m (by decide), fun x hx => ?_, si_at _ _ _ _⟩
      rw [si_nx _ _ (by decide), hR x hx]
      by_cases q : x < 1 * 4
      · rw [if_pos q]
        have : g (co x) = 1000 := by
          show (if co x < 4 then 1000 else _) = 1000
          rw [if_pos]; unfold co; rw [if_pos (by omega)]; omega
        rw [this]
        have := hf (co x)
        congr 1; omega
      · rw [if_neg q]
  · have := Rp_32 hy.2.1 x hx
    rw [this]
    show eR (min (f (co x)) (if co x < 4 then 1000 else sat (ρ u) (τ (b + 1) tk u (co x)))) = eR (if co x < 4 then f (co x) else min (f (co x)) (sat (ρ u) (τ (b + 1) tk u (co x))))
    by_cases q : co x < 4
    · rw [if_pos q, if_pos q]
      have := hf (co x)
      congr 1; omega
    · rw [if_neg q, if_neg q]
theorem s_star (hN : 60 < N) (hr : r < 8) (hτ : ∀ sp tk s c, τ sp tk s c ≤ 1000) {b tk t : Nat} (hb : b + 1 ≤ 60) (hk : tk ≤ 6) (ht : t < 4) (h : ∀ u, u < 4 → ET r (b + 1) tk u τ μ S) (hR : Rr 142 (fun _ => 1000) S) (hP : S.1 128 23 = bP False) : WP (fX8_star N (nI r) (nI b) (nI tk) (nI t) S) (fun S' => FrR [142, 144] S S' ∧ Rr 142 (fun c => if c < 4 then clo (τ (b + 1) tk) (un1 t) c else vm 4 (clo (τ (b + 1) tk) (un1 t)) (τ (b + 1) tk) c) S' ∧ S'.1 128 23 = bP (∃ u, u < 4 ∧ clo (τ (b + 1) tk) (un1 t) u < 1000 ∧ μ (b + 1) tk u)) := by
  unfold fX8_star
  have hρ : ∀ c, clo (τ (b + 1) tk) (un1 t) c ≤ 1000 := clo_le (un1_le t)
  generalize hρe : clo (τ (b + 1) tk) (un1 t) = ρ at *
  refine WP.bnd (s_star3 hN S ht) (fun S1 h1 => ?_)
  refine WP.bnd (s_star38 hN hr hτ hb hk (fun u hu => (h u hu).mv h1.1 ⟨by decide, by decide⟩) h1.2.1) (fun S2 h2 => ?_)
  rw [hρe] at h2
  have h12 : FrR [144] S S2 := h1.1.trans h2.1
  refine WP.bnd (P := fun S' => FrR [142] S2 S' ∧ Rr 142 (phr ρ (τ (b + 1) tk) 4) S' ∧ S'.1 128 23 = bP (∃ u, u < 4 ∧ ρ u < 1000 ∧ μ (b + 1) tk u)) ?_ (fun S3 h3 => WP.ret ⟨?_, fun x hx => ?_, h3.2.2⟩)
  · unfold fX8_star_124
    refine WP.fr1 4 N (fun u T => FrR [142] S2 T ∧ Rr 142 (phr ρ (τ (b + 1) tk) u) T ∧ T.1 128 23 = bP (∃ v, v < u ∧ ρ v < 1000 ∧ μ (b + 1) tk v)) (by omega) ?_ ?_ 0 (by omega) ⟨FrR.refl _ _, ?_, ?_⟩
    · rintro u T hu ⟨t1, t2, t3⟩
      unfold bfX8_star_124
      refine WP.no (nI_ge (a := u) (b := 4) hu (by omega)) ?_
      dsimp only
      refine WP.ix hu (by omega) ?_
      have e4 : R4 144 eR ρ T := fun v hv => by rw [t1.2.1 144 (by decide) (by decide)]; exact h2.2.1 v hv
      rw [nI_cl (show u < 2147483648 by omega), e4 u hu]
      have hold : T.1 142 (0 * 4 + u) = eR 1000 := by
        rw [t2 _ (by omega), Nat.zero_mul, Nat.zero_add]
        have : co u = u := by unfold co; rw [if_pos hu]
        rw [this]
        unfold phr; rw [if_pos hu, if_neg (by omega)]
      refine WP.beq (s_puts N T (o := 0) (by omega) hu (hρ u) (Nat.le_refl _) hold) ?_
      generalize hT1 : st_i T 142 (0 * 4 + u) (eR (min 1000 (ρ u))) = T1
      have f1 : FrR [142] T T1 := by rw [← hT1]; exact (FrR.refl _ _).i (by decide) (by decide)
      have e5 : R4 144 eR ρ T1 := fun v hv => by rw [f1.2.1 144 (by decide) (by decide)]; exact e4 v hv
      have e6 : T1.1 128 23 = bP (∃ v, v < u ∧ ρ v < 1000 ∧ μ (b + 1) tk v) := by rw [← hT1, si_nx _ _ (by decide)]; exact t3
      have e7 : Rr 142 (fun c => if c = u then ρ u else phr ρ (τ (b + 1) tk) u c) T1 := by
        intro x hx
        show _ = eR (if co x = u then ρ u else phr ρ (τ (b + 1) tk) u (co x))
        rw [← hT1, si_if]
        by_cases q : x = 0 * 4 + u
        · have : co x = u := by unfold co; rw [if_pos (by omega)]; omega
          rw [if_pos q, this, if_pos rfl]
          have := hρ u
          congr 1; omega
        · have : co x ≠ u := by unfold co; split; omega; split <;> omega
          rw [if_neg q, if_neg this]; exact t2 x hx
      have e8 : ET r (b + 1) tk u τ μ T1 := (((h u hu).mv h12 ⟨by decide, by decide⟩).mv t1 ⟨by decide, by decide⟩).mv f1 ⟨by decide, by decide⟩
      have key : ∀ Q : Prop, (Q ↔ ∃ v, v < u + 1 ∧ ρ v < 1000 ∧ μ (b + 1) tk v) → WP (fX8_star_182 N (nI r) (nI b) (nI tk) (nI u) (bP Q) T1) (fun z => ∃ S', z = .inl (nI (u + 1), S') ∧ FrR [142] S2 S' ∧ Rr 142 (phr ρ (τ (b + 1) tk) (u + 1)) S' ∧ S'.1 128 23 = bP (∃ v, v < u + 1 ∧ ρ v < 1000 ∧ μ (b + 1) tk v)) := by
        intro Q hQ
        refine (s_star182 hN hr hτ hb hk hu e8 hρ (f := fun c => if c = u then ρ u else phr ρ (τ (b + 1) tk) u c) (fun c => ?_) e7 e5 Q).imp ?_
        · split
          · exact hρ u
          · exact phr_le hρ u c
        · rintro z ⟨S', rfl, a1, a2, a3⟩
          refine ⟨S', rfl, (t1.trans f1).trans a1, fun x hx => ?_, by rw [a3]; exact bP_congr hQ⟩
          rw [a2 x hx]
          congr 1
          show (if co x < 4 then (if co x = u then ρ u else phr ρ (τ (b + 1) tk) u (co x)) else min (if co x = u then ρ u else phr ρ (τ (b + 1) tk) u (co x)) (sat (ρ u) (τ (b + 1) tk u (co x)))) = phr ρ (τ (b + 1) tk) (u + 1) (co x)
          unfold phr
          by_cases q : co x < 4
          · rw [if_pos q, if_pos q, if_pos q]
            by_cases q2 : co x = u
            · rw [if_pos q2, if_pos (by omega), q2]
            · rw [if_neg q2]
              by_cases q3 : co x < u
              · rw [if_pos q3, if_pos (by omega)]
              · rw [if_neg q3, if_neg (by omega)]
          · rw [if_neg q, if_neg q, if_neg q, if_neg (by omega)]
            rfl
      rw [e6]
      unfold fX8_star_181 fX8_star_177
      by_cases q0 : ∃ v, v < u ∧ ρ v < 1000 ∧ μ (b + 1) tk v
      · refine WP.no (fun z => bP_eq0.mp z q0) ?_
        rw [← bP_1 (P := True) trivial]
        obtain ⟨v, hv, hv2⟩ := q0
        exact key True ⟨fun _ => ⟨v, by omega, hv2⟩, fun _ => trivial⟩
      · refine WP.yes (bP_0 q0) (WP.no ?_ ?_)
        · rintro (q | q)
          · exact nI_pos (by omega) q
          · omega
        rw [e5 u hu]
        by_cases q1 : 1000 ≤ ρ u
        · refine WP.yes ((eR_ge _).mpr q1) ?_
          rw [← bP_0 (P := False) id]
          refine key False ⟨False.elim, fun ⟨v, hv, hv2⟩ => ?_⟩
          by_cases z : v = u
          · subst z; omega
          · exact q0 ⟨v, by omega, hv2⟩
        · refine WP.no (fun z => q1 ((eR_ge _).mp z)) ?_
          rw [nI_1]
          refine WP.beq (s_metOf N T1 hb hk hu e8.2) ?_
          dsimp only
          by_cases q2 : μ (b + 1) tk u
          · refine WP.no (fun z => bP_eq0.mp z q2) ?_
            rw [← bP_1 (P := True) trivial]
            exact key True ⟨fun _ => ⟨u, by omega, by omega, q2⟩, fun _ => trivial⟩
          · refine WP.yes (bP_0 q2) ?_
            rw [← bP_0 (P := False) id]
            refine key False ⟨False.elim, fun ⟨v, hv, hv2⟩ => ?_⟩
            by_cases z : v = u
            · subst z; exact q2 hv2.2
            · exact q0 ⟨v, by omega, hv2⟩
    · rintro T ⟨t1, t2, t3⟩
      unfold bfX8_star_124
      exact WP.yes (show (4 : Int32) ≤ nI 4 by decide) (WP.ret ⟨_, rfl, t1, t2, t3⟩)
    · intro x hx
      rw [h12.2.1 142 (by decide) (by decide), hR x hx]
      congr 1
      unfold phr
      split
      · rw [if_neg (by omega)]
      · rfl
    · rw [h2.2.2, h1.2.2, hP]
      exact bP_congr ⟨False.elim, fun ⟨v, hv, _⟩ => absurd hv (by omega)⟩
  · exact (h12.mono (by decide)).trans (h3.1.mono (by decide))
  · rw [h3.2.1 x hx]
    congr 1
    show _ = (if co x < 4 then ρ (co x) else vm 4 ρ (τ (b + 1) tk) (co x))
    unfold phr
    by_cases q : co x < 4
    · rw [if_pos q, if_pos q, if_pos q]
    · rw [if_neg q, if_neg q]; rfl
end R3
