/-! ===== the second program: a statement ===== -/
def RT (r lo : Nat) (ch : Nat → Nat) (τ : Nat → Nat → Nat → Nat → Nat) (μ : Nat → Nat → Nat → Prop) (S : St) : Prop := ∀ sp, lo < sp → spt ch sp → ∀ tk s, tk ≤ 6 → s < 4 → ET r sp tk s τ μ S
theorem RT.mv {r lo : Nat} {ch : Nat → Nat} {τ : Nat → Nat → Nat → Nat → Nat} {μ : Nat → Nat → Nat → Prop} {S T : St} (h : RT r lo ch τ μ S) {A J : List Nat} (f : FrJ J A S T) (hA : 139 ∉ A ∧ 140 ∉ A) : RT r lo ch τ μ T := fun sp h1 h2 tk s h3 h4 => (h sp h1 h2 tk s h3 h4).mv f hA
theorem nI_nq {c k : Nat} (hc : c < 256) (hk : k < 256) (h : c ≠ k) : ¬ (nI c = nI k) := fun z => h ((nI_eq (by omega) (by omega)).mp z)
section R5
variable {N r n lo : Nat} {ch mt : Nat → Nat} {ab : Nat → Nat → Bool} {X : Nat → Nat} {τ : Nat → Nat → Nat → Nat → Nat} {μ : Nat → Nat → Nat → Prop} {S : St} {hb : Nat → Nat → Prop} {lb : Nat → Prop}
theorem s_tries34 (hN : 60 < N) (hK : RK r n ch mt X) (hX : RX r n ch mt ab X S) (hT : RT r lo ch τ μ S) (hM : RM hb lb S) (hτ : ∀ sp tk s c, τ sp tk s c ≤ 1000) {b tk t : Nat} (hlo : lo ≤ b) (hbr : ch b = 123) (hk : tk ≤ 6) (ht : t < 4)
    (h1 : ∀ m, m < 6 → ltr (ch (skp ch mt m (mt b + 1))) → ch (skp ch mt m (mt b + 1) + 1) = 123) (h2 : ¬ ltr (ch (skp ch mt 6 (mt b + 1)))) (hR : Rr 143 (fun _ => 1000) S) (hP : S.1 128 23 = bP (μ (b + 1) tk t)) :
    WP (fX8_tries_34 N (nI r) (nI b) (nI tk) (nI t) (nI (mt b + 1)) (0, S)) (fun S' => FrR [143] S S' ∧ Rr 143 (fun c => vm 32 (τ (b + 1) tk t) (kmx ch mt ab τ (mt b + 1)) c) S' ∧ S'.1 128 23 = bP (μ (b + 1) tk t ∨ ∃ c p, c < 32 ∧ tko ch mt ab (mt b + 1) (c / 4) = some p ∧ τ (b + 1) tk t c < 1000 ∧ (hb p (c / 4 - 1) ∨ μ (p + 2) (c / 4) (c % 4)))) := by
  have hr := hK.1
  have h60 := hK.2.1.1
  have hbb := hK.2.1.br hbr
  have hbsp : spt ch (b + 1) := Or.inr ⟨hbr, by omega⟩
  have hE := hT (b + 1) (by omega) hbsp tk t hk ht
  let F : Nat → Nat → Nat := fun y c => sat (τ (b + 1) tk t (co y)) (kmx ch mt ab τ (mt b + 1) (co y) c)
  let G : Nat → Prop := fun m => μ (b + 1) tk t ∨ ∃ y p, y < m ∧ tko ch mt ab (mt b + 1) (co y / 4) = some p ∧ τ (b + 1) tk t (co y) < 1000 ∧ (hb p (co y / 4 - 1) ∨ μ (p + 2) (co y / 4) (co y % 4))
  let J : Nat → St → Prop := fun m T => FrR [143] S T ∧ Rr 143 (fun c => mn m (fun y => F y c)) T ∧ T.1 128 23 = bP (G m)
  refine WP.imp (P := J 32) ?_ (fun y hy => ⟨hy.1, fun x hx => ?_, ?_⟩)
  · unfold fX8_tries_34
    refine dbl (A := 8) (B := 4) (bi := fun o => bfX8_tries_44 N (nI r) (nI b) (nI tk) (nI t) (nI (mt b + 1)) o) J (by omega) (by omega) (by omega) (by omega) (fun _ => rfl) (fun o T => ?_) (fun o u T ho hu hJ => ?_) 0 (by omega) ?_
    · exact if_pos (show (4 : Int32) ≤ nI 4 by decide)
    · show WP (bfX8_tries_44 N (nI r) (nI b) (nI tk) (nI t) (nI (mt b + 1)) (nI o) (nI u, T)) _
      obtain ⟨j1, j2, j3⟩ := hJ
      have hX' := hX.mv j1 ⟨by decide, by decide, by decide, by decide, by decide⟩
      have hM' := hM.mv j1
      have hT' := hT.mv j1 ⟨by decide, by decide⟩
      obtain ⟨cm, cd⟩ := co_div ho hu
      unfold bfX8_tries_44
      refine WP.no (nI_ge (a := u) (b := 4) hu (by omega)) ?_
      rw [nI_1]
      refine WP.beq (s_allOf N T hr (by omega) hk ht ho hu) ?_
      have e1 : T.1 139 ((61 * r + (b + 1)) * 896 + (tk * 4 + t) * 32 + (o * 4 + u)) = eR (τ (b + 1) tk t (co (o * 4 + u))) := by
        rw [j1.2.1 139 (by decide) (by decide)]; exact hE.1 _ (by omega)
      try dsimp only
      rw [e1]
      have hy32 : o * 4 + u < 32 := by omega
      generalize hye : o * 4 + u = y at *
      have hcy : co y < 32 := co_lt hy32
      generalize hae : τ (b + 1) tk t (co y) = a at *
      have ha : a ≤ 1000 := by rw [← hae]; exact hτ _ _ _ _
      have hfle : ∀ c, mn y (fun y => F y c) ≤ 1000 := fun c => mn_le _ _
      -- no taker
      have kN : tko ch mt ab (mt b + 1) (co y / 4) = none → WP (fX8_tries_88 N (nI r) (nI b) (nI tk) (nI t) (nI (mt b + 1)) (nI o) (nI u) (eR a) (-1) T) (fun z => ∃ S', z = .inl (nI (u + 1), S') ∧ J (y + 1) S') := by
        intro hn
        unfold fX8_tries_88 fX8_tries_124
        refine WP.yes rfl ?_
        have hold : T.1 143 (o * 4 + u) = eR (mn y (fun z => F z (co y))) := by rw [hye]; exact j2 y hy32
        refine WP.beq (s_putsMid N T ho hu ha (hfle _) hold) ?_
        refine WP.ret ⟨_, by rw [nI_1], j1.i (by decide) (by decide), fun x hx => ?_, ?_⟩
        · show _ = eR (min (mn y (fun z => F z (co x))) (F y (co x)))
          have eF : F y (co x) = sat a (if co x = co y then 0 else 1000) := by
            show sat (τ (b + 1) tk t (co y)) (kmo τ (tko ch mt ab (mt b + 1) (co y / 4)) (co y) (co x)) = _
            rw [hn, hae]; rfl
          rw [si_if, eF, hye]
          by_cases q : x = y
          · rw [if_pos q, q, if_pos rfl, sat_0' ha]
          · have : co x ≠ co y := fun z => q (by rw [← oc_co hx, z, oc_co hy32])
            rw [if_neg q, if_neg this, sat_top', show T.1 143 x = eR (mn y (fun z => F z (co x))) from j2 x hx]
            have := hfle (co x)
            congr 1; omega
        · rw [si_nx _ _ (by decide), j3]
          refine bP_congr ⟨fun z => z.imp id (fun ⟨w, p, w1, w2⟩ => ⟨w, p, by omega, w2⟩), fun z => z.imp id (fun ⟨w, p, w1, w2⟩ => ⟨w, p, ?_, w2⟩)⟩
          by_cases q : w = y
          · rw [q, hn] at w2; cases w2.1
          · omega
      have kS : ∀ p, tko ch mt ab (mt b + 1) (co y / 4) = some p → 2 ≤ o → WP (fX8_tries_88 N (nI r) (nI b) (nI tk) (nI t) (nI (mt b + 1)) (nI o) (nI u) (eR a) (nI p) T) (fun z => ∃ S', z = .inl (nI (u + 1), S') ∧ J (y + 1) S') := by
        intro p hp ho2
        obtain ⟨w1, w2, q, hq, p1, p2, p3⟩ := tko_sp hp
        have hpb : ch (p + 1) = 123 := by rw [p1]; exact h1 q hq (by rw [← p1]; exact p2)
        have hpl := hK.2.1.br hpb
        have hpup := skp_up hK.2.1 (j := mt b + 1) h1 (Nat.zero_le q) (by omega)
        have hp0 : skp ch mt 0 (mt b + 1) = mt b + 1 := rfl
        have hcw : co y / 4 = o - 1 := by rw [cd, if_neg (by omega), if_neg (by omega)]
        have hEp := hT' (p + 2) (by omega) (Or.inr ⟨by rw [show p + 2 - 1 = p + 1 by omega]; exact hpb, by omega⟩) (o - 2 + 1) u (by omega) hu
        unfold fX8_tries_88 fX8_tries_124
        refine WP.no (by rw [nI_m1 (by omega)]; exact id) ?_
        have e2 : nI o - 2 = nI (o - 2) := pk_sub (b := 2) ho2
        rw [e2]
        refine WP.bnd (s_takes hN hr hτ (i := p) (k := o - 2) (by omega) (by omega) hu ha hEp hM' hfle j2 j3) (fun T2 g => WP.ret ⟨T2, by rw [nI_1], j1.trans g.1, fun x hx => ?_, ?_⟩)
        · rw [g.2.1 x hx]
          show eR (min (mn y (fun z => F z (co x))) (sat a (τ (p + 2) (o - 2 + 1) u (co x)))) = eR (min (mn y (fun z => F z (co x))) (F y (co x)))
          have eF : F y (co x) = sat a (τ (p + 2) (o - 2 + 1) u (co x)) := by
            show sat (τ (b + 1) tk t (co y)) (kmo τ (tko ch mt ab (mt b + 1) (co y / 4)) (co y) (co x)) = _
            rw [hp, hae]
            show sat a (τ (p + 2) (co y / 4) (co y % 4) (co x)) = _
            rw [hcw, cm, show o - 2 + 1 = o - 1 by omega]
          rw [eF]
        · rw [g.2.2]
          refine bP_congr ⟨fun z => ?_, fun z => ?_⟩
          · rcases z with (z | ⟨w, p', w1, w2⟩) | ⟨z1, z2⟩
            · exact Or.inl z
            · exact Or.inr ⟨w, p', by omega, w2⟩
            · refine Or.inr ⟨y, p, by omega, hp, by rw [hae]; exact z1, ?_⟩
              rw [hcw, cm, show o - 1 - 1 = o - 2 by omega, show o - 1 = o - 2 + 1 by omega]; exact z2
          · rcases z with z | ⟨w, p', v1, v2, v3, v4⟩
            · exact Or.inl (Or.inl z)
            · by_cases q : w = y
              · rw [q] at v2 v3 v4
                rw [hp] at v2
                cases v2
                rw [hcw, cm, show o - 1 - 1 = o - 2 by omega, show o - 1 = o - 2 + 1 by omega] at v4
                exact Or.inr ⟨by rw [← hae]; exact v3, v4⟩
              · exact Or.inl (Or.inr ⟨w, p', by omega, v2, v3, v4⟩)
      by_cases o2 : 2 ≤ o
      · refine WP.yes (nI_le (a := 2) o2 (by omega)) ?_
        have e2 : nI o - 2 = nI (o - 2) := pk_sub (b := 2) o2
        rw [e2]
        have hcw : co y / 4 = o - 1 := by rw [cd, if_neg (by omega), if_neg (by omega)]
        have htk : tko ch mt ab (mt b + 1) (co y / 4) = tkf ch mt ab (o - 2) 6 (mt b + 1) := by
          unfold tko
          rw [hcw, if_pos (by omega), show o - 1 - 1 = o - 2 by omega]
        have ef : fX8_takerFor N (nI r) (nI (mt b + 1)) (nI (o - 2)) T = some (oN (tkf ch mt ab (o - 2) 6 (mt b + 1)), T) := by
          unfold fX8_takerFor fX8_takerFor_3
          rw [s_tkf hN hK hX' (show o - 2 < 6 by omega) 6 N (mt b + 1) (by omega) (by omega) h1 h2]; rfl
        refine WP.beq ef ?_
        rw [← htk]
        cases hp : tko ch mt ab (mt b + 1) (co y / 4) with
        | none => exact kN hp
        | some p => exact kS p hp o2
      · refine WP.no (nI_ge (b := 2) (by omega) (by omega)) (kN ?_)
        unfold tko
        rw [if_neg]
        rw [cd]
        by_cases q : o = 0
        · rw [if_pos q]; omega
        · rw [if_neg q, if_pos (by omega)]; omega
    · refine ⟨FrR.refl _ _, fun x hx => by rw [hR x hx]; rfl, by rw [hP]; exact bP_congr ⟨Or.inl, fun z => z.elim id (fun ⟨_, _, w, _⟩ => absurd w (by omega))⟩⟩
  · rw [hy.2.1 x hx]
    exact congrArg eR (mn_co (fun c => sat (τ (b + 1) tk t c) (kmx ch mt ab τ (mt b + 1) c (co x))))
  · rw [hy.2.2]
    refine bP_congr ⟨fun z => z.imp id (fun ⟨w, p, w1, w2⟩ => ⟨co w, p, co_lt w1, w2⟩), fun z => z.imp id (fun ⟨c, p, w1, w2⟩ => ⟨oc c, p, oc_lt w1, by rw [co_oc w1]; exact w2⟩)⟩
end R5
