section R5b
variable {N r n lo : Nat} {ch mt : Nat → Nat} {ab : Nat → Nat → Bool} {X : Nat → Nat} {τ : Nat → Nat → Nat → Nat → Nat} {μ : Nat → Nat → Nat → Prop} {S : St} {hb : Nat → Nat → Prop} {lb : Nat → Prop}
theorem s_tries (hN : 60 < N) (hK : RK r n ch mt X) (hX : RX r n ch mt ab X S) (hT : RT r lo ch τ μ S) (hM : RM hb lb S) (hτ : ∀ sp tk s c, τ sp tk s c ≤ 1000) {i e tk t : Nat} (hlo : lo ≤ i) (hs : OkS ch mt i e) (hi : ch i = 84) (hk : tk ≤ 6) (ht : t < 4) (hR : Rr 142 (fun _ => 1000) S) :
    WP (fX8_tries N (nI r) (nI (i + 1)) (nI tk) (nI t) S) (fun S' => FrR [142, 143] S S' ∧ Rr 142 (tryr ch mt ab τ i tk t) S' ∧ S'.1 128 23 = bP (mun hb lb ch mt ab τ μ tk i t)) := by
  have hr := hK.1
  have h60 := hK.2.1.1
  obtain ⟨-, h1, h2, h3, h4⟩ : ch i = 84 ∧ _ := by
    rcases hs with h1 | h1 | h1 | h1 | h1 | h1 | h1
    · omega
    · omega
    · omega
    · omega
    · omega
    · omega
    · exact h1
  have hbb := hK.2.1.br h1
  have hbsp : spt ch (i + 2) := Or.inr ⟨h1, by omega⟩
  unfold fX8_tries
  refine WP.bnd (s_clears N hN (a := 143) rfl S) (fun S1 g1 => ?_)
  have f1 : FrR [143] S S1 := g1.1.R (by decide)
  have hE1 := (hT.mv f1 ⟨by decide, by decide⟩) (i + 2) (by omega) hbsp tk t hk ht
  rw [nI_1]
  refine WP.beq (s_metOf N S1 (sp := i + 1 + 1) (by omega) hk ht hE1.2) (WP.yes (bP_01 _) ?_)
  try dsimp only
  generalize hS2 : st_i S1 128 23 (bP (μ (i + 2) tk t)) = S2
  have f2 : FrR [143] S S2 := by rw [← hS2]; exact f1.m (by decide)
  have hX2 := hX.mv f2 ⟨by decide, by decide, by decide, by decide, by decide⟩
  refine WP.beq (s_shutOf hK hX2 h1) ?_
  try dsimp only
  rw [nI_1]
  refine WP.bnd (s_tries34 hN hK hX2 (hT.mv f2 ⟨by decide, by decide⟩) (hM.mv f2) hτ (b := i + 1) (by omega) h1 hk ht h2 h3 (fun x hx => by rw [← hS2, si_nx _ _ (by decide)]; exact g1.2 x hx) (by rw [← hS2, si_at])) (fun S3 g3 => ?_)
  have f3 : FrR [143] S S3 := f2.trans g3.1
  have hX3 := hX.mv f3 ⟨by decide, by decide, by decide, by decide, by decide⟩
  have e140 : fX8_tries_140 N (nI r) (nI tk) (nI (mt (i + 1) + 1), S3) = some (nI (skp ch mt 6 (mt (i + 1) + 1)), S3) := by
    unfold fX8_tries_140
    exact s_skp hK hX3 (fun _ => rfl) 6 N (mt (i + 1) + 1) (by omega) (by omega) h2 h3
  refine WP.beq e140 ?_
  try dsimp only
  have hjle : skp ch mt 6 (mt (i + 1) + 1) < 900 := by
    have hup : ∀ m, m ≤ 6 → skp ch mt m (mt (i + 1) + 1) ≤ 61 := by
      intro m
      induction m with
      | zero => intro _; show mt (i + 1) + 1 ≤ 61; omega
      | succ m ih =>
        intro hm
        rw [skp_s]
        by_cases q : ltr (ch (skp ch mt m (mt (i + 1) + 1)))
        · rw [if_pos q]
          have := hK.2.1.br (h2 m (by omega) q)
          omega
        · rw [if_neg q]; exact ih (by omega)
    have := hup 6 (by omega)
    omega
  have hskge : mt (i + 1) + 1 ≤ skp ch mt 6 (mt (i + 1) + 1) := skp_up hK.2.1 (j := mt (i + 1) + 1) h2 (Nat.zero_le 6) (Nat.le_refl 6)
  generalize hje : skp ch mt 6 (mt (i + 1) + 1) = j at *
  have hmd : ∀ c, mdr ch mt ab τ i tk t c ≤ 1000 := fun c => vm_le _ _ _ _
  have hmr : Rr 143 (mdr ch mt ab τ i tk t) S3 := g3.2.1
  have h142 : Rr 142 (fun _ => 1000) S3 := fun x hx => by rw [f3.2.1 142 (by decide) (by decide)]; exact hR x hx
  have hM3 := hM.mv f3
  have hT3 := hT.mv f3 ⟨by decide, by decide⟩
  by_cases hz : ch j = 90
  · rw [if_pos hz] at h4
    have hjb := hK.2.1.br h4.1
    let P3 : Prop := μ (i + 2) tk t ∨ ∃ c p, c < 32 ∧ tko ch mt ab (mt (i + 1) + 1) (c / 4) = some p ∧ τ (i + 2) tk t c < 1000 ∧ (hb p (c / 4 - 1) ∨ μ (p + 2) (c / 4) (c % 4))
    let E : Nat → Prop := fun c => mdr ch mt ab τ i tk t c < 1000 ∧ (μ (j + 2) tk (c % 4) ∨ ∃ c', c' < 32 ∧ c' / 4 ≠ 0 ∧ τ (j + 2) tk (c % 4) c' < 1000 ∧ 1 ≤ c / 4 ∧ c / 4 ≤ 6 ∧ lb (c / 4 - 1))
    let J : Nat → St → Prop := fun m T => FrR [142] S3 T ∧ Rr 142 (fun c => mn m (fun y => sat (mdr ch mt ab τ i tk t (co y)) (emx τ (j + 2) tk (co y) c))) T ∧ T.1 128 23 = bP (P3 ∨ ∃ y, y < m ∧ E (co y))
    refine WP.bnd (P := J 32) ?_ (fun y hy => WP.ret ⟨(f3.mono (by decide)).trans (hy.1.mono (by decide)), fun x hx => ?_, ?_⟩)
    · unfold fX8_tries_172
      refine dbl (A := 8) (B := 4) (bi := fun o => bfX8_tries_182 N (nI r) (nI tk) (nI j) o) J (by omega) (by omega) (by omega) (by omega) (fun _ => rfl) (fun o T => ?_) (fun o u T ho hu hJ => ?_) 0 (by omega) ?_
      · exact if_pos (show (4 : Int32) ≤ nI 4 by decide)
      · show WP (bfX8_tries_182 N (nI r) (nI tk) (nI j) (nI o) (nI u, T)) _
        obtain ⟨j1, j2, j3⟩ := hJ
        have hX4 := hX3.mv j1 ⟨by decide, by decide, by decide, by decide, by decide⟩
        obtain ⟨cm, cd⟩ := co_div ho hu
        unfold bfX8_tries_182 fX8_tries_249
        refine WP.no (nI_ge (a := u) (b := 4) hu (by omega)) ?_
        refine WP.beq (s_signOf hK hX4 (by omega)) (WP.yes (by show nI (ch j) = 90; rw [hz]; rfl) ?_)
        rw [nI_x4, nI_add]
        refine WP.ix (by omega) (by omega) ?_
        try dsimp only
        rw [nI_cl (show o * 4 + u < 2147483648 by omega), j1.2.1 143 (by decide) (by decide), hmr _ (by omega), nI_1]
        have hEj := (hT3.mv j1 ⟨by decide, by decide⟩) (j + 1 + 1) (by omega) (Or.inr ⟨h4.1, by omega⟩) tk u hk hu
        refine WP.bnd (s_endsBy hN hr hτ (b := j + 1) (by omega) hk ho hu (hmd _) hEj (hM3.mv j1) (fun c => mn_le _ _) j2 j3) (fun T2 g => WP.ret ⟨T2, by rw [nI_1], j1.trans g.1, fun x hx => g.2.1 x hx, ?_⟩)
        rw [g.2.2]
        refine bP_congr ⟨fun z => ?_, fun z => ?_⟩
        · rcases z with (z | ⟨w, w1, w2⟩) | z
          · exact Or.inl z
          · exact Or.inr ⟨w, by omega, w2⟩
          · refine Or.inr ⟨o * 4 + u, by omega, z.1, ?_⟩
            rw [cm]; exact z.2
        · rcases z with z | ⟨w, w1, w2⟩
          · exact Or.inl (Or.inl z)
          · by_cases q : w = o * 4 + u
            · subst q
              obtain ⟨w2, w3⟩ := w2
              rw [cm] at w3
              exact Or.inr ⟨w2, w3⟩
            · exact Or.inl (Or.inr ⟨w, by omega, w2⟩)
      · refine ⟨FrR.refl _ _, fun x hx => by rw [h142 x hx]; rfl, by rw [g3.2.2]; exact bP_congr ⟨Or.inl, fun z => z.elim id (fun ⟨_, w, _⟩ => absurd w (by omega))⟩⟩
    · rw [hy.2.1 x hx]
      unfold tryr
      rw [hje, if_pos hz]
      exact congrArg eR (mn_co (fun c => sat (mdr ch mt ab τ i tk t c) (emx τ (j + 2) tk c (co x))))
    · rw [hy.2.2]
      refine bP_congr ⟨fun z => ?_, fun z => ?_⟩
      · refine Or.inr (Or.inr ⟨hi, ?_⟩)
        rw [hje]
        rcases z with z | ⟨y, y1, y2⟩
        · exact Or.inl z
        · exact Or.inr ⟨hz, co y, co_lt y1, y2⟩
      · rcases z with ⟨z, _⟩ | ⟨z, _⟩ | ⟨_, z⟩
        · omega
        · omega
        · rw [hje] at z
          rcases z with z | ⟨_, c, c1, c2⟩
          · exact Or.inl z
          · exact Or.inr ⟨oc c, oc_lt c1, by rw [co_oc c1]; exact c2⟩
  · refine WP.bnd (P := fun T => Jl 142 S3 (fun _ => 1000) (mdr ch mt ab τ i tk t) (S3.1 128 23) 32 T) ?_ (fun y hy => WP.ret ⟨(f3.mono (by decide)).trans (hy.1.mono (by decide)), fun x hx => ?_, ?_⟩)
    · unfold fX8_tries_172
      refine dbl (A := 8) (B := 4) (bi := fun o => bfX8_tries_182 N (nI r) (nI tk) (nI j) o) (Jl 142 S3 (fun _ => 1000) (mdr ch mt ab τ i tk t) (S3.1 128 23)) (by omega) (by omega) (by omega) (by omega) (fun _ => rfl) (fun o T => ?_) (fun o u T ho hu hJ => ?_) 0 (by omega) ?_
      · exact if_pos (show (4 : Int32) ≤ nI 4 by decide)
      · show WP (bfX8_tries_182 N (nI r) (nI tk) (nI j) (nI o) (nI u, T)) _
        obtain ⟨j1, j2, j3⟩ := hJ
        have hX4 := hX3.mv j1 ⟨by decide, by decide, by decide, by decide, by decide⟩
        unfold bfX8_tries_182 fX8_tries_249
        refine WP.no (nI_ge (a := u) (b := 4) hu (by omega)) ?_
        refine WP.beq (s_signOf hK hX4 (by omega)) (WP.no (nI_nq (hK.2.2.1 j) (k := 90) (by omega) hz) ?_)
        rw [nI_x4, nI_add]
        refine WP.ix (by omega) (by omega) ?_
        try dsimp only
        rw [nI_cl (show o * 4 + u < 2147483648 by omega), j1.2.1 143 (by decide) (by decide), hmr _ (by omega)]
        refine WP.beq (s_puts N T ho hu (hmd _) (Nat.le_refl 1000) (Rp_m j2 (by omega))) ?_
        exact WP.ret ⟨_, by rw [nI_1], j1.i (by decide) (by decide), Rp_s j2, by rw [si_nx _ _ (by decide)]; exact j3⟩
      · exact ⟨FrR.refl _ _, Rp_0 h142, rfl⟩
    · rw [Rp_32 hy.2.1 x hx]
      unfold tryr
      rw [hje, if_neg hz]
      exact congrArg eR (Nat.min_eq_right (hmd (co x)))
    · rw [hy.2.2, g3.2.2]
      refine bP_congr ⟨fun z => ?_, fun z => ?_⟩
      · refine Or.inr (Or.inr ⟨hi, ?_⟩)
        exact Or.inl z
      · rcases z with ⟨z, _⟩ | ⟨z, _⟩ | ⟨_, z⟩
        · omega
        · omega
        · rw [hje] at z
          rcases z with z | ⟨z1, _⟩
          · exact z
          · exact absurd z1 hz
end R5b
