/-! ===== the first program: takers and endings ===== -/
theorem tkf_no {ch mt : Nat → Nat} {k : Nat} : ∀ (m j : Nat), tkf ch mt (fun _ _ => false) k m j = none
  | 0, _ => rfl
  | m + 1, j => by
    show (if ltr (ch j) then (if false = true then some j else tkf ch mt (fun _ _ => false) k m (mt (j + 1) + 1)) else none) = none
    rw [if_neg (show ¬ (false = true) by decide), tkf_no m]
    split <;> rfl
section C4
variable {N m n B : Nat} {ch mt bn fs kp : Nat → Nat} {ag : Nat → Prop} {S : St}
def oB (bn : Nat → Nat) (o : Option Nat) : Int32 := match o with
  | some p => nI (bn (p + 1))
  | none => -1
theorem s_takerOf (hK : TK n B ch mt bn fs kp ag) (hD : TD m n B ch mt bn fs kp ag S) {A : Int32} {ab : Nat → Nat → Bool} {k : Nat} (hA : ∀ j, j < 6 → (bt A j = true ↔ ab k j = true)) : ∀ (f M a j : Nat), a + f = 6 → f < M → j < 900 → (∀ a, a < f → ltr (ch (skp ch mt a j)) → ch (skp ch mt a j + 1) = 123) → ¬ ltr (ch (skp ch mt f j)) → whl M (bfX5_takerOf_5 N m A) (nI j, nI a, S) = some (oB bn (tkf ch mt ab k f j), S)
  | f, 0, _, _, _, hM, _, _, _ => absurd hM (by omega)
  | 0, M + 1, a, j, ha, _, hj, _, hn => by
    obtain rfl : a = 6 := by omega
    refine whl_e ?_
    unfold bfX5_takerOf_5
    rw [if_pos (show (6 : Int32) ≤ nI 6 by decide)]
    rfl
  | f + 1, M + 1, a, j, ha, hM, hj, hb, hn => by
    obtain ⟨⟨hW, hc⟩, ⟨hB0, hB, hf0⟩, hsp, hmo, hbn, hkp, hag⟩ := hK
    by_cases h1 : ltr (ch j)
    · have hb0 : ch (j + 1) = 123 := hb 0 (by omega) h1
      have hbr := hW.br hb0
      have h60 := hW.1
      have e1 : enp n mt (fs (bn (j + 1))) = mt (j + 1) := by rw [(hbn _ hb0).2]; unfold enp; rw [if_neg (by omega), Nat.add_sub_cancel]
      have hkn : ¬ (nI (ch j - 65) = -1) := by rw [nI_m1 (by omega)]; exact id
      have he : bfX5_takerOf_5 N m A (nI j, nI a, S) = if ab k (ch j - 65) = true then some (.inr (nI (bn (j + 1)), S)) else some (.inl (nI (mt (j + 1) + 1), nI (a + 1), S)) := by
        unfold bfX5_takerOf_5
        rw [if_neg (show ¬ (6 : Int32) ≤ nI a from nI_ge (b := 6) (by omega) (by omega))]
        simp only [s_kindAt hW hc hD (show j < 1000 by omega), Option.bind_some, if_pos h1, if_neg hkn, nI_1, s_blockAt hW hc hD hb0, s_has N A (show ch j - 65 < 32 by omega)]
        by_cases q : ab k (ch j - 65) = true
        · rw [if_pos q, if_pos ((hA _ (by omega)).mpr q), if_neg z10]
        · rw [if_neg q, if_neg (fun z => q ((hA _ (by omega)).mp z)), if_pos rfl, s_closeOf hB hD (hbn _ hb0).1, e1]
          simp only [Option.bind_some, nI_1]
      show _ = some (oB bn (if ltr (ch j) then (if ab k (ch j - 65) = true then some j else tkf ch mt ab k f (mt (j + 1) + 1)) else none), S)
      rw [if_pos h1]
      by_cases q : ab k (ch j - 65) = true
      · rw [if_pos q] at he ⊢
        exact whl_e he
      · rw [if_neg q] at he ⊢
        rw [whl_s he]
        refine s_takerOf ⟨⟨hW, hc⟩, ⟨hB0, hB, hf0⟩, hsp, hmo, hbn, hkp, hag⟩ hD hA f M (a + 1) _ (by omega) (by omega) (by omega) (fun a ha hl => ?_) ?_
        · have := hb (a + 1) (by omega)
          rw [show skp ch mt (a + 1) j = skp ch mt a (mt (j + 1) + 1) from if_pos h1] at this
          exact this hl
        · rw [show skp ch mt (f + 1) j = skp ch mt f (mt (j + 1) + 1) from if_pos h1] at hn
          exact hn
    · refine whl_e ?_
      unfold bfX5_takerOf_5
      rw [if_neg (show ¬ (6 : Int32) ≤ nI a from nI_ge (b := 6) (by omega) (by omega))]
      simp only [s_kindAt hW hc hD (show j < 1000 by omega), Option.bind_some, if_neg h1, if_pos]
      rw [show tkf ch mt ab k (f + 1) j = none from if_neg h1]; rfl
theorem s_behind (hK : TK n B ch mt bn fs kp ag) (hD : TD m n B ch mt bn fs kp ag S) : ∀ (f M a j : Nat), a + f = 6 → f < M → j < 900 → (∀ a, a < f → ltr (ch (skp ch mt a j)) → ch (skp ch mt a j + 1) = 123) → ¬ ltr (ch (skp ch mt f j)) → whl M (bfX5_behindTakers_4 N m) (nI j, nI a, S) = some (nI (skp ch mt f j), S)
  | f, 0, _, _, _, hM, _, _, _ => absurd hM (by omega)
  | 0, M + 1, a, j, ha, _, hj, _, hn => by
    obtain rfl : a = 6 := by omega
    refine whl_e ?_
    unfold bfX5_behindTakers_4
    rw [if_pos (show (6 : Int32) ≤ nI 6 by decide)]
    rfl
  | f + 1, M + 1, a, j, ha, hM, hj, hb, hn => by
    obtain ⟨⟨hW, hc⟩, ⟨hB0, hB, hf0⟩, hsp, hmo, hbn, hkp, hag⟩ := hK
    by_cases h1 : ltr (ch j)
    · have hb0 : ch (j + 1) = 123 := hb 0 (by omega) h1
      have hbr := hW.br hb0
      have h60 := hW.1
      have e1 : enp n mt (fs (bn (j + 1))) = mt (j + 1) := by rw [(hbn _ hb0).2]; unfold enp; rw [if_neg (by omega), Nat.add_sub_cancel]
      have hkn : ¬ (nI (ch j - 65) = -1) := by rw [nI_m1 (by omega)]; exact id
      have he : bfX5_behindTakers_4 N m (nI j, nI a, S) = some (.inl (nI (mt (j + 1) + 1), nI (a + 1), S)) := by
        unfold bfX5_behindTakers_4
        rw [if_neg (show ¬ (6 : Int32) ≤ nI a from nI_ge (b := 6) (by omega) (by omega))]
        simp only [s_kindAt hW hc hD (show j < 1000 by omega), Option.bind_some, if_pos h1, if_neg hkn, nI_1, s_blockAt hW hc hD hb0, s_closeOf hB hD (hbn _ hb0).1, e1]
      rw [whl_s he, show skp ch mt (f + 1) j = skp ch mt f (mt (j + 1) + 1) from if_pos h1]
      refine s_behind ⟨⟨hW, hc⟩, ⟨hB0, hB, hf0⟩, hsp, hmo, hbn, hkp, hag⟩ hD f M (a + 1) _ (by omega) (by omega) (by omega) (fun a ha hl => ?_) ?_
      · have := hb (a + 1) (by omega)
        rw [show skp ch mt (a + 1) j = skp ch mt a (mt (j + 1) + 1) from if_pos h1] at this
        exact this hl
      · rw [show skp ch mt (f + 1) j = skp ch mt f (mt (j + 1) + 1) from if_pos h1] at hn
        exact hn
    · rw [show skp ch mt (f + 1) j = j from if_neg h1]
      refine whl_e ?_
      unfold bfX5_behindTakers_4
      rw [if_neg (show ¬ (6 : Int32) ≤ nI a from nI_ge (b := 6) (by omega) (by omega))]
      simp only [s_kindAt hW hc hD (show j < 1000 by omega), Option.bind_some, if_neg h1, if_pos]
/-- the row while an ending is gone through -/
def psc (f : Nat → Nat) (a : Nat) (v : Nat → Nat) (w m c : Nat) : Nat := min (f c) (min (if c / 4 = w ∧ c % 4 < m then sat a (v (c % 4)) else 1000) (if c / 4 ≠ 0 ∧ c < m then sat a (v c) else 1000))
theorem psc_le {f : Nat → Nat} (hf : ∀ c, f c ≤ 1000) (a : Nat) (v : Nat → Nat) (w m c : Nat) : psc f a v w m c ≤ 1000 := Nat.le_trans (Nat.min_le_left _ _) (hf c)
theorem psc_0 {f : Nat → Nat} (hf : ∀ c, f c ≤ 1000) (a : Nat) (v : Nat → Nat) (w c : Nat) : psc f a v w 0 c = f c := by
  unfold psc
  rw [if_neg (by omega), if_neg (by omega)]
  have := hf c
  omega
theorem psc_32 {f : Nat → Nat} (a : Nat) (sp tk t : Nat) (τ : Nat → Nat → Nat → Nat → Nat) {c0 c : Nat} (ht : c0 % 4 = t) (hc : c < 32) : psc f a (τ sp tk t) (c0 / 4) 32 c = min (f c) (sat a (emx τ sp tk c0 c)) := by
  unfold psc emx
  rw [ht, sat_comm a (min _ _), sat_min, sat_comm _ a, sat_comm _ a]
  congr 1
  congr 1
  · by_cases q : c / 4 = c0 / 4
    · rw [if_pos ⟨q, by omega⟩, if_pos q]
    · rw [if_neg (fun z => q z.1), if_neg q, sat_top']
  · by_cases q : c / 4 ≠ 0
    · rw [if_pos ⟨q, hc⟩, if_pos q]
    · rw [if_neg (fun z => q z.1), if_neg q, sat_top']
theorem s_end (hN : 60 < N) {R w a : Nat} (hR : R + 32 ≤ 23808) (hw : w < 8) (ha : a ≤ 1000) {v f : Nat → Nat} (hv : ∀ c, v c ≤ 1000) (hf : ∀ c, f c ≤ 1000) (hF : Cr 34 f S) (hV : ∀ c, c < 32 → S.1 30 (R + c) = eC (v c)) : WP (fX2_end N (nI R) (nI w) (eC a) S) (fun S' => Fr [34] S S' ∧ Cr 34 (fun c => psc f a v w 32 c) S') := by
  unfold fX2_end
  by_cases q : 1000 ≤ a
  · have e : fX2_end_3 N (nI R) (nI w) (eC a) (0, S) = some S := by
      unfold fX2_end_3
      obtain ⟨N', rfl⟩ : ∃ N', N = N' + 1 := ⟨N - 1, by omega⟩
      refine whl_e ?_
      unfold bfX2_end_3
      rw [if_neg (show ¬ (8 : Int32) ≤ 0 by decide), if_pos (eC_ge.mpr q)]
    refine WP.beq e (WP.ret ⟨Fr.refl _ _, fun c hc => ?_⟩)
    rw [hF c hc]
    refine congrArg eC ?_
    show f c = psc f a v w 32 c
    unfold psc
    rw [sat_t (Or.inl q), sat_t (Or.inl q)]
    have := hf c
    split <;> split <;> omega
  · refine WP.bnd (P := fun S' => Fr [34] S S' ∧ Cr 34 (fun c => psc f a v w 32 c) S') ?_ (fun y hy => WP.ret hy)
    let J : Nat → St → Prop := fun m T => Fr [34] S T ∧ Cr 34 (fun c => psc f a v w m c) T
    unfold fX2_end_3
    refine WP.fr1 8 N (fun o T => J (o * 4) T) (by omega) ?_ ?_ 0 (by omega) ⟨Fr.refl _ _, fun c hc => by rw [hF c hc]; exact congrArg eC (psc_0 hf a v w c).symm⟩
    · intro p T hp hJ
      have key : ∀ g : Nat, g < 8 → (p = 0 → g = w) → (p ≠ 0 → g = p) → WP (fX2_end_27 N (nI R) (nI w) (eC a) (nI p) (nI g) T) (fun z => ∃ S', z = .inl (nI (p + 1), S') ∧ J ((p + 1) * 4) S') := by
        intro g hg hg0 hg1
        unfold fX2_end_27
        refine WP.bnd (P := fun T' => J ((p + 1) * 4) T') ?_ (fun y hy => WP.ret ⟨y, by rw [nI_1], hy⟩)
        unfold fX2_end_32
        refine WP.fr1 4 N (fun u T' => J (p * 4 + u) T') (by omega) ?_ ?_ 0 (by omega) hJ
        · rintro u T1 hu ⟨j1, j2⟩
          unfold bfX2_end_32
          refine WP.no (nI_ge (a := u) (b := 4) hu (by omega)) ?_
          refine WP.beq (s_cell (R := R) (w := p) (t := u) (by omega)) ?_
          try dsimp only
          rw [j1.2 30 (by decide), hV _ (by omega), nI_x4, nI_add, eC_add]
          have b1 := eCn_b a
          have b2 := eCn_b (v (p * 4 + u))
          have bf := hf (g * 4 + u)
          have bs := sat_le a (v (p * 4 + u))
          refine WP.bnd (s_lower (a := 34) (i := g * 4 + u) (old := psc f a v w (p * 4 + u) (g * 4 + u)) (by show g * 4 + u < 32; omega) (by decide) (by omega) (psc_le hf a v w _ _) (j2 _ (by omega))) (fun T2 g2 => WP.ret ⟨T2, by rw [nI_1], j1.trans g2.1, fun c hc => ?_⟩)
          show _ = eC (psc f a v w (p * 4 + (u + 1)) c)
          by_cases z : c = g * 4 + u
          · rw [z, g2.2.1, cap_2 ha (hv _)]
            refine congrArg eC ?_
            have hd : (g * 4 + u) / 4 = g := by omega
            have hmm : (g * 4 + u) % 4 = u := by omega
            unfold psc
            rw [hd, hmm]
            by_cases p0 : p = 0
            · have hgw := hg0 p0
              subst p0
              rw [if_neg (show ¬ (g = w ∧ u < 0 * 4 + u) by omega), if_pos (show g = w ∧ u < 0 * 4 + (u + 1) from ⟨hgw, by omega⟩)]
              rw [if_neg (show ¬ (g ≠ 0 ∧ g * 4 + u < 0 * 4 + u) by omega), if_neg (show ¬ (g ≠ 0 ∧ g * 4 + u < 0 * 4 + (u + 1)) by omega)]
              rw [show 0 * 4 + u = u by omega] at bs ⊢
              omega
            · have hgp := hg1 p0
              subst hgp
              rw [if_neg (show ¬ (g ≠ 0 ∧ g * 4 + u < g * 4 + u) by omega), if_pos (show g ≠ 0 ∧ g * 4 + u < g * 4 + (u + 1) from ⟨p0, by omega⟩)]
              have bs2 := sat_le a (v u)
              by_cases w1 : g = w
              · rw [if_pos ⟨w1, by omega⟩, if_pos ⟨w1, by omega⟩]
                omega
              · rw [if_neg (fun y => w1 y.1), if_neg (fun y => w1 y.1)]
                omega
          · rw [g2.2.2 c z, j2 c hc]
            refine congrArg eC ?_
            show psc f a v w (p * 4 + u) c = _
            unfold psc
            congr 1
            congr 1
            · by_cases w1 : c / 4 = w
              · by_cases p0 : p = 0
                · have hgw := hg0 p0
                  subst p0
                  have : c % 4 ≠ u := by omega
                  by_cases w2 : c % 4 < 0 * 4 + u
                  · rw [if_pos ⟨w1, w2⟩, if_pos ⟨w1, by omega⟩]
                  · rw [if_neg (fun y => w2 y.2), if_neg (by omega)]
                · rw [if_pos ⟨w1, by omega⟩, if_pos ⟨w1, by omega⟩]
              · rw [if_neg (fun y => w1 y.1), if_neg (fun y => w1 y.1)]
            · by_cases w1 : c / 4 ≠ 0
              · have : c ≠ p * 4 + u := by
                  by_cases p0 : p = 0
                  · omega
                  · have := hg1 p0; omega
                by_cases w2 : c < p * 4 + u
                · rw [if_pos ⟨w1, w2⟩, if_pos ⟨w1, by omega⟩]
                · rw [if_neg (fun y => w2 y.2), if_neg (by omega)]
              · rw [if_neg (fun y => w1 y.1), if_neg (fun y => w1 y.1)]
        · intro T1 hJ1
          unfold bfX2_end_32
          refine WP.yes (show (4 : Int32) ≤ nI 4 by decide) (WP.ret ⟨_, rfl, ?_⟩)
          rw [show (p + 1) * 4 = p * 4 + 4 by omega]; exact hJ1
      unfold bfX2_end_3
      refine WP.no (nI_ge (a := p) (b := 8) hp (by omega)) (WP.no (fun z => q (eC_ge.mp z)) ?_)
      try dsimp only
      by_cases p0 : p = 0
      · exact WP.yes (by rw [p0]; rfl) (key w hw (fun _ => rfl) (fun y => absurd p0 y))
      · exact WP.no (nI_ne0 (by omega) (by omega)) (key p hp (fun y => absurd y p0) (fun _ => rfl))
    · intro T hJ
      unfold bfX2_end_3
      exact WP.yes (show (8 : Int32) ≤ nI 8 by decide) (WP.ret ⟨_, rfl, hJ⟩)
end C4
