/-! ===== what comes to pass, in the second program ===== -/
section CP2
variable {N : Nat} {nF : Nat → Nat} {cF mF : Nat → Nat → Nat} {ab : Nat → Nat → Bool} {S : St}
theorem s_ctp (hN : 900000 < N) (hW : ∀ r, r < 8 → WF (cF r) (mF r) (nF r) ∧ ∀ i, cF r i < 256) (h : RC nF cF mF ab S) {r : Nat} (hr : r < 8) {l2 l3 : Int32} {hb : Nat → Nat → Prop} {lb : Nat → Prop} (h1 : ∀ p k, p < 1000 → k < 6 → (hb p k ↔ l2 = nI p ∧ l3 = nI k)) (h2 : ∀ k, k < 6 → (lb k ↔ l2 = -1 ∧ l3 = nI k)) :
    WP (fX8_comesToPass N (nI r) l2 l3 S) (fun z => RP S z.2 ∧ RC nF cF mF ab z.2 ∧ z.1 = bP (Mtb hb lb (cF r) (mF r) ab (nF r) (Xs (Fx nF cF mF ab)) 0 0 0)) := by
  unfold fX8_comesToPass
  refine WP.bnd (s_runs' hN hW h) (fun S1 ⟨g1, g2, g3⟩ => ?_)
  have f2 : FrJ [19, 20] [] S1 (st_i (st_i S1 128 19 l2) 128 20 l3) := ((FrJ.refl _ _ S1).m (by decide)).m (by decide)
  have e19 : (st_i (st_i S1 128 19 l2) 128 20 l3).1 128 19 = l2 := by rw [si_ni _ _ (by omega), si_at]
  have e20 : (st_i (st_i S1 128 19 l2) 128 20 l3).1 128 20 = l3 := si_at _ _ _ _
  generalize st_i (st_i S1 128 19 l2) 128 20 l3 = S2 at f2 e19 e20 ⊢
  have hX : RX r (nF r) (cF r) (mF r) ab (Xs (Fx nF cF mF ab)) S2 := ((g2.1 r hr).mv f2 ⟨by decide, by decide, by decide, by decide⟩).X (fun x hx => by rw [f2.2.1 141 (by decide) (by decide)]; exact g3 x hx)
  have hM : RM hb lb S2 := by
    unfold RM
    rw [e19, e20]
    exact ⟨h1, h2⟩
  refine WP.bnd (s_goes (by omega) ⟨hr, (hW r hr).1, (hW r hr).2, fun x => itr_le (Fx_le nF cF mF ab) 896 x⟩ hX hM) (fun S3 ⟨g4, g5⟩ => ?_)
  have g6 := (g5 0 0 0 (Or.inl rfl) (by omega) (by omega)).2
  have f4 : FrJ [19, 20] [] S3 (st_i (st_i S3 128 19 (-1)) 128 20 (-1)) := ((FrJ.refl _ _ S3).m (by decide)).m (by decide)
  have e19' : (st_i (st_i S3 128 19 (-1)) 128 20 (-1)).1 128 19 = -1 := by rw [si_ni _ _ (by omega), si_at]
  have e20' : (st_i (st_i S3 128 19 (-1)) 128 20 (-1)).1 128 20 = -1 := si_at _ _ _ _
  generalize st_i (st_i S3 128 19 (-1)) 128 20 (-1) = S4 at f4 e19' e20' ⊢
  have hmet : fX8_metOf N 0 0 0 S4 = some (bP (Mtb hb lb (cF r) (mF r) ab (nF r) (Xs (Fx nF cF mF ab)) 0 0 0), S4) := by
    have e140 : S4.1 140 0 = bP (Mtb hb lb (cF r) (mF r) ab (nF r) (Xs (Fx nF cF mF ab)) 0 0 0) := by
      rw [f4.2.1 140 (by decide) (by decide)]; exact g6
    have c0 : Int32.toNatClampNeg ((((0 : Int32) * 7 + 0) * 4) + 0) = 0 := by decide
    unfold fX8_metOf
    rw [if_neg (show ¬ ((((0 : Int32) * 7 + 0) * 4) + 0 < 0 ∨ 1708 ≤ Int32.toNatClampNeg ((((0 : Int32) * 7 + 0) * 4) + 0)) by decide), c0, e140, if_pos (bP_01 _)]
  rw [hmet]
  simp only [Option.bind_some]
  rw [if_pos (bP_01 _)]
  have ff : ∀ j, j ∉ [23, 28, 29] → S4.1 128 j = S.1 128 j := fun j hj => by
    by_cases q19 : j = 19
    · rw [q19, e19', h.2.1.1]
    · by_cases q20 : j = 20
      · rw [q20, e20', h.2.1.2]
      · have n1 : j ∉ [19, 20] := by simp [q19, q20]
        have n2 : j ∉ [23, 28] := fun z => hj (by simp at z ⊢; omega)
        rw [f4.2.2 j n1, g4.2.2 j n2, f2.2.2 j n1, g1.2.2 j hj]
  have fc : ∀ c, c ∉ rnA → c ≠ 128 → S4.1 c = S.1 c := fun c hc h8 => by
    have n1 : c ∉ 139 :: 140 :: mkA := fun z => hc (by unfold rnA mkA at *; simp at z ⊢; omega)
    rw [f4.2.1 c (by simp) h8, g4.2.1 c n1 h8, f2.2.1 c (by simp) h8, g1.2.1 c hc h8]
  have hRP : RP S S4 := ⟨by rw [f4.1, g4.1, f2.1, g1.1], fc, ff⟩
  refine WP.ret ⟨hRP, ⟨fun q hq => (h.1 q hq).mv hRP ⟨by decide, by decide, by decide, by decide⟩, ⟨e19', e20'⟩, ?_⟩, rfl⟩
  have e29 : S4.1 128 29 = S1.1 128 29 := by rw [f4.2.2 29 (by decide), g4.2.2 29 (by decide), f2.2.2 29 (by decide)]
  have e141 : S4.1 141 = S1.1 141 := by rw [f4.2.1 141 (by decide) (by decide), g4.2.1 141 (by decide) (by decide), f2.2.1 141 (by decide) (by decide)]
  rw [e29, e141]
  exact g2.2.2
/-- lost -/
def vLo (nF : Nat → Nat) (cF mF : Nat → Nat → Nat) (ab : Nat → Nat → Bool) (r : Nat) (v : Int32) : Prop := ∀ x, x < 32 → (bt v x = true ↔ x < 6 ∧ Mtb (fun _ _ => False) (fun k => k = x) (cF r) (mF r) ab (nF r) (Xs (Fx nF cF mF ab)) 0 0 0)
theorem r_lost (hN : 900000 < N) (hW : ∀ r, r < 8 → WF (cF r) (mF r) (nF r) ∧ ∀ i, cF r i < 256) (h : RC nF cF mF ab S) {r : Nat} (hr : r < 8) : WP (fX8_lost N (nI r) S) (fun z => RP S z.2 ∧ RC nF cF mF ab z.2 ∧ vLo nF cF mF ab r z.1) := by
  unfold fX8_lost fX8_lost_13
  rw [s_r81 N S hr]
  simp only [Option.bind_some, if_neg z10]
  refine WP.bnd (P := fun z => RP S z.2 ∧ RC nF cF mF ab z.2 ∧ vLo nF cF mF ab r z.1) ?_ (fun z hz => WP.ret hz)
  refine WP.fr2 6 N (fun i a T => RP S T ∧ RC nF cF mF ab T ∧ ∀ x, x < 32 → (bt a x = true ↔ x < i ∧ Mtb (fun _ _ => False) (fun k => k = x) (cF r) (mF r) ab (nF r) (Xs (Fx nF cF mF ab)) 0 0 0)) (by omega) (fun i a T hi hJ => ?_) (fun a T hJ => ?_) (a := 0) (S := S) 0 (by omega) ⟨FrJ.refl _ _ _, h, fun x _ => by rw [b_0]; simp⟩
  · obtain ⟨j1, j2, j3⟩ := hJ
    unfold bfX8_lost_13 fX8_lost_35
    dsimp only
    rw [if_neg (show ¬ (6 : Int32) ≤ nI i from nI_ge (b := 6) (by omega) (by omega)), show nI i + 1 = nI (i + 1) from nI_add i 1]
    refine WP.bnd (s_ctp (hb := fun _ _ => False) (lb := fun k => k = i) hN hW j2 hr (fun p k hp hk => ⟨fun z => z.elim, fun z => ?_⟩) (fun k hk => ?_)) (fun z ⟨g1, g2, g3⟩ => ?_)
    · have := z.1.symm
      rw [nI_m1 (by omega)] at this
      exact this
    · exact ⟨fun z => ⟨rfl, by rw [z]⟩, fun z => ((nI_eq (by omega) (by omega)).mp z.2).symm⟩
    · by_cases q : Mtb (fun _ _ => False) (fun k => k = i) (cF r) (mF r) ab (nF r) (Xs (Fx nF cF mF ab)) 0 0 0
      · rw [g3, bP_1 q, if_neg z10]
        refine WP.ret ⟨_, _, rfl, j1.trans g1, g2, fun x hx => ?_⟩
        rw [b_or, b_one (by omega) hx, Bool.or_eq_true, decide_eq_true_iff, j3 x hx]
        constructor
        · rintro (⟨z1, z2⟩ | z)
          · exact ⟨by omega, z2⟩
          · subst z; exact ⟨by omega, q⟩
        · rintro ⟨z1, z2⟩
          rcases Nat.lt_or_ge x i with w | w
          · exact Or.inl ⟨w, z2⟩
          · exact Or.inr (by omega)
      · rw [g3, bP_0 q, if_pos rfl]
        refine WP.ret ⟨_, _, rfl, j1.trans g1, g2, fun x hx => ?_⟩
        rw [j3 x hx]
        constructor
        · rintro ⟨z1, z2⟩; exact ⟨by omega, z2⟩
        · rintro ⟨z1, z2⟩
          rcases Nat.lt_or_ge x i with w | w
          · exact ⟨w, z2⟩
          · obtain rfl : x = i := by omega
            exact absurd z2 q
  · unfold bfX8_lost_13
    dsimp only
    rw [if_pos (show (6 : Int32) ≤ nI 6 by decide)]
    exact WP.ret ⟨_, rfl, hJ⟩
/-- taken by a taker -/
def vTk (nF : Nat → Nat) (cF mF : Nat → Nat → Nat) (ab : Nat → Nat → Bool) (r q : Nat) (v : Int32) : Prop := ∀ x, x < 32 → (bt v x = true ↔ x < 6 ∧ ab x (cF r q - 65) = true ∧ Mtb (fun p k => p = q ∧ k = x) (fun _ => False) (cF r) (mF r) ab (nF r) (Xs (Fx nF cF mF ab)) 0 0 0)
theorem r_taken (hN : 900000 < N) (hW : ∀ r, r < 8 → WF (cF r) (mF r) (nF r) ∧ ∀ i, cF r i < 256) (h : RC nF cF mF ab S) {r q : Nat} (hr : r < 8) (hq : q < 1000) (hl : ltr (cF r q)) : WP (fX8_takenBy N (nI r) (nI q) S) (fun z => RP S z.2 ∧ RC nF cF mF ab z.2 ∧ vTk nF cF mF ab r q z.1) := by
  unfold fX8_takenBy fX8_takenBy_5
  refine WP.bnd (P := fun z => RP S z.2 ∧ RC nF cF mF ab z.2 ∧ vTk nF cF mF ab r q z.1) ?_ (fun z hz => WP.ret hz)
  refine WP.fr2 6 N (fun i a T => RP S T ∧ RC nF cF mF ab T ∧ ∀ x, x < 32 → (bt a x = true ↔ x < i ∧ ab x (cF r q - 65) = true ∧ Mtb (fun p k => p = q ∧ k = x) (fun _ => False) (cF r) (mF r) ab (nF r) (Xs (Fx nF cF mF ab)) 0 0 0)) (by omega) (fun i a T hi hJ => ?_) (fun a T hJ => ?_) (a := 0) (S := S) 0 (by omega) ⟨FrJ.refl _ _ _, h, fun x _ => by rw [b_0]; simp⟩
  · obtain ⟨j1, j2, j3⟩ := hJ
    have skip : ¬ (ab i (cF r q - 65) = true ∧ Mtb (fun p k => p = q ∧ k = i) (fun _ => False) (cF r) (mF r) ab (nF r) (Xs (Fx nF cF mF ab)) 0 0 0) → ∀ x, x < 32 → (bt a x = true ↔ x < i + 1 ∧ ab x (cF r q - 65) = true ∧ Mtb (fun p k => p = q ∧ k = x) (fun _ => False) (cF r) (mF r) ab (nF r) (Xs (Fx nF cF mF ab)) 0 0 0) := fun hno x hx => by
      rw [j3 x hx]
      constructor
      · rintro ⟨z1, z2⟩; exact ⟨by omega, z2⟩
      · rintro ⟨z1, z2⟩
        rcases Nat.lt_or_ge x i with w | w
        · exact ⟨w, z2⟩
        · obtain rfl : x = i := by omega
          exact absurd z2 hno
    unfold bfX8_takenBy_5 fX8_takenBy_48
    dsimp only
    rw [if_neg (show ¬ (6 : Int32) ≤ nI i from nI_ge (b := 6) (by omega) (by omega)), s_sgY hr (hW r hr).1 (j2.1 r hr) hq]
    simp only [Option.bind_some]
    rw [nI_s65 hl.1, s_isOfy (by omega) (j2.1 r hr) hi (show cF r q - 65 < 6 by omega), show nI i + 1 = nI (i + 1) from nI_add i 1]
    simp only [Option.bind_some]
    by_cases w : ab i (cF r q - 65) = true
    · rw [bP_1 w, if_neg z10]
      refine WP.bnd (s_ctp (hb := fun p k => p = q ∧ k = i) (lb := fun _ => False) hN hW j2 hr (fun p k hp hk => ?_) (fun k hk => ⟨fun z => z.elim, fun z => ?_⟩)) (fun z ⟨g1, g2, g3⟩ => ?_)
      · rw [nI_eq (show q < 2147483648 by omega) (by omega), nI_eq (show i < 2147483648 by omega) (by omega)]
        exact ⟨fun z => ⟨z.1.symm, z.2.symm⟩, fun z => ⟨z.1.symm, z.2.symm⟩⟩
      · have := z.1
        rw [nI_m1 (by omega)] at this
        exact this
      · by_cases y : Mtb (fun p k => p = q ∧ k = i) (fun _ => False) (cF r) (mF r) ab (nF r) (Xs (Fx nF cF mF ab)) 0 0 0
        · rw [g3, bP_1 y, if_neg z10]
          refine WP.ret ⟨_, _, rfl, j1.trans g1, g2, fun x hx => ?_⟩
          rw [b_or, b_one (by omega) hx, Bool.or_eq_true, decide_eq_true_iff, j3 x hx]
          constructor
          · rintro (⟨z1, z2⟩ | z)
            · exact ⟨by omega, z2⟩
            · subst z; exact ⟨by omega, w, y⟩
          · rintro ⟨z1, z2⟩
            rcases Nat.lt_or_ge x i with u | u
            · exact Or.inl ⟨u, z2⟩
            · exact Or.inr (by omega)
        · rw [g3, bP_0 y, if_pos rfl]
          exact WP.ret ⟨_, _, rfl, j1.trans g1, g2, skip (fun z => y z.2)⟩
    · rw [bP_0 w, if_pos rfl]
      exact WP.ret ⟨_, _, rfl, j1, j2, skip (fun z => w z.1)⟩
  · unfold bfX8_takenBy_5
    dsimp only
    rw [if_pos (show (6 : Int32) ≤ nI 6 by decide)]
    exact WP.ret ⟨_, rfl, hJ⟩
end CP2
