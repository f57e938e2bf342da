/-! ===== telling a text: parts ===== -/
theorem and255 (x : Int32) : ∃ c, c < 256 ∧ x &&& 255 = nI c := by
  refine ⟨(x &&& 255).toBitVec.toNat, ?_, ?_⟩
  · rw [Int32.toBitVec_and, BitVec.toNat_and]
    exact Nat.lt_of_le_of_lt Nat.and_le_right (by decide)
  · apply Int32.toBitVec_inj.mp
    show _ = (Int32.ofNat (x &&& 255).toBitVec.toNat).toBitVec
    rw [Int32.toBitVec_ofNat', BitVec.ofNat_toNat, BitVec.setWidth_eq]
section WX
variable {hb : Nat → Nat → Prop} {lb : Nat → Prop} {ch mt : Nat → Nat} {ab : Nat → Nat → Bool} {n : Nat}
theorem wme_congr4 (hW : WF ch mt n) {U U' : Nat → Nat → Nat → Nat} {M M' : Nat → Nat → Prop} {e : Nat} : ∀ (m p : Nat) (z : (Nat → Nat) × (Nat → Nat)), Wlk ch mt p e → (∀ i, p ≤ i → i < e → OkS ch mt i e → ∀ t, t < 4 → U i t = U' i t ∧ (M i t → M' i t)) → wme U M (nxt ch mt) m p e z → wme U' M' (nxt ch mt) m p e z
  | 0, _, _, _, _, h => h
  | m + 1, p, z, hw, h, hm => by
    obtain ⟨h1, h2⟩ := hm
    rcases hw.cases with k | ⟨k1, k2, k3⟩
    · omega
    · have h0 := h p (Nat.le_refl _) h1 k2
      have hgt := (nxt_ok hW k2).1
      refine ⟨h1, ?_⟩
      rcases h2 with ⟨t, ht, h3, h4⟩ | h2
      · exact Or.inl ⟨t, ht, h3, (h0 t ht).2 h4⟩
      · refine Or.inr ?_
        have e1 : wst (U' p) z = wst (U p) z := by
          have e2 : ∀ c, vm 4 z.1 (U' p) c = vm 4 z.1 (U p) c := fun c => vm_congr (fun _ _ => rfl) (fun t ht => by rw [(h0 t ht).1])
          unfold wst
          refine Prod.ext (funext fun c => e2 c) (funext fun c => ?_)
          show min (z.2 c) (vm 4 z.1 (U' p) c) = min (z.2 c) (vm 4 z.1 (U p) c)
          rw [e2]
        rw [e1]
        exact wme_congr4 hW m (nxt ch mt p) _ k3 (fun i i1 i2 i3 => h i (by omega) i2 i3) h2
theorem mun_mono {τ : Nat → Nat → Nat → Nat → Nat} {μ μ' : Nat → Nat → Nat → Prop} {i tk t : Nat} (h : ∀ q, sbr ch mt i q → ∀ tk s, μ (q + 1) tk s → μ' (q + 1) tk s) (hm : mun hb lb ch mt ab τ μ tk i t) : mun hb lb ch mt ab τ μ' tk i t := by
  rcases hm with ⟨h1, h2⟩ | ⟨h1, u, h2, h3, h4⟩ | ⟨h1, h2⟩
  · rcases h2 with h2 | h2
    · exact Or.inl ⟨h1, Or.inl (h (i + 1) (Or.inl ⟨h1, Or.inl rfl⟩) tk t h2)⟩
    · exact Or.inl ⟨h1, Or.inr (h (mt (i + 1) + 1) (Or.inl ⟨h1, Or.inr rfl⟩) tk t h2)⟩
  · exact Or.inr (Or.inl ⟨h1, u, h2, h3, h (i + 1) (Or.inr (Or.inl ⟨h1, rfl⟩)) tk u h4⟩)
  · refine Or.inr (Or.inr ⟨h1, ?_⟩)
    rcases h2 with (h2 | ⟨c, p, h2, h3, h4, h5⟩) | ⟨hz, c, h2, h3, h4⟩
    · exact Or.inl (Or.inl (h (i + 1) (Or.inr (Or.inr ⟨h1, Or.inl rfl⟩)) tk t h2))
    · refine Or.inl (Or.inr ⟨c, p, h2, h3, h4, h5.imp id (fun z => ?_)⟩)
      obtain ⟨_, _, r, hr, he, hl, _⟩ := tko_sp h3
      exact h (p + 1) (Or.inr (Or.inr ⟨h1, Or.inr (Or.inl ⟨r, hr, by rw [← he]; exact hl, by rw [← he]⟩)⟩)) _ _ z
    · exact Or.inr ⟨hz, c, h2, h3, h4.imp (fun z => h _ (Or.inr (Or.inr ⟨h1, Or.inr (Or.inr ⟨hz, rfl⟩)⟩)) _ _ z) id⟩
theorem Mtb_X (hW : WF ch mt n) {X X' : Nat → Nat} (h : ∀ p, p < 8 → clb ch p → ∀ y, p * 112 ≤ y → y < p * 112 + 112 → X y = X' y) : ∀ (m sp : Nat), 61 ≤ m + sp → spt ch sp → ∀ tk s, Mtb hb lb ch mt ab n X sp tk s → Mtb hb lb ch mt ab n X' sp tk s := by
  intro m
  induction m with
  | zero => exact fun sp h1 h2 _ _ => absurd (spt_le hW h2) (by omega)
  | succ m ih =>
    intro sp h1 h2 tk s hm
    rw [Mtb_eq hW X h2] at hm
    rw [Mtb_eq hW X' h2]
    unfold rowM at hm ⊢
    refine wme_congr4 hW 61 sp (z0 s) (hW.sp h2).1 (fun i i1 i2 i3 t ht => ⟨?_, fun g => ?_⟩) hm
    · funext c
      have et : ∀ q, sbr ch mt i q → ∀ tk s c, Tab ch mt ab n X (q + 1) tk s c = Tab ch mt ab n X' (q + 1) tk s c := fun q hq tk s c => by
        rw [Tab_X hW h 61 (q + 1) (by omega) (sbr_sp hW i3 hq)]
      by_cases q64 : ch i = 64
      · have h64 : 97 ≤ ch (i + 1) ∧ ch (i + 1) ≤ 104 := by
          rcases i3 with w | w | w | w | w | w | w
          · have := w.1; omega
          · exact ⟨w.2.1, w.2.2.1⟩
          · have := w.1; omega
          · have := w.1; omega
          · have := w.1; omega
          · have := w.1; omega
          · have := w.1; omega
        rw [un_64 q64, un_64 q64]
        by_cases qc : c < 28
        · rw [if_pos qc, if_pos qc, h (ch (i + 1) - 97) (by omega) ⟨i, q64, by omega⟩ _ (by omega) (by omega)]
        · rw [if_neg qc, if_neg qc]
      · exact un_congr hW i3 (fun z => absurd z q64) et tk t c
    · have hsub : ∀ q, sbr ch mt i q → 61 ≤ m + (q + 1) ∧ spt ch (q + 1) := fun q hq => by
        have := sbr_ok hW i3 hq
        exact ⟨by omega, sbr_sp hW i3 hq⟩
      have e1 : ∀ q, sbr ch mt i q → Tab ch mt ab n X (q + 1) = Tab ch mt ab n X' (q + 1) := fun q hq => Tab_X hW h 61 (q + 1) (by omega) (hsub q hq).2
      rw [mun_congr (hb := hb) (lb := lb) (ab := ab) hW i3 (τ' := Tab ch mt ab n X') (μ' := Mtb hb lb ch mt ab n X) e1 (fun _ _ => rfl) tk t] at g
      exact mun_mono (fun q hq tk s z => ih (q + 1) (hsub q hq).1 (hsub q hq).2 tk s z) g
end WX
section CPY
variable {N m n : Nat} {ch : Nat → Nat} {S : St}
theorem s_copy (hN : 100 < N) (hn : n ≤ 60) {sz : Nat} (hsz : sz ≤ 80) (hns : n ≤ sz) (h1 : S.1 1 1 = nI sz) (hch : ∀ i, i < n → S.1 2 i = nI (ch i)) : WP (fX5_copy N m (nI n) S) (fun T => Fr [TA m, TA m + 1] S T ∧ T.1 (TA m) 1 = nI n ∧ (∀ i, i < n → T.1 (TA m + 1) i = nI (ch i)) ∧ T.1 (TA m) 8 = 0 ∧ T.1 (TA m) 10 = 0 ∧ T.1 (TA m) 11 = 0) := by
  have h01 : TA m ≠ 1 := TA_ne m 0 (by omega) (by simp)
  have h02 : TA m ≠ 2 := TA_ne m 0 (by omega) (by simp)
  have h11 : TA m + 1 ≠ 1 := TA_ne m 1 (by omega) (by simp)
  have h12 : TA m + 1 ≠ 2 := TA_ne m 1 (by omega) (by simp)
  unfold fX5_copy fX5_copy_7
  refine WP.bnd (P := fun T => Fr [TA m, TA m + 1] S T ∧ T.1 (TA m) 1 = nI n ∧ ∀ i, i < n → T.1 (TA m + 1) i = nI (ch i)) ?_ (fun T ⟨g1, g2, g3⟩ => WP.ret ⟨?_, ?_, fun i hi => ?_, ?_, ?_, ?_⟩)
  · refine WP.fr1 n N (fun i T => Fr [TA m, TA m + 1] S T ∧ T.1 (TA m) 1 = nI i ∧ ∀ j, j < i → T.1 (TA m + 1) j = nI (ch j)) (by omega) (fun i T hi hJ => ?_) (fun T hJ => ?_) 0 (by omega) ⟨(Fr.refl _ S).i (by simp), si_at _ _ _ _, fun j hj => absurd hj (by omega)⟩
    · obtain ⟨j1, j2, j3⟩ := hJ
      have e1 : T.1 1 = S.1 1 := j1.2 1 (fun z => by simp at z; omega)
      have e2 : T.1 2 = S.1 2 := j1.2 2 (fun z => by simp at z; omega)
      have eat : fX4_at N (nI i) T = some (nI (ch i), T) := by
        unfold fX4_at fX4_at_31
        rw [if_neg (nI_pos (by omega)), e1, h1, if_neg (nI_ge (by omega) (by omega)), if_neg (show ¬ (80 : Int32) ≤ nI i from nI_ge (b := 80) (by omega) (by omega)), if_neg (nI_in (show i < 80 by omega) (by omega)), nI_cl (by omega), e2, hch i hi]
      unfold bfX5_copy_7
      dsimp only
      rw [if_neg (nI_ge hi (by omega)), if_neg (show ¬ (60 : Int32) ≤ nI i from nI_ge (b := 60) (by omega) (by omega)), eat]
      simp only [Option.bind_some]
      rw [if_neg (nI_in (show i < 60 by omega) (by omega)), nI_cl (by omega), si_nx _ _ (show TA m ≠ TA m + 1 by omega), j2, show nI i + 1 = nI (i + 1) from nI_add i 1]
      refine WP.ret ⟨_, rfl, (j1.i (by simp)).i (by simp), si_at _ _ _ _, fun j hj => ?_⟩
      rw [si_nx _ _ (by omega), si_if]
      by_cases w : j = i
      · rw [if_pos w, w]
      · rw [if_neg w]; exact j3 j (by omega)
    · unfold bfX5_copy_7
      dsimp only
      rw [if_pos (nI_le (Nat.le_refl _) (by omega))]
      exact WP.ret ⟨T, rfl, hJ⟩
  · exact ((g1.i (by simp)).i (by simp)).i (by simp)
  · rw [si_ni _ _ (by omega), si_ni _ _ (by omega), si_ni _ _ (by omega)]; exact g2
  · rw [si_nx _ _ (by omega), si_nx _ _ (by omega), si_nx _ _ (by omega)]; exact g3 i hi
  · rw [si_ni _ _ (by omega), si_ni _ _ (by omega), si_at]
  · rw [si_ni _ _ (by omega), si_at]
  · rw [si_at]
/-- the routines that come to r -/
def cTo (S : St) (r q : Nat) : Prop := q = r ∨ bt (cAll (clS S) 8 (clS S q)) r = true
theorem s_forget (hN : 100 < N) {r : Nat} (hr : r < 8) : WP (fX7_forget N (nI r) S) (fun T => Fr [0] S T ∧ (∀ j, j ≠ 11 → j ≠ 12 → T.1 0 j = S.1 0 j) ∧ (∀ q, q < 8 → (bt (T.1 0 11) q = true ↔ bt (S.1 0 11) q = true ∧ ¬ cTo S r q)) ∧ ∀ q, q < 8 → (bt (T.1 0 12) q = true ↔ bt (S.1 0 12) q = true ∧ ¬ cTo S r q)) := by
  have bx : ∀ (a b : Int32) (i : Nat), i < 32 → (bt (a &&& (b ^^^ (-1))) i = true ↔ bt a i = true ∧ ¬ bt b i = true) := fun a b i hi => by
    rw [b_and, b_xor, b_m1 i hi, Bool.and_eq_true]
    cases bt b i <;> simp
  unfold fX7_forget fX7_forget_6
  refine WP.bnd (P := fun T => Fr [0] S T ∧ (∀ j, j ≠ 11 → j ≠ 12 → T.1 0 j = S.1 0 j) ∧ (∀ q, q < 8 → (bt (T.1 0 11) q = true ↔ bt (S.1 0 11) q = true ∧ ¬ cTo S r q)) ∧ ∀ q, q < 8 → (bt (T.1 0 12) q = true ↔ bt (S.1 0 12) q = true ∧ ¬ cTo S r q)) ?_ (fun T hT => WP.ret hT)
  refine WP.fr2 8 N (fun i a T => T = S ∧ ∀ q, q < 8 → (bt a q = true ↔ q = r ∨ (q < i ∧ bt (cAll (clS S) 8 (clS S q)) r = true))) (by omega) (fun i a T hi hJ => ?_) (fun a T hJ => ?_) (a := 1 <<< (nI r &&& 31)) (S := S) 0 (by omega) ⟨rfl, fun q hq => by rw [b_one (by omega) (by omega), decide_eq_true_iff]; simp⟩
  · obtain ⟨rfl, hJ⟩ := hJ
    unfold bfX7_forget_6 fX7_forget_30
    dsimp only
    rw [if_neg (show ¬ (8 : Int32) ≤ nI i from nI_ge (b := 8) (by omega) (by omega)), s_comesTo (by omega) hi]
    simp only [Option.bind_some]
    rw [s_has N _ (show r < 32 by omega), show nI i + 1 = nI (i + 1) from nI_add i 1]
    simp only [Option.bind_some]
    by_cases w : bt (cAll (clS T) 8 (clS T i)) r = true
    · rw [if_pos w, if_neg z10]
      refine WP.ret ⟨_, _, rfl, rfl, fun q hq => ?_⟩
      rw [b_or, b_one (by omega) (by omega), Bool.or_eq_true, decide_eq_true_iff, hJ q hq]
      constructor
      · rintro ((z | ⟨z1, z2⟩) | z)
        · exact Or.inl z
        · exact Or.inr ⟨by omega, z2⟩
        · subst z; exact Or.inr ⟨by omega, w⟩
      · rintro (z | ⟨z1, z2⟩)
        · exact Or.inl (Or.inl z)
        · rcases Nat.lt_or_ge q i with y | y
          · exact Or.inl (Or.inr ⟨y, z2⟩)
          · exact Or.inr (by omega)
    · rw [if_neg w, if_pos rfl]
      refine WP.ret ⟨_, _, rfl, rfl, fun q hq => ?_⟩
      rw [hJ q hq]
      constructor
      · rintro (z | ⟨z1, z2⟩)
        · exact Or.inl z
        · exact Or.inr ⟨by omega, z2⟩
      · rintro (z | ⟨z1, z2⟩)
        · exact Or.inl z
        · rcases Nat.lt_or_ge q i with y | y
          · exact Or.inr ⟨y, z2⟩
          · obtain rfl : q = i := by omega
            exact absurd z2 w
  · obtain ⟨rfl, hJ⟩ := hJ
    unfold bfX7_forget_6
    dsimp only
    rw [if_pos (show (8 : Int32) ≤ nI 8 by decide)]
    have hc : ∀ q, q < 8 → (bt a q = true ↔ cTo T r q) := fun q hq => by
      rw [hJ q hq]
      unfold cTo
      constructor
      · exact fun z => z.imp id And.right
      · exact fun z => z.imp id (fun y => ⟨hq, y⟩)
    refine WP.ret ⟨_, rfl, ((Fr.refl _ T).i (by simp)).i (by simp), fun j h1 h2 => by rw [si_ni _ _ h2, si_ni _ _ h1], fun q hq => ?_, fun q hq => ?_⟩
    · rw [si_ni _ _ (by omega), si_at, bx _ _ q (by omega), hc q hq]
    · rw [si_at, si_ni _ _ (by omega), bx _ _ q (by omega), hc q hq]
end CPY
