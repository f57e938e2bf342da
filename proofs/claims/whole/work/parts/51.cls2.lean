/-! ===== the first program: steps of a row ===== -/
noncomputable def rix (ag : Nat → Prop) (b k s : Nat) : Nat := ((b * 6 + @ite Nat (ag b) (Classical.propDecidable _) k 0) * 4 + s) * 32
theorem rix_lt {ag : Nat → Prop} {b k s : Nat} (hb : b < 31) (hk : k < 6) (hs : s < 4) : rix ag b k s + 32 ≤ 23808 := by
  unfold rix
  split <;> omega
/-- what leaves a block -/
def Gn (g : Nat → Nat) (S : St) : Prop := (∀ c, 4 ≤ c → c < 32 → S.1 33 c = eC (g c)) ∧ ∀ c, c < 4 → S.1 33 c = eC 1000
theorem eC_ge {a : Nat} : (1000000 ≤ eC a) ↔ 1000 ≤ a := by
  have h := eCn_b a
  rw [eC_n, show (1000000 : Int32) = nI 1000000 from rfl, nI_leI (by omega) (by omega)]
  omega
theorem eC_add (a b : Nat) : eC a + eC b = nI (eCn a + eCn b) := by rw [eC_n, eC_n, nI_add]
theorem eC_a1 (a : Nat) : eC a + 1 = nI (eCn a + 1) := by rw [eC_n, nI_1]
theorem nI_x6 (a : Nat) : nI a * 6 = nI (a * 6) := nI_mul a 6
theorem nI_x32 (a : Nat) : nI a * 32 = nI (a * 32) := nI_mul a 32
theorem s_isSet1 (N : Nat) (S : St) {k : Nat} (h : k < 4) : fX7_isSet N (nI k) S = some (1, S) := by
  obtain ⟨h1, h2⟩ := bi_rng h (by omega)
  unfold fX7_isSet
  rw [if_neg h1, if_neg (show ¬ (4 : Int32) ≤ nI k from h2)]; rfl
theorem s_isSet0 (N : Nat) (S : St) {l : Int32} (h : l < 0 ∨ nI 4 ≤ l) : fX7_isSet N l S = some (0, S) := by
  unfold fX7_isSet
  by_cases h1 : l < 0
  · rw [if_pos h1]; rfl
  · rw [if_neg h1, if_pos (show (4 : Int32) ≤ l from h.resolve_left h1)]; rfl
theorem s_isExit1 (N : Nat) (S : St) {k : Nat} (h : k < 7) : fX7_isExit N (nI k) S = some (1, S) := by
  obtain ⟨h1, h2⟩ := bi_rng h (by omega)
  unfold fX7_isExit
  rw [if_neg h1, if_neg (show ¬ (7 : Int32) ≤ nI k from h2)]; rfl
theorem s_isExit0 (N : Nat) (S : St) {l : Int32} (h : l < 0 ∨ nI 7 ≤ l) : fX7_isExit N l S = some (0, S) := by
  unfold fX7_isExit
  by_cases h1 : l < 0
  · rw [if_pos h1]; rfl
  · rw [if_neg h1, if_pos (show (7 : Int32) ≤ l from h.resolve_left h1)]; rfl
theorem s_ecell (N : Nat) (S : St) {r s e t : Nat} (hr : r < 8) (hs : s < 4) (he : e < 7) (ht : t < 4) : fX0_cell N (nI r) (nI s) (nI e) (nI t) S = some (nI ((r * 4 + s) * 28 + (e * 4 + t)), S) := by
  unfold fX0_cell fX0_cell_34 fX0_cell_60
  simp only [s_isRoutine1 N S hr, s_isSet1 N S hs, s_isSet1 N S ht, s_isExit1 N S he, Option.bind_some, if_neg z10, nI_x4, nI_x7, nI_add]
  rw [show ((r * 4 + s) * 7 + e) * 4 + t = (r * 4 + s) * 28 + (e * 4 + t) by omega]
theorem s_fewest (N : Nat) (S : St) {r s e t : Nat} (hr : r < 8) (hs : s < 4) (he : e < 7) (ht : t < 4) : fX0_fewest N (nI r) (nI s) (nI e) (nI t) S = some (S.1 19 ((r * 4 + s) * 28 + (e * 4 + t)), S) := by
  unfold fX0_fewest fX0_fewest_38
  rw [s_ecell N S hr hs he ht]
  simp only [Option.bind_some]
  rw [if_neg (nI_pos (by omega)), if_neg (show ¬ (896 : Int32) ≤ nI _ from nI_ge (b := 896) (by omega) (by omega)), if_neg (nI_in (by omega) (by omega)), nI_cl (by omega)]
section C2
variable {N n B : Nat} {ch mt bn fs kp : Nat → Nat} {ag : Nat → Prop} {S : St}
theorem s_rowOf (hB : B ≤ 31) (h : TD (S.2 10) n B ch mt bn fs kp ag S) {b k s : Nat} (hb : b < B) (hk : k < 6) (hs : s < 4) : fX2_rowOf N (nI b) (nI k) (nI s) S = some (nI (rix ag b k s), S) := by
  unfold fX2_rowOf fX2_rowOf_43
  simp only [s_isBlock hB h hb, s_isKind1 N S hk, s_isSet1 N S hs, s_again hB h hb, Option.bind_some, if_neg z10]
  unfold rix
  by_cases q : ag b
  · rw [if_neg (fun z => bP_eq0.mp z q), if_pos q, nI_x6, nI_add, nI_x4, nI_add, nI_x32]
  · rw [if_pos (bP_0 q), if_neg q, nI_x6, show (0 : Int32) = nI 0 from rfl, nI_add, nI_x4, nI_add, nI_x32]
theorem s_cell {R w t : Nat} (hR : R + (w * 4 + t) < 23808) : fX2_cell N (nI R) (nI w) (nI t) S = some (S.1 30 (R + (w * 4 + t)), S) := by
  unfold fX2_cell fX2_cell_40
  rw [if_neg (nI_pos (by omega)), nI_x4, nI_add, nI_add, if_neg (nI_pos (by omega)), if_neg (show ¬ (23808 : Int32) ≤ nI _ from nI_ge (b := 23808) (by omega) (by omega)), if_neg (nI_in (by omega) (by omega)), nI_cl (by omega), Nat.add_assoc]
theorem s_addRow (hN : 60 < N) {a R x : Nat} (ha : a = 34 ∨ a = 35) (hR : R + 32 ≤ 23808) (hx : x ≤ 1000) {f g : Nat → Nat} (hf : ∀ c, f c ≤ 1000) (hg : ∀ c, g c ≤ 1000) (hF : Cr a f S) (hG : ∀ c, c < 32 → S.1 30 (R + c) = eC (g c)) : WP (fX2_addRow N (nI R) (eC x) a S) (fun S' => Fr [a] S S' ∧ Cr a (fun c => min (f c) (sat x (g c))) S') := by
  have hal : alen a = 32 := by rcases ha with h | h <;> rw [h] <;> rfl
  have ha30 : (30 : Nat) ∉ [a] := by rcases ha with h | h <;> rw [h] <;> decide
  unfold fX2_addRow
  by_cases hx1 : 1000 ≤ x
  · have e : fX2_addRow_3 N (nI R) (eC x) a (0, S) = some S := by
      unfold fX2_addRow_3
      obtain ⟨N', rfl⟩ : ∃ N', N = N' + 1 := ⟨N - 1, by omega⟩
      refine whl_e ?_
      unfold bfX2_addRow_3
      rw [if_neg (show ¬ (32 : Int32) ≤ 0 by decide), if_pos (eC_ge.mpr hx1)]
    refine WP.beq e (WP.ret ⟨Fr.refl _ _, fun c hc => ?_⟩)
    show S.1 a c = eC (min (f c) (sat x (g c)))
    rw [hF c hc, sat_t (Or.inl hx1), Nat.min_eq_left (hf c)]
  · refine WP.bnd (P := fun S' => Fr [a] S S' ∧ Cr a (fun c => min (f c) (sat x (g c))) S') ?_ (fun y hy => WP.ret hy)
    unfold fX2_addRow_3
    refine WP.fr1 32 N (fun i T => Fr [a] S T ∧ ∀ c, c < 32 → T.1 a c = eC (if c < i then min (f c) (sat x (g c)) else f c)) (by omega) ?_ ?_ 0 (by omega) ⟨Fr.refl _ _, fun c hc => by rw [if_neg (by omega)]; exact hF c hc⟩
    · rintro i T hi ⟨t1, t2⟩
      unfold bfX2_addRow_3 fX2_addRow_63
      refine WP.no (nI_ge (a := i) (b := 32) hi (by omega)) (WP.no (fun z => hx1 (eC_ge.mp z)) (WP.no (nI_pos (by omega)) ?_))
      rw [nI_add]
      refine WP.no (nI_ge (b := 23808) (by omega) (by omega)) (WP.ix (by omega) (by omega) ?_)
      try dsimp only
      rw [nI_cl (show R + i < 2147483648 by omega), t1.2 30 ha30, hG i hi]
      by_cases q : 1000 ≤ g i
      · refine WP.yes (eC_ge.mpr q) (WP.ret ⟨T, by rw [nI_1], t1, fun c hc => ?_⟩)
        rw [t2 c hc]
        by_cases w : c = i
        · subst w; rw [if_neg (by omega), if_pos (by omega), sat_t (Or.inr q), Nat.min_eq_left (hf c)]
        · by_cases w2 : c < i
          · rw [if_pos w2, if_pos (by omega)]
          · rw [if_neg w2, if_neg (by omega)]
      · refine WP.no (fun z => q (eC_ge.mp z)) (WP.no ?_ ?_)
        · rintro (z | z)
          · exact nI_pos (by omega) z
          · omega
        rw [eC_add]
        have b1 := eCn_b x
        have b2 := eCn_b (g i)
        refine WP.bnd (s_lower (old := f i) (by omega) (by omega) (by omega) (hf i) (by rw [t2 i hi, if_neg (by omega)])) (fun T1 g1 => WP.ret ⟨T1, by rw [nI_1], t1.trans g1.1, fun c hc => ?_⟩)
        by_cases w : c = i
        · subst w; rw [g1.2.1, cap_2 hx (hg c), if_pos (by omega)]
        · rw [g1.2.2 c w, t2 c hc]
          by_cases w2 : c < i
          · rw [if_pos w2, if_pos (by omega)]
          · rw [if_neg w2, if_neg (by omega)]
    · rintro T ⟨t1, t2⟩
      unfold bfX2_addRow_3
      refine WP.yes (show (32 : Int32) ≤ nI 32 by decide) (WP.ret ⟨_, rfl, t1, fun c hc => ?_⟩)
      rw [t2 c hc, if_pos hc]
theorem s_enter (hN : 60 < N) (hB : B ≤ 31) (hD : TD (S.2 10) n B ch mt bn fs kp ag S) {b k : Nat} (hb : b < B) (hk : k < 6) {h f : Nat → Nat} {g : Nat → Nat → Nat} (hh : ∀ c, h c ≤ 1000) (hf : ∀ c, f c ≤ 1000) (hg : ∀ s c, g s c ≤ 1000) (h4 : R4 31 eC h S) (hF : Cr 34 f S) (hG : ∀ s c, s < 4 → c < 32 → S.1 30 (rix ag b k s + c) = eC (g s c)) : WP (fX2_enter N (nI b) (nI k) S) (fun S' => Fr [34] S S' ∧ Cr 34 (fun c => min (f c) (vm 4 h g c)) S') := by
  unfold fX2_enter
  refine WP.bnd (P := fun S' => Fr [34] S S' ∧ Cr 34 (fun c => min (f c) (vm 4 h g c)) S') ?_ (fun y hy => WP.ret hy)
  unfold fX2_enter_2
  refine WP.fr1 4 N (fun s T => Fr [34] S T ∧ Cr 34 (fun c => min (f c) (mn s (fun u => sat (h u) (g u c)))) T) (by omega) ?_ ?_ 0 (by omega) ⟨Fr.refl _ _, fun c hc => ?_⟩
  · rintro s T hs ⟨t1, t2⟩
    have hD' := hD.mv t1 (by decide)
    rw [← t1.1] at hD'
    unfold bfX2_enter_2
    refine WP.no (nI_ge (a := s) (b := 4) hs (by omega)) ?_
    refine WP.beq (s_rowOf hB hD' hb hk hs) (WP.ix hs (by omega) ?_)
    try dsimp only
    rw [nI_cl (show s < 2147483648 by omega), t1.2 31 (by decide), h4 s hs]
    refine WP.bnd (s_addRow hN (a := 34) (Or.inl rfl) (rix_lt (by omega) hk hs) (hh s) (fun c => Nat.le_trans (Nat.min_le_left _ _) (hf c)) (hg s) t2 (fun c hc => by rw [t1.2 30 (by decide)]; exact hG s c hs hc)) (fun T1 g1 => WP.ret ⟨T1, by rw [nI_1], t1.trans g1.1, fun c hc => ?_⟩)
    rw [g1.2 c hc]
    exact congrArg eC (Nat.min_assoc _ _ _)
  · rintro T ⟨t1, t2⟩
    unfold bfX2_enter_2
    exact WP.yes (show (4 : Int32) ≤ nI 4 by decide) (WP.ret ⟨_, rfl, t1, t2⟩)
  · rw [hF c hc]
    exact congrArg eC (Nat.min_eq_left (hf c)).symm
theorem s_goOn (hN : 60 < N) {a : Nat} (ha : a = 34 ∨ a = 35) {f g : Nat → Nat} (hf : ∀ c, f c ≤ 1000) (hg : ∀ c, g c ≤ 1000) (hF : Cr a f S) (hG : Gn g S) : WP (fX2_goOn N a S) (fun S' => Fr [31, 33] S S' ∧ R4 31 eC f S' ∧ Gn (fun c => min (g c) (f c)) S') := by
  have hal : alen a = 32 := by rcases ha with h | h <;> rw [h] <;> rfl
  have han : a ∉ [31, 33] := by rcases ha with h | h <;> rw [h] <;> decide
  unfold fX2_goOn
  refine WP.bnd (P := fun S' => Fr [31, 33] S S' ∧ R4 31 eC f S' ∧ Gn (fun c => min (g c) (f c)) S') ?_ (fun y hy => WP.ret hy)
  unfold fX2_goOn_2
  refine WP.fr1 32 N (fun i T => Fr [31, 33] S T ∧ (∀ c, c < 4 → c < i → T.1 31 c = eC (f c)) ∧ (∀ c, 4 ≤ c → c < 32 → T.1 33 c = eC (if c < i then min (g c) (f c) else g c)) ∧ ∀ c, c < 4 → T.1 33 c = eC 1000) (by omega) ?_ ?_ 0 (by omega) ⟨Fr.refl _ _, fun c _ hc => absurd hc (by omega), fun c h4 hc => by rw [if_neg (by omega)]; exact hG.1 c h4 hc, hG.2⟩
  · rintro i T hi ⟨t1, t2, t3, t4⟩
    unfold bfX2_goOn_2 fX2_goOn_42
    refine WP.no (nI_ge (a := i) (b := 32) hi (by omega)) ?_
    rw [hal]
    refine WP.no (nI_ge hi (by omega)) ?_
    by_cases q : 4 ≤ i
    · refine WP.yes (nI_le (a := 4) q (by omega)) (WP.ix hi (by omega) ?_)
      try dsimp only
      rw [nI_cl (show i < 2147483648 by omega), t1.2 a han, hF i hi, eC_n]
      have b1 := eCn_b (f i)
      refine WP.bnd (s_lower (a := 33) (old := g i) (by show i < 32; omega) (by decide) (by omega) (hg i) (by rw [t3 i q hi, if_neg (by omega)])) (fun T1 g1 => WP.ret ⟨T1, by rw [nI_1], t1.trans (g1.1.mono (by decide)), fun c h4 hc => ?_, fun c h4 hc => ?_, fun c hc => ?_⟩)
      · rw [g1.1.2 31 (by decide)]; exact t2 c h4 (by omega)
      · by_cases w : c = i
        · subst w; rw [g1.2.1, cap_1 (hf c), if_pos (by omega)]
        · rw [g1.2.2 c w, t3 c h4 hc]
          by_cases w2 : c < i
          · rw [if_pos w2, if_pos (by omega)]
          · rw [if_neg w2, if_neg (by omega)]
      · rw [g1.2.2 c (by omega)]; exact t4 c hc
    · refine WP.no (nI_ge (b := 4) (by omega) (by omega)) (WP.ix hi (by omega) (WP.ix (by omega) (by omega) (WP.ret ⟨_, by rw [nI_1], t1.i (by decide), fun c h4 hc => ?_, fun c h4 hc => ?_, fun c hc => ?_⟩)))
      · try dsimp only
        rw [nI_cl (by omega), si_if]
        by_cases w : c = i
        · rw [if_pos w, t1.2 a han, hF i hi, w]
        · rw [if_neg w]; exact t2 c h4 (by omega)
      · rw [si_nx _ _ (by decide), t3 c h4 hc, if_neg (by omega), if_neg (by omega)]
      · rw [si_nx _ _ (by decide)]; exact t4 c hc
  · rintro T ⟨t1, t2, t3, t4⟩
    unfold bfX2_goOn_2
    refine WP.yes (show (32 : Int32) ≤ nI 32 by decide) (WP.ret ⟨_, rfl, t1, fun c hc => t2 c hc (by omega), fun c h4 hc => ?_, t4⟩)
    rw [t3 c h4 hc, if_pos hc]
theorem s_leaveBy (hN : 60 < N) {w : Nat} (hw : 1 ≤ w) (hw7 : w ≤ 7) {h g : Nat → Nat} (hh : ∀ c, h c ≤ 1000) (hg : ∀ c, g c ≤ 1000) (h4 : R4 31 eC h S) (hG : Gn g S) : WP (fX2_leaveBy N (nI w) S) (fun S' => Fr [31, 33] S S' ∧ R4 31 eC (fun _ => 1000) S' ∧ Gn (fun c => if c / 4 = w then min (g c) (sat (h (c % 4)) 1) else g c) S') := by
  unfold fX2_leaveBy
  refine WP.bnd (P := fun S' => Fr [31, 33] S S' ∧ R4 31 eC (fun _ => 1000) S' ∧ Gn (fun c => if c / 4 = w then min (g c) (sat (h (c % 4)) 1) else g c) S') ?_ (fun y hy => WP.ret hy)
  unfold fX2_leaveBy_2
  refine WP.fr1 4 N (fun t T => Fr [31, 33] S T ∧ (∀ v, v < 4 → T.1 31 v = eC (if v < t then 1000 else h v)) ∧ (∀ c, 4 ≤ c → c < 32 → T.1 33 c = eC (if c / 4 = w ∧ c % 4 < t then min (g c) (sat (h (c % 4)) 1) else g c)) ∧ ∀ c, c < 4 → T.1 33 c = eC 1000) (by omega) ?_ ?_ 0 (by omega) ⟨Fr.refl _ _, fun v hv => by rw [if_neg (by omega)]; exact h4 v hv, fun c h4' hc => by rw [if_neg (by omega)]; exact hG.1 c h4' hc, hG.2⟩
  · rintro t T ht ⟨t1, t2, t3, t4⟩
    unfold bfX2_leaveBy_2
    refine WP.no (nI_ge (a := t) (b := 4) ht (by omega)) (WP.ix ht (by omega) ?_)
    try dsimp only
    rw [nI_cl (show t < 2147483648 by omega), t2 t ht, if_neg (by omega), nI_x4, nI_add, eC_a1]
    have b1 := eCn_b (h t)
    refine WP.bnd (s_lower (a := 33) (i := w * 4 + t) (old := g (w * 4 + t)) (by show w * 4 + t < 32; omega) (by decide) (by omega) (hg _) (by rw [t3 _ (by omega) (by omega), if_neg (by omega)])) (fun T1 g1 => WP.no ?_ (WP.ret ⟨_, by rw [nI_1], (t1.trans (g1.1.mono (by decide))).i (by decide), fun v hv => ?_, fun c h4' hc => ?_, fun c hc => ?_⟩))
    · rintro (z | z)
      · exact nI_pos (by omega) z
      · omega
    · rw [si_if]
      by_cases q : v = t
      · rw [if_pos q, if_pos (by omega)]; rfl
      · rw [if_neg q, g1.1.2 31 (by decide), t2 v hv]
        by_cases q2 : v < t
        · rw [if_pos q2, if_pos (by omega)]
        · rw [if_neg q2, if_neg (by omega)]
    · rw [si_nx _ _ (by decide)]
      by_cases q : c = w * 4 + t
      · subst q
        rw [g1.2.1, cap_i (hh t), if_pos (by omega), show (w * 4 + t) % 4 = t by omega]
      · rw [g1.2.2 c q, t3 c h4' hc]
        by_cases q2 : c / 4 = w ∧ c % 4 < t
        · rw [if_pos q2, if_pos (by omega)]
        · rw [if_neg q2, if_neg (by omega)]
    · rw [si_nx _ _ (by decide), g1.2.2 c (by omega)]; exact t4 c hc
  · rintro T ⟨t1, t2, t3, t4⟩
    unfold bfX2_leaveBy_2
    refine WP.yes (show (4 : Int32) ≤ nI 4 by decide) (WP.ret ⟨_, rfl, t1, fun v hv => ?_, ⟨fun c h4' hc => ?_, t4⟩⟩)
    · rw [t2 v hv, if_pos hv]
    · show _ = eC (if c / 4 = w then min (g c) (sat (h (c % 4)) 1) else g c)
      rw [t3 c h4' hc]
      by_cases q : c / 4 = w
      · rw [if_pos ⟨q, by omega⟩, if_pos q]
      · rw [if_neg (fun z => q z.1), if_neg q]
end C2
