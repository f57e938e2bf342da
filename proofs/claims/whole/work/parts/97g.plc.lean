/-! ===== the places of takers, on both sides ===== -/
section PL
variable {N r n : Nat} {ch mt : Nat → Nat} {ab : Nat → Nat → Bool} {S : St}
theorem s_sgY (hr : r < 8) (hW : WF ch mt n) (h : RY r n ch mt ab S) {i : Nat} (hi : i < 1000) : fX8_signOf N (nI r) (nI i) S = some (nI (ch i), S) := by
  have h60 := hW.1
  unfold fX8_signOf fX8_signOf_29
  rw [if_neg (nI_in hr (by omega)), nI_cl (by omega), h.1]
  by_cases q : i < n
  · rw [if_neg (nI_ge q (by omega)), nI_x60, nI_add, if_neg (nI_in (by omega) (by omega)), nI_cl (by omega), h.2.1 i q]
  · rw [if_pos (nI_le (by omega) (by omega)), hW.2.1 i (by omega)]; rfl
theorem s_shY (hr : r < 8) (hW : WF ch mt n) (h : RY r n ch mt ab S) {q : Nat} (hq : ch q = 123) : fX8_shutOf N (nI r) (nI q) S = some (nI (mt q), S) := by
  have h60 := hW.1
  have hb := hW.br hq
  unfold fX8_shutOf
  rw [nI_x60, nI_add, if_neg (nI_in (by omega) (by omega)), nI_cl (by omega), h.2.2.1 q hq]
theorem s_ltrY {c : Nat} (hc : c < 256) : fX8_isLetter N (nI c) S = some (bP (ltr c), S) := by
  unfold fX8_isLetter fX8_isLetter_17
  by_cases q : c < 65
  · rw [if_pos (show nI c < 65 from (nI_ltI (a := c) (b := 65) (by omega) (by omega)).mpr q), if_pos (Or.inl rfl), bP_0 (by omega)]
  · rw [if_neg (show ¬ nI c < 65 from fun z => q ((nI_ltI (a := c) (b := 65) (by omega) (by omega)).mp z))]
    by_cases q2 : 70 < c
    · rw [if_pos (show (70 : Int32) < nI c from (nI_ltI (a := 70) (b := c) (by omega) (by omega)).mpr q2), if_pos (Or.inl rfl), bP_0 (by omega)]
    · rw [if_neg (show ¬ (70 : Int32) < nI c from fun z => q2 ((nI_ltI (a := 70) (b := c) (by omega) (by omega)).mp z)), if_pos (Or.inr rfl), bP_1 (by omega)]
theorem cT_lt {q : Nat} (h : Tkr ch q) (hq : q < n) : cT ch q < cT ch n := by
  have := cT_mono (ch := ch) (show q + 1 ≤ n by omega)
  have := cT_y (ch := ch) (i := q) h
  omega
theorem cT_ex {h : Nat} : ∀ n, h < cT ch n → ∃ q, q < n ∧ Tkr ch q ∧ cT ch q = h
  | 0, hh => by
    have : cT ch 0 = 0 := rfl
    omega
  | n + 1, hh => by
    by_cases w : h < cT ch n
    · obtain ⟨q, h1, h2⟩ := cT_ex n w
      exact ⟨q, by omega, h2⟩
    · by_cases c : Tkr ch n
      · exact ⟨n, by omega, c, by have := cT_y (ch := ch) (i := n) c; omega⟩
      · have : cT ch (n + 1) = cT ch n := cT_n c
        omega
theorem cT_inj {p q : Nat} (hp : Tkr ch p) (hq : Tkr ch q) (h : cT ch p = cT ch q) : p = q := by
  rcases Nat.lt_trichotomy p q with w | w | w
  · have := cT_lt hp w; omega
  · exact w
  · have := cT_lt hq w; omega
def PlV (n : Nat) (ch : Nat → Nat) (h : Nat) (v : Int32) : Prop := (∃ q, q < n ∧ Tkr ch q ∧ cT ch q = h ∧ v = nI q) ∨ (cT ch n ≤ h ∧ v = -1)
theorem s_place (hN : 100 < N) (hr : r < 8) (hW : WF ch (mtp ch) n) (hc : ∀ i, ch i < 256) (h : RY r n ch (mtp ch) ab S) {h' : Nat} (hh : h' < 2147483648) : ∃ v, fX8_placeOf N (nI r) (nI h') S = some (v, S) ∧ PlV n ch h' v := by
  have h60 := hW.1
  have key : ∀ (mm M i : Nat), i + mm = n → mm < M → (∀ q, q < i → Tkr ch q → cT ch q ≠ h') → ∃ v, whl M (bfX8_placeOf_5 N (nI r) (nI h')) (nI (cT ch i), nI i, S) = some (v, S) ∧ PlV n ch h' v := by
    intro mm
    induction mm with
    | zero =>
      intro M i hi hM hno
      obtain ⟨M', rfl⟩ : ∃ M', M = M' + 1 := ⟨M - 1, by omega⟩
      obtain rfl : i = n := by omega
      refine ⟨-1, whl_e ?_, Or.inr ⟨?_, rfl⟩⟩
      · unfold bfX8_placeOf_5
        dsimp only
        rw [if_neg (nI_in hr (by omega)), nI_cl (by omega), h.1, if_pos (nI_le (Nat.le_refl _) (by omega))]
      · rcases Nat.lt_or_ge h' (cT ch i) with w | w
        · obtain ⟨q, q1, q2, q3⟩ := cT_ex i w
          exact absurd q3 (hno q q1 q2)
        · exact w
    | succ mm ih =>
      intro M i hi hM hno
      obtain ⟨M', rfl⟩ : ∃ M', M = M' + 1 := ⟨M - 1, by omega⟩
      have hcn : cT ch i ≤ i := by
        have : ∀ j, cT ch j ≤ j := fun j => by
          induction j with
          | zero => exact Nat.le_refl 0
          | succ j ihj =>
            show cT ch j + (if ltr (ch j) ∧ 0 < j ∧ ch (j - 1) = 125 then 1 else 0) ≤ j + 1
            split <;> omega
        exact this i
      have hlq := hW.lq (show i < n by omega)
      have e1 : fX8_isLetter N (nI (ch i)) S = some (bP (ltr (ch i)), S) := s_ltrY (hc i)
      have ei : nI i + 1 = nI (i + 1) := nI_add i 1
      by_cases q : Tkr ch i
      · have hT := cT_y (ch := ch) (i := i) q
        obtain ⟨l1, l2⟩ := hlq.1.mpr q
        have eb : bfX8_placeOf_5 N (nI r) (nI h') (nI (cT ch i), nI i, S) = fX8_placeOf_48 N (nI r) (nI h') (nI (cT ch i)) (nI i) 1 S := by
          unfold bfX8_placeOf_5
          dsimp only
          rw [if_neg (nI_in hr (by omega)), nI_cl (by omega), h.1, if_neg (nI_ge (show i < n by omega) (by omega)), s_sgY hr hW h (by omega)]
          simp only [Option.bind_some]
          rw [e1, bP_1 l1]
          simp only [Option.bind_some]
          rw [if_neg z10, ei, s_sgY hr hW h (by omega)]
          simp only [Option.bind_some]
          rw [l2, if_pos (show nI 123 = 123 from rfl)]
        by_cases w : cT ch i = h'
        · refine ⟨nI i, whl_e (eb.trans ?_), Or.inl ⟨i, by omega, q, w, rfl⟩⟩
          unfold fX8_placeOf_48
          rw [if_neg z10, if_pos (by rw [w])]
        · have eb2 : bfX8_placeOf_5 N (nI r) (nI h') (nI (cT ch i), nI i, S) = some (.inl (nI (cT ch (i + 1)), nI (i + 1), S)) := by
            rw [eb]
            unfold fX8_placeOf_48 fX8_placeOf_63 fX8_placeOf_74
            rw [if_neg z10, if_neg (fun z => w ((nI_eq (by omega) hh).mp z)), if_neg z10, ei, hT, show nI (cT ch i) + 1 = nI (cT ch i + 1) from nI_add _ 1]
          rw [whl_s eb2]
          refine ih M' (i + 1) (by omega) (by omega) (fun q' hq' ht => ?_)
          rcases Nat.lt_or_ge q' i with v | v
          · exact hno q' v ht
          · obtain rfl : q' = i := by omega
            exact w
      · have hT : cT ch (i + 1) = cT ch i := cT_n q
        have e47 : fX8_placeOf_47 N (nI r) (nI h') (nI (cT ch i)) (nI i) S = some (.inl (nI (cT ch (i + 1)), nI (i + 1), S)) := by
          unfold fX8_placeOf_47 fX8_placeOf_48 fX8_placeOf_63 fX8_placeOf_74
          rw [if_pos rfl, if_pos rfl, ei, hT, show nI (cT ch i) + 0 = nI (cT ch i + 0) from nI_add _ 0]
          rfl
        have eb2 : bfX8_placeOf_5 N (nI r) (nI h') (nI (cT ch i), nI i, S) = some (.inl (nI (cT ch (i + 1)), nI (i + 1), S)) := by
          unfold bfX8_placeOf_5
          dsimp only
          rw [if_neg (nI_in hr (by omega)), nI_cl (by omega), h.1, if_neg (nI_ge (show i < n by omega) (by omega)), s_sgY hr hW h (by omega)]
          simp only [Option.bind_some]
          rw [e1]
          simp only [Option.bind_some]
          by_cases l : ltr (ch i)
          · rw [bP_1 l, if_neg z10, ei, s_sgY hr hW h (by omega)]
            simp only [Option.bind_some]
            have hne : ch (i + 1) ≠ 123 := fun z => q (hlq.1.mp ⟨l, z⟩)
            rw [if_neg (show ¬ nI (ch (i + 1)) = 123 from fun z => hne ((nI_eq (a := ch (i + 1)) (b := 123) (by have := hc (i + 1); omega) (by omega)).mp z))]
            exact e47
          · rw [bP_0 l, if_pos rfl]
            exact e47
        rw [whl_s eb2]
        refine ih M' (i + 1) (by omega) (by omega) (fun q' hq' ht => ?_)
        rcases Nat.lt_or_ge q' i with v | v
        · exact hno q' v ht
        · obtain rfl : q' = i := by omega
          exact absurd ht q
  obtain ⟨v, e, hv⟩ := key n N 0 (by omega) (by omega) (fun q hq => absurd hq (by omega))
  refine ⟨v, ?_, hv⟩
  unfold fX8_placeOf fX8_placeOf_5
  rw [show ((0, 0, S) : Int32 × Int32 × St) = (nI (cT ch 0), nI 0, S) from rfl, e]
  rfl
/-- the takers that a Told holds -/
def TkF (m n : Nat) (ch : Nat → Nat) (S : St) : Prop := S.1 (TA m) 10 = nI (cT ch n) ∧ (∀ q, q < n → Tkr ch q → S.1 (TA m + 8) (cT ch q) = nI q) ∧ 3 * cT ch n ≤ n
theorem r_takers (hN : 100 < N) (hr : r < 8) (hW : WF ch (mtp ch) n) (hc : ∀ i, ch i < 256) (h : RY r n ch (mtp ch) ab S) (h3 : 3 * cT ch n ≤ n) : fX8_takers N (nI r) S = some (nI (cT ch n), S) := by
  have h60 := hW.1
  unfold fX8_takers fX8_takers_11
  rw [s_r81 N S hr]
  simp only [Option.bind_some, if_neg z10]
  have key : ∀ (mm M k : Nat), k + mm = cT ch n → mm < M → whl M (bfX8_takers_11 N (nI r)) (nI k, S) = some (nI (cT ch n), S) := by
    intro mm
    induction mm with
    | zero =>
      intro M k hk hM
      obtain ⟨M', rfl⟩ : ∃ M', M = M' + 1 := ⟨M - 1, by omega⟩
      obtain rfl : k = cT ch n := by omega
      obtain ⟨v, e, hv⟩ := s_place (h' := cT ch n) hN hr hW hc h (by omega)
      refine whl_e ?_
      unfold bfX8_takers_11
      dsimp only
      rw [e]
      simp only [Option.bind_some]
      rcases hv with ⟨q, q1, q2, q3, _⟩ | ⟨_, hv⟩
      · have := cT_lt q2 q1; omega
      · rw [if_pos hv]
    | succ mm ih =>
      intro M k hk hM
      obtain ⟨M', rfl⟩ : ∃ M', M = M' + 1 := ⟨M - 1, by omega⟩
      obtain ⟨v, e, hv⟩ := s_place (h' := k) hN hr hW hc h (by omega)
      have eb : bfX8_takers_11 N (nI r) (nI k, S) = some (.inl (nI (k + 1), S)) := by
        unfold bfX8_takers_11
        dsimp only
        rw [e]
        simp only [Option.bind_some]
        rcases hv with ⟨q, q1, q2, q3, hv⟩ | ⟨hv, _⟩
        · rw [if_neg (by rw [hv, nI_m1 (by omega)]; exact id), show nI k + 1 = nI (k + 1) from nI_add k 1]
        · omega
      rw [whl_s eb]
      exact ih M' (k + 1) (by omega) (by omega)
  rw [show ((0, S) : Int32 × St) = (nI 0, S) from rfl, key (cT ch n) N 0 (by omega) (by omega)]
  rfl
end PL
