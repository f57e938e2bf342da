/-! ===== feed on both sides ===== -/
def shv (j : Nat) : Int32 := if j < 4 then nI (24 - 8 * j) else -8
theorem shv_s : ∀ j, j < 4 → shv j + (-8) = shv (j + 1) ∧ ¬ shv j < 0 := by decide +kernel
def khv (j : Nat) : Int32 := if j < 4 then nI (3 - j) else -1
theorem khv_s : ∀ j, j < 4 → khv j + (-1) = khv (j + 1) ∧ ¬ khv j < 0 ∧ (8 * khv j) = nI (24 - 8 * j) := by decide +kernel
/-- a byte of a word -/
def wb (a : Int32) (j : Nat) : Int32 := (a >>> (nI (24 - 8 * j) &&& 31)) &&& 255
theorem wb_u (a : Int32) {j : Nat} (hj : j < 4) : (Int32.toUInt32 a >>> (Int32.toUInt32 (shv j) &&& Int32.toUInt32 31)).toInt32 &&& 255 = wb a j := by
  have e : shv j = nI (24 - 8 * j) := if_pos hj
  unfold wb
  rw [e]
  apply b_ext
  intro i hi
  rw [b_and, b_and, b_ushr (24 - 8 * j) (by omega), b_sshr (24 - 8 * j) (by omega) a hi, b_255]
  by_cases q : i < 8
  · rw [if_pos (by omega)]
  · simp [q]
section FD
variable {N : Nat} {S : St}
theorem s_add (hN : 60 < N) (a : Int32) {sz : Nat} (hsz : sz + 4 ≤ 80) (h : S.1 1 1 = nI sz) : WP (fX4_add N a S) (fun S' => Fr [1, 2] S S' ∧ (∀ j, j ≠ 1 → S'.1 1 j = S.1 1 j) ∧ S'.1 1 1 = nI (sz + 4) ∧ ∀ i, S'.1 2 i = if sz ≤ i ∧ i < sz + 4 then wb a (i - sz) else S.1 2 i) := by
  unfold fX4_add
  refine WP.bnd (P := fun S' => Fr [1, 2] S S' ∧ (∀ j, j ≠ 1 → S'.1 1 j = S.1 1 j) ∧ S'.1 1 1 = nI (sz + 4) ∧ ∀ i, S'.1 2 i = if sz ≤ i ∧ i < sz + 4 then wb a (i - sz) else S.1 2 i) ?_ (fun y hy => WP.ret hy)
  have key : ∀ (m j M : Nat) (T : St), j + m = 4 → m < M → Fr [1, 2] S T → (∀ j, j ≠ 1 → T.1 1 j = S.1 1 j) → T.1 1 1 = nI (sz + j) → (∀ i, T.1 2 i = if sz ≤ i ∧ i < sz + j then wb a (i - sz) else S.1 2 i) → WP (whl M (bfX4_add_3 N a) (shv j, T)) (fun S' => Fr [1, 2] S S' ∧ (∀ j, j ≠ 1 → S'.1 1 j = S.1 1 j) ∧ S'.1 1 1 = nI (sz + 4) ∧ ∀ i, S'.1 2 i = if sz ≤ i ∧ i < sz + 4 then wb a (i - sz) else S.1 2 i) := by
    intro m
    induction m with
    | zero =>
      intro j M T hj hM t1 t2 t3 t4
      obtain ⟨M', rfl⟩ : ∃ M', M = M' + 1 := ⟨M - 1, by omega⟩
      obtain rfl : j = 4 := by omega
      exact WP.eq (whl_e (y := T) (if_pos (show shv 4 < 0 by decide))) ⟨t1, t2, t3, t4⟩
    | succ m ih =>
      intro j M T hj hM t1 t2 t3 t4
      obtain ⟨M', rfl⟩ : ∃ M', M = M' + 1 := ⟨M - 1, by omega⟩
      obtain ⟨e1, e2⟩ := shv_s j (by omega)
      have e : bfX4_add_3 N a (shv j, T) = some (.inl (shv (j + 1), st_i (st_i T 2 (sz + j) (wb a j)) 1 1 (nI (sz + j + 1)))) := by
        unfold bfX4_add_3
        try dsimp only
        rw [if_neg e2, t3, if_neg (show ¬ (80 : Int32) ≤ nI (sz + j) from nI_ge (b := 80) (by omega) (by omega)), if_neg (nI_in (by omega) (by omega)), nI_cl (by omega), wb_u a (by omega), si_nx _ _ (show (1 : Nat) ≠ 2 by decide), t3, nI_1, e1]
      rw [whl_s e]
      refine ih (j + 1) M' _ (by omega) (by omega) ((t1.i (by decide)).i (by decide)) (fun i hi => ?_) (by rw [si_at, Nat.add_assoc]) (fun i => ?_)
      · rw [si_ni _ _ hi, si_nx _ _ (by decide)]; exact t2 i hi
      · rw [si_nx _ _ (by decide), si_if]
        by_cases q : i = sz + j
        · rw [if_pos q, if_pos (by omega), q, show sz + j - sz = j by omega]
        · rw [if_neg q, t4 i]
          by_cases w : sz ≤ i ∧ i < sz + j
          · rw [if_pos w, if_pos (by omega)]
          · rw [if_neg w, if_neg (by omega)]
  unfold fX4_add_3
  exact key 4 0 N S (by omega) (by omega) (Fr.refl _ _) (fun _ _ => rfl) h (fun i => by rw [if_neg (by omega)])
theorem s_types (hN : 60 < N) (a : Int32) {sz : Nat} (hsz : sz + 4 ≤ 80) (h : S.1 128 4 = nI sz) : WP (fX8_types N a S) (fun S' => Fr [128, 131] S S' ∧ (∀ j, j ≠ 4 → S'.1 128 j = S.1 128 j) ∧ S'.1 128 4 = nI (sz + 4) ∧ ∀ i, S'.1 131 i &&& 255 = if sz ≤ i ∧ i < sz + 4 then wb a (i - sz) else S.1 131 i &&& 255) := by
  unfold fX8_types
  refine WP.bnd (P := fun S' => Fr [128, 131] S S' ∧ (∀ j, j ≠ 4 → S'.1 128 j = S.1 128 j) ∧ S'.1 128 4 = nI (sz + 4) ∧ ∀ i, S'.1 131 i &&& 255 = if sz ≤ i ∧ i < sz + 4 then wb a (i - sz) else S.1 131 i &&& 255) ?_ (fun y hy => WP.ret hy)
  have key : ∀ (m j M : Nat) (T : St), j + m = 4 → m < M → Fr [128, 131] S T → (∀ j, j ≠ 4 → T.1 128 j = S.1 128 j) → T.1 128 4 = nI (sz + j) → (∀ i, T.1 131 i &&& 255 = if sz ≤ i ∧ i < sz + j then wb a (i - sz) else S.1 131 i &&& 255) → WP (whl M (bfX8_types_2 N a) (khv j, T)) (fun S' => Fr [128, 131] S S' ∧ (∀ j, j ≠ 4 → S'.1 128 j = S.1 128 j) ∧ S'.1 128 4 = nI (sz + 4) ∧ ∀ i, S'.1 131 i &&& 255 = if sz ≤ i ∧ i < sz + 4 then wb a (i - sz) else S.1 131 i &&& 255) := by
    intro m
    induction m with
    | zero =>
      intro j M T hj hM t1 t2 t3 t4
      obtain ⟨M', rfl⟩ : ∃ M', M = M' + 1 := ⟨M - 1, by omega⟩
      obtain rfl : j = 4 := by omega
      exact WP.eq (whl_e (y := T) (if_pos (show khv 4 < 0 by decide))) ⟨t1, t2, t3, t4⟩
    | succ m ih =>
      intro j M T hj hM t1 t2 t3 t4
      obtain ⟨M', rfl⟩ : ∃ M', M = M' + 1 := ⟨M - 1, by omega⟩
      obtain ⟨e1, e2, e3⟩ := khv_s j (by omega)
      have e : bfX8_types_2 N a (khv j, T) = some (.inl (khv (j + 1), st_i (st_i T 131 (sz + j) (Int8.toInt32 (Int32.toInt8 (Int8.toInt32 (Int32.toInt8 (a >>> (nI (24 - 8 * j) &&& 31))))))) 128 4 (nI (sz + j + 1)))) := by
        unfold bfX8_types_2
        try dsimp only
        rw [if_neg e2, t3, if_neg (nI_in (by omega) (by omega)), nI_cl (by omega), e3, si_nx _ _ (show (128 : Nat) ≠ 131 by decide), t3, nI_1, e1]
      rw [whl_s e]
      refine ih (j + 1) M' _ (by omega) (by omega) ((t1.i (by decide)).i (by decide)) (fun i hi => ?_) (by rw [si_at, Nat.add_assoc]) (fun i => ?_)
      · rw [si_ni _ _ hi, si_nx _ _ (by decide)]; exact t2 i hi
      · rw [si_nx _ _ (by decide), si_if]
        by_cases q : i = sz + j
        · rw [if_pos q, if_pos (by omega), q, show sz + j - sz = j by omega, bp_b, bp_b]; rfl
        · rw [if_neg q, t4 i]
          by_cases w : sz ≤ i ∧ i < sz + j
          · rw [if_pos w, if_pos (by omega)]
          · rw [if_neg w, if_neg (by omega)]
  unfold fX8_types_2
  exact key 4 0 N S (by omega) (by omega) (Fr.refl _ _) (fun _ _ => rfl) h (fun i => by rw [if_neg (by omega)])
/-- the tape, as both have it -/
def Tp (sz : Nat) (S : St) : Prop := sz ≤ 80 ∧ S.1 1 1 = nI sz ∧ S.1 128 4 = nI sz ∧ ∀ i, i < sz → S.1 2 i = S.1 131 i &&& 255
def fdF (S S' : St) : Prop := S'.2 = S.2 ∧ (∀ c, c ∉ [1, 2, 128, 131] → S'.1 c = S.1 c) ∧ (∀ j, j ≠ 1 → S'.1 1 j = S.1 1 j) ∧ ∀ j, j ≠ 4 → S'.1 128 j = S.1 128 j
theorem st_feed (hN : 60 < N) {sz : Nat} (h : Tp sz S) (a b c d e : Int32) : ∃ v S1 S2, fX7_feed N a b c d e S = some (v, S1) ∧ fX8_feed N a b c d e S1 = some (v, S2) ∧ fdF S S2 ∧ ∃ sz', Tp sz' S2 := by
  obtain ⟨h0, h1, h2, h3⟩ := h
  by_cases q : sz + 20 ≤ 80
  · obtain ⟨A1, ea1, fa1, ga1, ha1, ia1⟩ := s_add (N := N) (S := S) hN a (sz := sz) (by omega) h1
    obtain ⟨A2, ea2, fa2, ga2, ha2, ia2⟩ := s_add (N := N) (S := A1) hN b (sz := sz + 4) (by omega) ha1
    obtain ⟨A3, ea3, fa3, ga3, ha3, ia3⟩ := s_add (N := N) (S := A2) hN c (sz := sz + 4 + 4) (by omega) ha2
    obtain ⟨A4, ea4, fa4, ga4, ha4, ia4⟩ := s_add (N := N) (S := A3) hN d (sz := sz + 4 + 4 + 4) (by omega) ha3
    obtain ⟨A5, ea5, fa5, ga5, ha5, ia5⟩ := s_add (N := N) (S := A4) hN e (sz := sz + 4 + 4 + 4 + 4) (by omega) ha4
    have fA : Fr [1, 2] S A5 := (((fa1.trans fa2).trans fa3).trans fa4).trans fa5
    have h2' : A5.1 128 4 = nI sz := by rw [fA.2 128 (by decide)]; exact h2
    obtain ⟨B1, eb1, fb1, gb1, hb1, ib1⟩ := s_types (N := N) (S := A5) hN a (sz := sz) (by omega) h2'
    obtain ⟨B2, eb2, fb2, gb2, hb2, ib2⟩ := s_types (N := N) (S := B1) hN b (sz := sz + 4) (by omega) hb1
    obtain ⟨B3, eb3, fb3, gb3, hb3, ib3⟩ := s_types (N := N) (S := B2) hN c (sz := sz + 4 + 4) (by omega) hb2
    obtain ⟨B4, eb4, fb4, gb4, hb4, ib4⟩ := s_types (N := N) (S := B3) hN d (sz := sz + 4 + 4 + 4) (by omega) hb3
    obtain ⟨B5, eb5, fb5, gb5, hb5, ib5⟩ := s_types (N := N) (S := B4) hN e (sz := sz + 4 + 4 + 4 + 4) (by omega) hb4
    have fB : Fr [128, 131] A5 B5 := (((fb1.trans fb2).trans fb3).trans fb4).trans fb5
    have hle : (nI sz + 20) ≤ 80 := by
      rw [show (20 : Int32) = nI 20 from rfl, nI_add]; exact nI_le (b := 80) q (by omega)
    refine ⟨nI (sz + 4 + 4 + 4 + 4 + 4), A5, B5, ?_, ?_, ⟨fB.1.trans fA.1, fun x hx => ?_, fun j hj => ?_, fun j hj => ?_⟩, sz + 4 + 4 + 4 + 4 + 4, by omega, ?_, hb5, fun i hi => ?_⟩
    · unfold fX7_feed fX4_size
      simp only [Option.bind_some]
      rw [h1, if_pos hle, ea1]
      simp only [Option.bind_some, ea2, ea3, ea4, ea5, ha5]
    · unfold fX8_feed
      rw [h2', if_pos hle, eb1]
      simp only [Option.bind_some, eb2, eb3, eb4, eb5, hb5]
    · rw [fB.2 x (fun z => hx (by simp at z ⊢; omega)), fA.2 x (fun z => hx (by simp at z ⊢; omega))]
    · rw [fB.2 1 (by decide), ga5 j hj, ga4 j hj, ga3 j hj, ga2 j hj, ga1 j hj]
    · rw [gb5 j hj, gb4 j hj, gb3 j hj, gb2 j hj, gb1 j hj, fA.2 128 (by decide)]
    · rw [fB.2 1 (by decide)]; exact ha5
    · rw [fB.2 2 (by decide), ib5, ib4, ib3, ib2, ib1, ia5, ia4, ia3, ia2, ia1, fA.2 131 (by decide)]
      by_cases w5 : sz + 4 + 4 + 4 + 4 ≤ i ∧ i < sz + 4 + 4 + 4 + 4 + 4
      · rw [if_pos w5, if_pos w5]
      rw [if_neg w5, if_neg w5]
      by_cases w4 : sz + 4 + 4 + 4 ≤ i ∧ i < sz + 4 + 4 + 4 + 4
      · rw [if_pos w4, if_pos w4]
      rw [if_neg w4, if_neg w4]
      by_cases w3 : sz + 4 + 4 ≤ i ∧ i < sz + 4 + 4 + 4
      · rw [if_pos w3, if_pos w3]
      rw [if_neg w3, if_neg w3]
      by_cases w2 : sz + 4 ≤ i ∧ i < sz + 4 + 4
      · rw [if_pos w2, if_pos w2]
      rw [if_neg w2, if_neg w2]
      by_cases w1 : sz ≤ i ∧ i < sz + 4
      · rw [if_pos w1, if_pos w1]
      rw [if_neg w1, if_neg w1]
      exact h3 i (by omega)
  · have hle : ¬ (nI sz + 20) ≤ 80 := by
      rw [show (20 : Int32) = nI 20 from rfl, nI_add]; exact nI_ge (a := 80) (by omega) (by omega)
    refine ⟨-1, S, S, ?_, ?_, ⟨rfl, fun _ _ => rfl, fun _ _ => rfl, fun _ _ => rfl⟩, sz, h0, h1, h2, h3⟩
    · unfold fX7_feed fX4_size
      simp only [Option.bind_some]
      rw [h1, if_neg hle]
    · unfold fX8_feed
      rw [h2, if_neg hle]
end FD
