/-! ===== telling a text, in the second program ===== -/
def TyN (a p : Nat) (S T : St) : Prop := FrJ [4, 5, 6, 7, 8, 15] A4 S T ∧ T.1 128 5 = nI a ∧ T.1 128 6 = nI p ∧ T.1 128 4 = 0
def TyY (n r : Nat) (ch : Nat → Nat) (S T : St) : Prop := FrJ [4, 5, 6, 7, 8, 15, 29] [132, 133, 134, 135, 136, 137, 138] S T ∧ (T.1 128 5 = 0 ∧ T.1 128 6 = -1 ∧ T.1 128 4 = 0 ∧ T.1 128 29 = 0) ∧ (∀ x, T.1 133 x = if x = r then nI n else S.1 133 x) ∧ (∀ i, i < n → T.1 132 (60 * r + i) = Int8.toInt32 (Int32.toInt8 (S.1 131 i))) ∧ (∀ x, (x < 60 * r ∨ 60 * r + n ≤ x) → T.1 132 x = S.1 132 x) ∧ (∀ q, q < n → ch q = 123 → T.1 134 (60 * r + q) = nI (mtp ch q)) ∧ ∀ x, (x < 60 * r ∨ 60 * r + n ≤ x) → T.1 134 x = S.1 134 x
theorem r_text {N r n sz : Nat} {ch : Nat → Nat} {S : St} (hN : 300 < N) (hr : r < 8) (hn : n ≤ 60) (hz : ∀ q, n ≤ q → ch q = 0) (hc : ∀ i, ch i < 256) (hsz : sz ≤ 80) (hns : n ≤ sz) (h4 : S.1 128 4 = nI sz) (hch : ∀ i, i < n → S.1 131 i &&& 255 = nI (ch i)) {res : Nat ⊕ (Nat × Nat)} (hres : pr n ch 40 0 0 0 false false = some res) :
    ∃ v S1, fX8_text N (nI r) (nI n) S = some (v, S1) ∧ match res with
      | .inl j => (j = n → v = 0 ∧ TyY n r ch S S1) ∧ (j < n → ch j = 125 → v = 100 * nI 1 + nI j ∧ TyN 1 j S S1)
      | .inr x => v = 100 * nI x.1 + nI x.2 ∧ TyN x.1 x.2 S S1 := by
  have hS : SK n ch := ⟨hn, hz, hc⟩
  have f0 : FrJ [5, 6, 7, 8, 15] [] S (st_i (st_i (st_i (st_i (st_i S 128 5 0) 128 6 (-1)) 128 7 0) 128 8 (nI n)) 128 15 0) := (((((FrJ.refl _ _ S).m (by decide)).m (by decide)).m (by decide)).m (by decide)).m (by decide)
  have e5 : (st_i (st_i (st_i (st_i (st_i S 128 5 0) 128 6 (-1)) 128 7 0) 128 8 (nI n)) 128 15 0).1 128 5 = 0 := by rw [si_ni _ _ (by omega), si_ni _ _ (by omega), si_ni _ _ (by omega), si_ni _ _ (by omega), si_at]
  have e6 : (st_i (st_i (st_i (st_i (st_i S 128 5 0) 128 6 (-1)) 128 7 0) 128 8 (nI n)) 128 15 0).1 128 6 = -1 := by rw [si_ni _ _ (by omega), si_ni _ _ (by omega), si_ni _ _ (by omega), si_at]
  have e7 : (st_i (st_i (st_i (st_i (st_i S 128 5 0) 128 6 (-1)) 128 7 0) 128 8 (nI n)) 128 15 0).1 128 7 = 0 := by rw [si_ni _ _ (by omega), si_ni _ _ (by omega), si_at]
  have e8 : (st_i (st_i (st_i (st_i (st_i S 128 5 0) 128 6 (-1)) 128 7 0) 128 8 (nI n)) 128 15 0).1 128 8 = nI n := by rw [si_ni _ _ (by omega), si_at]
  have e15 : (st_i (st_i (st_i (st_i (st_i S 128 5 0) 128 6 (-1)) 128 7 0) 128 8 (nI n)) 128 15 0).1 128 15 = 0 := si_at _ _ _ _
  have ehead : fX8_text N (nI r) (nI n) S = (whl N (bT N (nI r) (nI n)) (1, st_i (st_i (st_i (st_i (st_i S 128 5 0) 128 6 (-1)) 128 7 0) 128 8 (nI n)) 128 15 0)).bind (fun y8 => (if y8.1 = 0 then fX8_text_101 N (nI r) (nI n) y8.1 y8.2 else (if (y8.2.1 128 15) ≤ 0 then fX8_text_101 N (nI r) (nI n) y8.1 y8.2 else (fX8_wrong N 1 (y8.2.1 128 8) y8.2).bind (fun q10 => fX8_text_101 N (nI r) (nI n) q10.1 q10.2)))) := by
    unfold fX8_text
    rw [if_neg (nI_pos (by omega)), if_neg (show ¬ (8 : Int32) ≤ nI r from nI_ge (b := 8) (by omega) (by omega)), if_neg (nI_pos (by omega)), if_neg (show ¬ (60 : Int32) < nI n from fun z => by have := (nI_ltI (a := 60) (b := n) (by omega) (by omega)).mp z; omega), h4, if_pos (nI_le hns (by omega))]
    rfl
  rw [ehead]
  generalize st_i (st_i (st_i (st_i (st_i S 128 5 0) 128 6 (-1)) 128 7 0) 128 8 (nI n)) 128 15 0 = R at f0 e5 e6 e7 e8 e15 ⊢
  have hMP : MP n ch 0 0 R := ⟨e7, e8, e15, fun q hq => by rw [f0.2.1 131 (by decide) (by decide)]; exact hch q hq⟩
  have hmB := mB (l1 := nI r) (l2 := nI n) (N := N) (by omega) hS 40 0 0 0 false R (Or.inl ⟨rfl, Nat.zero_le _⟩) hMP (by omega) ⟨fun z => (by cases z), fun ⟨k, z1, z2, _⟩ => (by omega)⟩
  rw [hres] at hmB
  -- a refusal
  have neg : ∀ (a p : Nat) (V : St), whl N (bT N (nI r) (nI n)) (1, R) = some (0, V) → FrJ [5, 6, 7, 15] A4 R V → V.1 128 5 = nI a → V.1 128 6 = nI p → ∃ v S1, ((whl N (bT N (nI r) (nI n)) (1, R)).bind (fun y8 => (if y8.1 = 0 then fX8_text_101 N (nI r) (nI n) y8.1 y8.2 else (if (y8.2.1 128 15) ≤ 0 then fX8_text_101 N (nI r) (nI n) y8.1 y8.2 else (fX8_wrong N 1 (y8.2.1 128 8) y8.2).bind (fun q10 => fX8_text_101 N (nI r) (nI n) q10.1 q10.2))))) = some (v, S1) ∧ v = 100 * nI a + nI p ∧ TyN a p S S1 := fun a p V h1 h2 h3 h5 => by
    rw [h1]
    simp only [Option.bind_some]
    rw [if_pos trivial]
    unfold fX8_text_101
    rw [if_pos rfl]
    refine ⟨_, _, rfl, by rw [si_ni _ _ (by omega), si_ni _ _ (by omega), h3, h5], ⟨?_, fun c hc h8 => ?_, fun j hj => ?_⟩, by rw [si_ni _ _ (by omega)]; exact h3, by rw [si_ni _ _ (by omega)]; exact h5, si_at _ _ _ _⟩
    · show V.2 = S.2
      rw [h2.1, f0.1]
    · rw [si_nx _ _ h8, h2.2.1 c hc h8, f0.2.1 c (by simp) h8]
    · have n4 : j ≠ 4 := fun z => hj (by rw [z]; decide)
      have n1 : j ∉ [5, 6, 7, 15] := fun z => hj (by simp at z ⊢; omega)
      have n2 : j ∉ [5, 6, 7, 8, 15] := fun z => hj (by simp at z ⊢; omega)
      rw [si_ni _ _ n4, h2.2.2 j n1, f0.2.2 j n2]
  cases res with
  | inr x =>
    obtain ⟨k, V, hk, hf, hV⟩ := hmB.2 x.1 x.2 rfl
    rcases hV with ⟨hw, h5, h6⟩ | ⟨hw, ha, hp, h5, h6, d', hd1, hd2, hd3⟩
    · have hw := hw (N - k - 1)
      rw [show N - k - 1 + k + 1 = N by omega] at hw
      exact neg x.1 x.2 V hw hf h5 h6
    · have hw := hw (N - k - 1)
      rw [show N - k - 1 + k + 1 = N by omega] at hw
      rw [hw]
      simp only [Option.bind_some]
      rw [if_neg z10, if_neg (show ¬ V.1 128 15 ≤ 0 by rw [hd3]; exact nI_ge (a := 0) (b := d') (by omega) (by omega))]
      unfold fX8_wrong
      simp only [Option.bind_some]
      unfold fX8_text_101
      rw [if_pos rfl]
      have e8' : V.1 128 8 = nI n := by rw [hf.2.2 8 (by decide)]; exact e8
      rw [e8', ha, hp]
      have q5 : (st_i (st_i (st_i V 128 5 1) 128 6 (nI n)) 128 4 0).1 128 5 = 1 := by rw [si_ni _ _ (show (5 : Nat) ≠ 4 by omega), si_ni _ _ (show (5 : Nat) ≠ 6 by omega), si_at]
      have q6 : (st_i (st_i (st_i V 128 5 1) 128 6 (nI n)) 128 4 0).1 128 6 = nI n := by rw [si_ni _ _ (show (6 : Nat) ≠ 4 by omega), si_at]
      refine ⟨_, _, rfl, by rw [q5, q6]; rfl, ⟨?_, fun c hc h8 => ?_, fun j hj => ?_⟩, by rw [q5]; rfl, q6, si_at _ _ _ _⟩
      · show V.2 = S.2
        rw [hf.1, f0.1]
      · rw [si_nx _ _ h8, si_nx _ _ h8, si_nx _ _ h8, hf.2.1 c hc h8, f0.2.1 c (by simp) h8]
      · have n4 : j ≠ 4 := fun z => hj (by rw [z]; decide)
        have n5 : j ≠ 5 := fun z => hj (by rw [z]; decide)
        have n6 : j ≠ 6 := fun z => hj (by rw [z]; decide)
        have n1 : j ∉ [5, 6, 7, 15] := fun z => hj (by simp at z ⊢; omega)
        have n2 : j ∉ [5, 6, 7, 8, 15] := fun z => hj (by simp at z ⊢; omega)
        rw [si_ni _ _ n4, si_ni _ _ n6, si_ni _ _ n5, hf.2.2 j n1, f0.2.2 j n2]
  | inl j =>
    obtain ⟨R', ⟨k, hk, hw⟩, hMP', hf, hss, hsh⟩ := hmB.1 j rfl
    obtain ⟨pk1, _⟩ := pr_ok hn hz 40 0 0 0 false false j (fun _ => Nat.zero_le _) (fun w => absurd w (by omega)) hres
    have hw := hw (N - k)
    rw [show N - k + k = N by omega] at hw
    by_cases w : j = n
    · subst w
      have ht := t_end (l1 := nI r) (l2 := nI j) (N := N) hMP' hn (N - k - 1)
      rw [show N - k - 1 + 1 = N - k by omega, ← hw] at ht
      rw [ht]
      simp only [Option.bind_some]
      rw [if_neg z10, if_pos (show R'.1 128 15 ≤ 0 by rw [hMP'.2.2.1]; decide)]
      unfold fX8_text_101 fX8_text_133
      rw [if_neg z10, if_neg (nI_in hr (by omega)), nI_cl (by omega)]
      -- the copies
      have g0 : ∀ c, c ≠ 128 → c ≠ 133 → (st_i (st_i R' 128 4 0) 133 r (nI j)).1 c = R'.1 c := fun c c1 c2 => by rw [si_nx _ _ c2, si_nx _ _ c1]
      have key : WP (whl N (bfX8_text_133 N (nI r) (nI j)) (0, st_i (st_i R' 128 4 0) 133 r (nI j))) (fun z => z.1 = 0 ∧ FrJ [29] [132, 134] (st_i (st_i R' 128 4 0) 133 r (nI j)) z.2 ∧ z.2.1 128 29 = 0 ∧ (∀ i, i < j → z.2.1 132 (60 * r + i) = Int8.toInt32 (Int32.toInt8 (R'.1 131 i)) ∧ z.2.1 134 (60 * r + i) = R'.1 135 i) ∧ ∀ x, (x < 60 * r ∨ 60 * r + j ≤ x) → z.2.1 132 x = R'.1 132 x ∧ z.2.1 134 x = R'.1 134 x) := by
        refine WP.fr1 j N (fun i T => FrJ [29] [132, 134] (st_i (st_i R' 128 4 0) 133 r (nI j)) T ∧ (∀ i', i' < i → T.1 132 (60 * r + i') = Int8.toInt32 (Int32.toInt8 (R'.1 131 i')) ∧ T.1 134 (60 * r + i') = R'.1 135 i') ∧ ∀ x, (x < 60 * r ∨ 60 * r + i ≤ x) → T.1 132 x = R'.1 132 x ∧ T.1 134 x = R'.1 134 x) (by omega) (fun i T hi hJ => ?_) (fun T hJ => ?_) 0 (by omega) ⟨FrJ.refl _ _ _, fun i' hi' => absurd hi' (by omega), fun x _ => ⟨by rw [g0 132 (by omega) (by omega)], by rw [g0 134 (by omega) (by omega)]⟩⟩
        · obtain ⟨j1, j2, j3⟩ := hJ
          have e131 : T.1 131 = R'.1 131 := by rw [j1.2.1 131 (by decide) (by decide), g0 131 (by omega) (by omega)]
          have e135 : T.1 135 = R'.1 135 := by rw [j1.2.1 135 (by decide) (by decide), g0 135 (by omega) (by omega)]
          unfold bfX8_text_133
          dsimp only
          rw [if_neg (nI_ge hi (by omega)), if_neg (nI_in (show i < 80 by omega) (by omega)), nI_x60, nI_add, if_neg (nI_in (show 60 * r + i < 480 by omega) (by omega)), if_neg (nI_in (show i < 60 by omega) (by omega)), if_neg (nI_in (show 60 * r + i < 480 by omega) (by omega)), nI_cl (by omega), nI_cl (by omega), si_nx _ _ (show (135 : Nat) ≠ 132 by omega), e131, e135, show nI i + 1 = nI (i + 1) from nI_add i 1]
          refine WP.ret ⟨_, rfl, ⟨j1.1, fun c hc h8 => ?_, fun j' hj' => ?_⟩, fun i' hi' => ?_, fun x hx => ?_⟩
          · have c1 : c ≠ 132 := fun z => hc (by rw [z]; decide)
            have c2 : c ≠ 134 := fun z => hc (by rw [z]; decide)
            rw [si_nx _ _ c2, si_nx _ _ c1]; exact j1.2.1 c hc h8
          · rw [si_nx _ _ (by omega), si_nx _ _ (by omega)]; exact j1.2.2 j' hj'
          · rw [si_if, si_nx _ _ (show (132 : Nat) ≠ 134 by omega), si_if, si_nx _ _ (show (134 : Nat) ≠ 132 by omega)]
            by_cases q : i' = i
            · rw [if_pos (by omega), if_pos (by omega), q]; exact ⟨rfl, rfl⟩
            · rw [if_neg (by omega), if_neg (by omega)]; exact j2 i' (by omega)
          · rw [si_if, si_nx _ _ (show (132 : Nat) ≠ 134 by omega), si_if, si_nx _ _ (show (134 : Nat) ≠ 132 by omega), if_neg (by omega), if_neg (by omega)]
            exact j3 x (by omega)
        · obtain ⟨j1, j2, j3⟩ := hJ
          unfold bfX8_text_133
          dsimp only
          rw [if_pos (nI_le (Nat.le_refl _) (by omega))]
          refine WP.ret ⟨_, rfl, rfl, ⟨j1.1, fun c hc h8 => ?_, fun j' hj' => ?_⟩, si_at _ _ _ _, fun i hi => ?_, fun x hx => ?_⟩
          · rw [si_nx _ _ h8]; exact j1.2.1 c hc h8
          · have : j' ≠ 29 := fun z => hj' (by rw [z]; decide)
            rw [si_ni _ _ this]; exact j1.2.2 j' hj'
          · rw [si_nx _ _ (by omega), si_nx _ _ (by omega)]; exact j2 i hi
          · rw [si_nx _ _ (by omega), si_nx _ _ (by omega)]; exact j3 x hx
      obtain ⟨z, ez, z1, z2, z3, z4, z5⟩ := key
      rw [ez]
      have fSR : ∀ c, c ∉ A4 → c ≠ 128 → R'.1 c = S.1 c := fun c hc h8 => by rw [hf.2.1 c hc h8, f0.2.1 c (by simp) h8]
      refine ⟨_, _, rfl, fun _ => ⟨z1, ⟨?_, fun c hc h8 => ?_, fun j' hj' => ?_⟩, ⟨?_, ?_, ?_, z3⟩, fun x => ?_, fun i hi => ?_, fun x hx => ?_, fun q hq hb => ?_, fun x hx => ?_⟩, fun y => absurd y (by omega)⟩
      · show z.2.2 = S.2
        rw [z2.1]
        show R'.2 = S.2
        rw [hf.1, f0.1]
      · have c1 : c ∉ [132, 134] := fun y => hc (by simp at y ⊢; omega)
        have c2 : c ∉ A4 := fun y => hc (by unfold A4 at y; simp at y ⊢; omega)
        have c3 : c ≠ 133 := fun y => hc (by rw [y]; decide)
        show z.2.1 c = S.1 c
        rw [z2.2.1 c c1 h8, g0 c h8 c3, fSR c c2 h8]
      · have n29 : j' ∉ [29] := fun y => hj' (by simp at y ⊢; omega)
        have n4 : j' ≠ 4 := fun y => hj' (by rw [y]; decide)
        have n1 : j' ∉ [7, 15] := fun y => hj' (by simp at y ⊢; omega)
        have n2 : j' ∉ [5, 6, 7, 8, 15] := fun y => hj' (by simp at y ⊢; omega)
        show z.2.1 128 j' = S.1 128 j'
        rw [z2.2.2 j' n29, si_nx _ _ (by omega), si_ni _ _ n4, hf.2.2 j' n1, f0.2.2 j' n2]
      · show z.2.1 128 5 = 0
        rw [z2.2.2 5 (by decide), si_nx _ _ (by omega), si_ni _ _ (by omega), hf.2.2 5 (by decide)]; exact e5
      · show z.2.1 128 6 = -1
        rw [z2.2.2 6 (by decide), si_nx _ _ (by omega), si_ni _ _ (by omega), hf.2.2 6 (by decide)]; exact e6
      · show z.2.1 128 4 = 0
        rw [z2.2.2 4 (by decide), si_nx _ _ (by omega), si_at]
      · show z.2.1 133 x = _
        rw [z2.2.1 133 (by decide) (by decide), si_if, si_nx _ _ (by omega), fSR 133 (by decide) (by decide)]
      · show z.2.1 132 (60 * r + i) = _
        rw [(z4 i hi).1, fSR 131 (by decide) (by decide)]
      · show z.2.1 132 x = _
        rw [(z5 x hx).1, fSR 132 (by decide) (by decide)]
      · show z.2.1 134 (60 * r + q) = _
        rw [(z4 q hq).2]
        exact hsh.1 q (Nat.zero_le _) hq hb
      · show z.2.1 134 x = _
        rw [(z5 x hx).2, fSR 134 (by decide) (by decide)]
    · by_cases hj125 : ch j = 125
      · have hjn : j < n := by omega
        have hshut : fX8_shuts N R' = some (0, wrR R' 1 j) := by
          unfold fX8_shuts fX8_wrong
          rw [if_pos (show R'.1 128 15 = 0 from hMP'.2.2.1), hMP'.1]
          simp only [Option.bind_some]
          rw [if_pos (Or.inl trivial)]
          rfl
        have hrs := x_125 hS hMP' (by omega) hj125 hshut (Or.inl rfl)
        have e1 := t_step (l1 := nI r) (l2 := nI n) hMP' hn hjn hrs (N - k - 1)
        rw [show N - k - 1 + 1 = N - k by omega, ← hw] at e1
        have e2 := t_bad (l1 := nI r) (l2 := nI n) (N := N) (N - k - 2) (wrR R' 1 j)
        rw [show N - k - 2 + 1 = N - k - 1 by omega, ← e1] at e2
        obtain ⟨v, S1, q1, q2, q3⟩ := neg 1 j (wrR R' 1 j) e2 (by
          refine ⟨hf.1, fun c hc h8 => ?_, fun j' hj' => ?_⟩
          · unfold wrR
            rw [si_nx _ _ h8, si_nx _ _ h8]; exact hf.2.1 c hc h8
          · have n5 : j' ≠ 5 := fun y => hj' (by rw [y]; decide)
            have n6 : j' ≠ 6 := fun y => hj' (by rw [y]; decide)
            unfold wrR
            rw [si_ni _ _ n6, si_ni _ _ n5]
            exact hf.2.2 j' (fun y => hj' (by simp at y ⊢; omega))) (by unfold wrR; rw [si_ni _ _ (by omega), si_at]; rfl) (by unfold wrR; exact si_at _ _ _ _)
        exact ⟨v, S1, q1, fun y => absurd y w, fun _ _ => ⟨q2, q3⟩⟩
      · -- it can't be; any answer would do
        exfalso
        have hps : prS (fun j => pr n ch 39 1 j 0 false false) n ch 60 0 = some (.inl j) := hres
        rcases prS_end (fun i j' hi h => (pr_ok hn hz 39 1 i 0 false false j' (fun w => absurd w (by omega)) (fun _ => hi) h).2.2.2.1) 60 0 j hps with g | g | g
        · omega
        · exact hj125 g
        · omega
