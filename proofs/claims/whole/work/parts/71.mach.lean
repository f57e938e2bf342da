/-! ===== the second program's reader, step by step ===== -/
def MP (n : Nat) (ch : Nat → Nat) (i d : Nat) (R : St) : Prop := R.1 128 7 = nI i ∧ R.1 128 8 = nI n ∧ R.1 128 15 = nI d ∧ ∀ q, q < n → R.1 131 q &&& 255 = nI (ch q)
def SK (n : Nat) (ch : Nat → Nat) : Prop := n ≤ 60 ∧ (∀ q, n ≤ q → ch q = 0) ∧ ∀ q, ch q < 256
/-- the states after its steps -/
def opR (R : St) (l : Int32) (i d : Nat) : St := st_i (st_i (st_i (st_i R 128 15 (nI (d + 1))) 136 (d + 1) (nI i)) 137 (d + 1) l) 128 7 (nI (i + 1))
def wrR (R : St) (a : Int32) (p : Nat) : St := st_i (st_i R 128 5 a) 128 6 (nI p)
def atR (R : St) (i : Nat) : St := st_i R 128 7 (nI i)
def shR (R : St) (q i d : Nat) : St := st_i (st_i (st_i R 135 q (nI i)) 128 15 (nI (d - 1))) 128 7 (nI (i + 1))
section MA
variable {N n i d : Nat} {ch : Nat → Nat} {R : St}
theorem MP.at (h : MP n ch i d R) (j : Nat) : MP n ch j d (atR R j) := by
  unfold atR
  exact ⟨si_at _ _ _ _, by rw [si_ni _ _ (by decide)]; exact h.2.1, by rw [si_ni _ _ (by decide)]; exact h.2.2.1, fun q hq => by rw [si_nx _ _ (by decide)]; exact h.2.2.2 q hq⟩
theorem s_sign (hS : SK n ch) (h : MP n ch i d R) {j : Nat} (hj : j < 1000) : fX8_sign N (nI j) R = some (nI (ch j), R) := by
  have h60 := hS.1
  unfold fX8_sign fX8_sign_22
  rw [h.2.1]
  by_cases q : n ≤ j
  · rw [if_pos (nI_le q (by omega)), hS.2.1 j q]; rfl
  · rw [if_neg (nI_ge (by omega) (by omega)), if_neg (nI_in (by omega) (by omega)), nI_cl (by omega), h.2.2.2 j (by omega)]
theorem o_bad (hS : SK n ch) (h : MP n ch i d R) (hi : i < 1000) (hc : ch i ≠ 123) (l : Int32) : fX8_opens N l R = some (0, wrR R 1 i) := by
  unfold fX8_opens fX8_wrong
  rw [h.1, s_sign hS h hi]
  simp only [Option.bind_some]
  rw [if_neg (show ¬ nI (ch i) = 123 from nI_nq (hS.2.2 i) (k := 123) (by omega) hc), h.1, if_pos (Or.inl trivial)]
  rfl
theorem o_deep (hS : SK n ch) (h : MP n ch i 8 R) (hi : i < 1000) (hc : ch i = 123) (l : Int32) : fX8_opens N l R = some (0, wrR R 2 i) := by
  unfold fX8_opens fX8_wrong
  rw [h.1, s_sign hS h hi]
  simp only [Option.bind_some]
  rw [if_pos (show nI (ch i) = 123 by rw [hc]; rfl), h.2.2.1, if_pos (show nI 8 = 8 from rfl), h.1, if_pos (Or.inl trivial)]
  rfl
theorem o_ok (hS : SK n ch) (h : MP n ch i d R) (hi : i < 1000) (hc : ch i = 123) (hd : d < 8) (l : Int32) : fX8_opens N l R = some (1, opR R l i d) := by
  unfold fX8_opens
  rw [h.1, s_sign hS h hi]
  simp only [Option.bind_some]
  have e7 : ∀ v, (st_i R 128 15 v).1 128 7 = R.1 128 7 := fun v => si_ni _ _ (by decide)
  have e136 : ∀ (T : St) (k : Nat) (v : Int32), (st_i T 136 k v).1 128 = T.1 128 := fun T k v => si_nx _ _ (by decide)
  have e137 : ∀ (T : St) (k : Nat) (v : Int32), (st_i T 137 k v).1 128 = T.1 128 := fun T k v => si_nx _ _ (by decide)
  rw [if_pos (show nI (ch i) = 123 by rw [hc]; rfl), h.2.2.1, if_neg (show ¬ nI d = 8 from fun z => by have := (nI_eq (a := d) (b := 8) (by omega) (by omega)).mp z; omega)]
  simp only [si_at, e7, e136, e137, h.1, nI_1]
  rw [if_neg (nI_in (by omega) (by omega)), if_neg (nI_in (by omega) (by omega)), nI_cl (by omega)]
  rfl
/-- what an opening leaves -/
theorem opR_MP (h : MP n ch i d R) (l : Int32) : MP n ch (i + 1) (d + 1) (opR R l i d) := by
  unfold opR
  refine ⟨si_at _ _ _ _, ?_, ?_, fun q hq => ?_⟩
  · rw [si_ni _ _ (by decide), si_nx _ _ (by decide), si_nx _ _ (by decide), si_ni _ _ (by decide)]; exact h.2.1
  · rw [si_ni _ _ (by decide), si_nx _ _ (by decide), si_nx _ _ (by decide), si_at]
  · rw [si_nx _ _ (by decide), si_nx _ _ (by decide), si_nx _ _ (by decide), si_nx _ _ (by decide)]; exact h.2.2.2 q hq
theorem shR_MP (h : MP n ch i d R) (q : Nat) : MP n ch (i + 1) (d - 1) (shR R q i d) := by
  unfold shR
  refine ⟨si_at _ _ _ _, ?_, ?_, fun q hq => ?_⟩
  · rw [si_ni _ _ (by decide), si_ni _ _ (by decide), si_nx _ _ (by decide)]; exact h.2.1
  · rw [si_ni _ _ (by decide), si_at]
  · rw [si_nx _ _ (by decide), si_nx _ _ (by decide), si_nx _ _ (by decide)]; exact h.2.2.2 q hq
theorem s_shuts (h : MP n ch i d R) (hd : 0 < d) (hd8 : d ≤ 8) {q w : Nat} (hq : q < 60) (hw : w < 7) (h1 : R.1 136 d = nI q) (h2 : R.1 137 d = nI w) {g : Int32} {R' : St} (hg : fX8_goesOn N (nI w) (if w = 5 then R.1 138 d else 0) (shR R q i d) = some (g, R')) (hg01 : g = 0 ∨ g = 1) : fX8_shuts N R = some (g, R') := by
  unfold fX8_shuts fX8_shuts_63
  have e128 : ∀ v, (st_i R 135 q v).1 128 = R.1 128 := fun v => si_nx _ _ (by decide)
  have e137 : ∀ v, (st_i R 135 q v).1 137 = R.1 137 := fun v => si_nx _ _ (by decide)
  have e138 : ∀ v, (st_i R 135 q v).1 138 = R.1 138 := fun v => si_nx _ _ (by decide)
  have hdn : ¬ (nI d = 0) := nI_ne0 hd (by omega)
  have hin : ¬ (nI d < 0 ∨ 9 ≤ Int32.toNatClampNeg (nI d)) := nI_in (by omega) (by omega)
  have hinq : ¬ (nI q < 0 ∨ 60 ≤ Int32.toNatClampNeg (nI q)) := nI_in hq (by omega)
  rw [h.2.2.1]
  have hcd : Int32.toNatClampNeg (nI d) = d := nI_cl (by omega)
  have hcq : Int32.toNatClampNeg (nI q) = q := nI_cl (by omega)
  rw [if_neg hdn, if_neg hin, hcd, h1, if_neg hinq, hcq]
  have hsub : nI d - 1 = nI (d - 1) := pk_sub (b := 1) hd
  have ek : ∀ v, (st_i (st_i R 135 q v) 128 15 (nI (d - 1))).1 128 7 = R.1 128 7 := fun v => by rw [si_ni _ _ (by decide), e128]
  simp only [e128, e137, e138, h.2.2.1, hcd, h2, hsub, ek, h.1, nI_1]
  have hin' : ¬ (nI d < 0 ∨ 9 ≤ d) := by rw [hcd] at hin; exact hin
  rw [if_neg hin']
  have hes : st_i (st_i (st_i R 135 q (nI i)) 128 15 (nI (d - 1))) 128 7 (nI (i + 1)) = shR R q i d := rfl
  rw [hes]
  by_cases w5 : w = 5
  · rw [if_pos w5] at hg
    rw [if_pos (show nI w = 5 by rw [w5]; rfl), if_neg hin', hg]
    simp only [Option.bind_some]
    rw [if_pos hg01]
  · rw [if_neg w5] at hg
    rw [if_neg (show ¬ nI w = 5 from fun z => w5 ((nI_eq (a := w) (b := 5) (by omega) (by omega)).mp z)), hg]
    simp only [Option.bind_some]
    rw [if_pos hg01]
/-! going on behind a brace -/
def mnR (R : St) (d : Nat) (v : Int32) : St := st_i R 138 d v
theorem g_one (l : Int32) {g : Int32} {R' : St} (h : fX8_opens N 2 R = some (g, R')) (hg : g = 0 ∨ g = 1) : fX8_goesOn N 1 l R = some (g, R') := by
  unfold fX8_goesOn
  rw [if_pos rfl, h]
  simp only [Option.bind_some]
  rw [if_pos hg]
theorem g_end {w : Nat} (hw : w = 2 ∨ w = 3 ∨ w = 6) (l : Int32) : fX8_goesOn N (nI w) l R = some (1, R) := by
  unfold fX8_goesOn
  rcases hw with rfl | rfl | rfl
  · rw [if_neg (by decide), if_neg (by decide), if_neg (by decide)]
  · rw [if_neg (by decide), if_neg (by decide), if_neg (by decide)]
  · rw [if_neg (by decide), if_neg (by decide), if_neg (by decide)]
theorem g_45 {w : Nat} (hw : w = 4 ∨ w = 5) (l : Int32) : fX8_goesOn N (nI w) l R = fX8_goesOn_23 N (nI w) l R := by
  unfold fX8_goesOn
  rcases hw with rfl | rfl
  · rw [if_neg (by decide), if_pos (by decide)]
  · rw [if_neg (by decide), if_neg (by decide), if_pos (by decide)]
theorem g_ltr (hS : SK n ch) (h : MP n ch i d R) (hi : i < 900) (hc : ltr (ch i)) {w c : Nat} (hw : w = 4 ∨ w = 5) (hc6 : c < 6) : (∀ R', fX8_opens N 5 (atR R (i + 1)) = some (0, R') → fX8_goesOn N (nI w) (nI c) R = some (0, R')) ∧ (∀ R' d', d' < 9 → R'.1 128 15 = nI d' → fX8_opens N 5 (atR R (i + 1)) = some (1, R') → fX8_goesOn N (nI w) (nI c) R = some (1, mnR R' d' (nI (c + 1)))) := by
  rw [g_45 hw]
  unfold fX8_goesOn_23
  rw [h.1, s_sign hS h (by omega)]
  simp only [Option.bind_some, s_letter N R (hS.2.2 i), if_pos hc, if_neg z10]
  rw [if_neg (show ¬ nI c = 6 from fun z => by have := (nI_eq (a := c) (b := 6) (by omega) (by omega)).mp z; omega), h.1, nI_1]
  constructor
  · intro R' hR
    rw [show st_i R 128 7 (nI (i + 1)) = atR R (i + 1) from rfl, hR]
    simp only [Option.bind_some, if_pos]
  · intro R' d' hd' hR2 hR
    rw [show st_i R 128 7 (nI (i + 1)) = atR R (i + 1) from rfl, hR]
    simp only [Option.bind_some, if_neg z10]
    rw [hR2, if_neg (nI_in hd' (by omega)), nI_cl (by omega), nI_1]
    rfl
theorem g_full (hS : SK n ch) (h : MP n ch i d R) (hi : i < 900) (hc : ltr (ch i)) : fX8_goesOn N (nI 5) (nI 6) R = some (0, wrR R 3 i) := by
  rw [g_45 (Or.inr rfl)]
  unfold fX8_goesOn_23 fX8_wrong
  rw [h.1, s_sign hS h (by omega)]
  simp only [Option.bind_some, s_letter N R (hS.2.2 i), if_pos hc, if_neg z10]
  rw [if_pos (show nI 6 = 6 from rfl), h.1, if_pos (Or.inl trivial)]
  rfl
theorem g_z (hS : SK n ch) (h : MP n ch i d R) (hi : i < 900) (hc : ch i = 90) {w : Nat} (hw : w = 4 ∨ w = 5) (l : Int32) {g : Int32} {R' : St} (ho : fX8_opens N 6 (atR R (i + 1)) = some (g, R')) (hg : g = 0 ∨ g = 1) : fX8_goesOn N (nI w) l R = some (g, R') := by
  rw [g_45 hw]
  unfold fX8_goesOn_23
  have hnl : ¬ ltr (ch i) := by omega
  rw [h.1, s_sign hS h (by omega)]
  simp only [Option.bind_some, s_letter N R (hS.2.2 i), if_neg hnl, if_pos]
  rw [if_pos (show nI (ch i) = 90 by rw [hc]; rfl), h.1, nI_1, show st_i R 128 7 (nI (i + 1)) = atR R (i + 1) from rfl, ho]
  simp only [Option.bind_some]
  rw [if_pos hg]
theorem g_5 (hS : SK n ch) (h : MP n ch i d R) (hi : i < 900) (hc : ¬ ltr (ch i)) (hz : ch i ≠ 90) (l : Int32) : fX8_goesOn N (nI 5) l R = some (1, R) := by
  rw [g_45 (Or.inr rfl)]
  unfold fX8_goesOn_23 fX8_goesOn_129 fX8_goesOn_134
  rw [h.1, s_sign hS h (by omega)]
  simp only [Option.bind_some, s_letter N R (hS.2.2 i), if_neg hc, if_pos]
  rw [if_neg (show ¬ nI (ch i) = 90 from nI_nq (hS.2.2 i) (k := 90) (by omega) hz), if_pos (show nI 5 = 5 from rfl), if_pos (Or.inr trivial)]
theorem g_4 (hS : SK n ch) (h : MP n ch i d R) (hi : i < 900) (hc : ¬ ltr (ch i)) (hz : ch i ≠ 90) (l : Int32) : fX8_goesOn N (nI 4) l R = some (0, wrR R 1 i) := by
  rw [g_45 (Or.inl rfl)]
  unfold fX8_goesOn_23 fX8_goesOn_129 fX8_goesOn_134 fX8_wrong
  rw [h.1, s_sign hS h (by omega)]
  simp only [Option.bind_some, s_letter N R (hS.2.2 i), if_neg hc, if_pos]
  rw [if_neg (show ¬ nI (ch i) = 90 from nI_nq (hS.2.2 i) (k := 90) (by omega) hz), if_neg (show ¬ nI 4 = 5 by decide), h.1]
  rfl
/-! a statement -/
theorem x_33 (hS : SK n ch) (h : MP n ch i d R) (hi : i < 900) (hc : ch i = 33) : fX8_readsStatement N R = if ltr (ch (i + 1)) then some (1, atR R (i + 2)) else some (0, wrR R 1 (i + 1)) := by
  unfold fX8_readsStatement fX8_wrong
  rw [h.1, s_sign hS h (by omega)]
  simp only [Option.bind_some]
  rw [if_pos (show nI (ch i) = 33 by rw [hc]; rfl), h.1, nI_1, s_sign hS h (by omega)]
  simp only [Option.bind_some, s_letter N R (hS.2.2 (i + 1))]
  by_cases q : ltr (ch (i + 1))
  · rw [if_pos q, if_pos q, if_neg z10, h.1, nI_2]; rfl
  · rw [if_neg q, if_neg q, if_pos rfl, h.1, if_pos (Or.inl trivial), nI_1]; rfl
theorem x_46 (hS : SK n ch) (h : MP n ch i d R) (hi : i < 900) (hc : ch i = 46) : fX8_readsStatement N R = some (1, atR R (i + 1)) := by
  unfold fX8_readsStatement
  rw [h.1, s_sign hS h (by omega)]
  simp only [Option.bind_some]
  rw [hc, if_neg (by decide), if_neg (by decide), if_neg (by decide), if_neg (by decide), if_pos (by decide), h.1, nI_1]
  rfl
theorem x_block (hS : SK n ch) (h : MP n ch i d R) (hi : i < 900) {w : Nat} (hc : (ch i = 63 ∧ w = 1) ∨ (ch i = 42 ∧ w = 3) ∨ (ch i = 84 ∧ w = 4)) {g : Int32} {R' : St} (ho : fX8_opens N (nI w) (atR R (i + 1)) = some (g, R')) (hg : g = 0 ∨ g = 1) : fX8_readsStatement N R = some (g, R') := by
  unfold fX8_readsStatement fX8_readsStatement_326
  rw [h.1, s_sign hS h (by omega)]
  simp only [Option.bind_some]
  rcases hc with ⟨hc, rfl⟩ | ⟨hc, rfl⟩ | ⟨hc, rfl⟩
  · rw [hc, if_neg (by decide), if_neg (by decide), if_neg (by decide), if_neg (by decide), if_neg (by decide), if_pos (by decide), if_pos (by decide), h.1, nI_1, show st_i R 128 7 (nI (i + 1)) = atR R (i + 1) from rfl, show fX8_opens N 1 (atR R (i + 1)) = some (g, R') from ho]
    simp only [Option.bind_some]
    rw [if_pos hg]
  · rw [hc, if_neg (by decide), if_pos (by decide), if_neg (by decide), if_pos (by decide), h.1, nI_1, show st_i R 128 7 (nI (i + 1)) = atR R (i + 1) from rfl, show (3 : Int32) = nI 3 from rfl, ho]
    simp only [Option.bind_some]
    rw [if_pos hg]
  · rw [hc, if_neg (by decide), if_neg (by decide), if_neg (by decide), if_neg (by decide), if_neg (by decide), if_neg (by decide), if_neg (by decide), if_pos (by decide), if_neg (by decide), if_neg (by decide), h.1, nI_1, show st_i R 128 7 (nI (i + 1)) = atR R (i + 1) from rfl, show (4 : Int32) = nI 4 from rfl, ho]
    simp only [Option.bind_some]
    rw [if_pos hg]
theorem x_43 (hS : SK n ch) (h : MP n ch i d R) (hi : i < 900) (hc : ch i = 43 ∨ ch i = 45) : fX8_readsStatement N R = if ch (i + 1) = 48 ∨ ch (i + 1) = 49 then some (1, atR R (i + 2)) else some (0, wrR R 1 (i + 1)) := by
  unfold fX8_readsStatement fX8_readsStatement_282 fX8_wrong
  rw [h.1, s_sign hS h (by omega)]
  simp only [Option.bind_some, nI_1, s_sign hS h (show i + 1 < 1000 by omega), h.1, nI_2]
  have hc2 := hS.2.2 (i + 1)
  have fin : (if nI (ch (i + 1)) = 48 then some ((1 : Int32), st_i R 128 7 (nI (i + 2))) else if nI (ch (i + 1)) = 49 then some (1, st_i R 128 7 (nI (i + 2))) else if ((0 : Int32) = 0 ∨ (0 : Int32) = 1) then some (0, st_i (st_i R 128 5 1) 128 6 (nI (i + 1))) else none) = if ch (i + 1) = 48 ∨ ch (i + 1) = 49 then some (1, atR R (i + 2)) else some (0, wrR R 1 (i + 1)) := by
    by_cases q : ch (i + 1) = 48
    · rw [if_pos (show nI (ch (i + 1)) = 48 by rw [q]; rfl), if_pos (Or.inl q)]; rfl
    · rw [if_neg (show ¬ nI (ch (i + 1)) = 48 from nI_nq hc2 (k := 48) (by omega) q)]
      by_cases q2 : ch (i + 1) = 49
      · rw [if_pos (show nI (ch (i + 1)) = 49 by rw [q2]; rfl), if_pos (Or.inr q2)]; rfl
      · rw [if_neg (show ¬ nI (ch (i + 1)) = 49 from nI_nq hc2 (k := 49) (by omega) q2), if_pos (Or.inl rfl), if_neg (show ¬ (ch (i + 1) = 48 ∨ ch (i + 1) = 49) from fun z => z.elim q q2)]; rfl
  rcases hc with hc | hc
  · rw [hc, if_neg (by decide), if_neg (by decide), if_pos (by decide)]
    exact fin
  · rw [hc, if_neg (by decide), if_neg (by decide), if_neg (by decide), if_pos (by decide)]
    exact fin
theorem x_64 (hS : SK n ch) (h : MP n ch i d R) (hi : i < 900) (hc : ch i = 64) : fX8_readsStatement N R = if 97 ≤ ch (i + 1) ∧ ch (i + 1) ≤ 104 then some (1, atR R (i + 2)) else some (0, wrR R 1 (i + 1)) := by
  unfold fX8_readsStatement fX8_readsStatement_216 fX8_wrong
  rw [h.1, s_sign hS h (by omega)]
  simp only [Option.bind_some, nI_1, s_sign hS h (show i + 1 < 1000 by omega), h.1, nI_2]
  have hc2 := hS.2.2 (i + 1)
  rw [hc, if_neg (by decide), if_neg (by decide), if_neg (by decide), if_neg (by decide), if_neg (by decide), if_neg (by decide), if_pos (by decide)]
  by_cases q : ch (i + 1) < 97
  · rw [if_pos (show nI (ch (i + 1)) < 97 from nI_lt (b := 97) q (by omega)), if_pos (Or.inl trivial), if_neg (show ¬ (97 ≤ ch (i + 1) ∧ ch (i + 1) ≤ 104) by omega)]; rfl
  · rw [if_neg (show ¬ nI (ch (i + 1)) < 97 from nI_nlt (b := 97) (by omega) (by omega))]
    by_cases q2 : ch (i + 1) ≤ 104
    · rw [if_pos (show nI (ch (i + 1)) ≤ 104 from nI_le (b := 104) q2 (by omega)), if_pos ⟨by omega, q2⟩]; rfl
    · rw [if_neg (show ¬ nI (ch (i + 1)) ≤ 104 from nI_ge (a := 104) (by omega) (by omega)), if_pos (Or.inl trivial), if_neg (show ¬ (97 ≤ ch (i + 1) ∧ ch (i + 1) ≤ 104) from fun z => q2 z.2)]; rfl
theorem x_125 (hS : SK n ch) (h : MP n ch i d R) (hi : i < 900) (hc : ch i = 125) {g : Int32} {R' : St} (ho : fX8_shuts N R = some (g, R')) (hg : g = 0 ∨ g = 1) : fX8_readsStatement N R = some (g, R') := by
  unfold fX8_readsStatement
  rw [h.1, s_sign hS h (by omega)]
  simp only [Option.bind_some]
  rw [hc, if_neg (by decide), if_neg (by decide), if_neg (by decide), if_neg (by decide), if_neg (by decide), if_neg (by decide), if_neg (by decide), if_neg (by decide), if_neg (by decide), if_pos (by decide), ho]
  simp only [Option.bind_some]
  rw [if_pos hg]
theorem x_else (hS : SK n ch) (h : MP n ch i d R) (hi : i < 900) (hc : ch i ≠ 33 ∧ ch i ≠ 42 ∧ ch i ≠ 43 ∧ ch i ≠ 45 ∧ ch i ≠ 46 ∧ ch i ≠ 63 ∧ ch i ≠ 64 ∧ ch i ≠ 84 ∧ ch i ≠ 94 ∧ ch i ≠ 125) : fX8_readsStatement N R = some (0, wrR R 1 i) := by
  unfold fX8_readsStatement fX8_wrong
  rw [h.1, s_sign hS h (by omega)]
  simp only [Option.bind_some]
  have hno : ∀ k, k < 256 → ch i ≠ k → ¬ nI (ch i) = nI k := fun k h1 h2 => nI_nq (hS.2.2 i) h1 h2
  obtain ⟨c1, c2, c3, c4, c5, c6, c7, c8, c9, c10⟩ := hc
  rw [if_neg (show ¬ nI (ch i) = 33 from hno 33 (by omega) c1), if_neg (show ¬ nI (ch i) = 42 from hno 42 (by omega) c2), if_neg (show ¬ nI (ch i) = 43 from hno 43 (by omega) c3), if_neg (show ¬ nI (ch i) = 45 from hno 45 (by omega) c4), if_neg (show ¬ nI (ch i) = 46 from hno 46 (by omega) c5), if_neg (show ¬ nI (ch i) = 63 from hno 63 (by omega) c6), if_neg (show ¬ nI (ch i) = 64 from hno 64 (by omega) c7), if_neg (show ¬ nI (ch i) = 84 from hno 84 (by omega) c8), if_neg (show ¬ nI (ch i) = 94 from hno 94 (by omega) c9), if_neg (show ¬ nI (ch i) = 125 from hno 125 (by omega) c10), h.1, if_pos (Or.inl trivial)]
  rfl
end MA
