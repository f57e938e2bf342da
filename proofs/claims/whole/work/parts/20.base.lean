/-! ===== layer 3: loops as sequences, small functions ===== -/
/-- a loop that goes through the states x 0, x 1, .. and leaves at x n -/
theorem whl_seq {X Y : Type} {b : X → Option (X ⊕ Y)} (x : Nat → X) (y : Y) : ∀ (n N : Nat), n < N → (∀ i, i < n → b (x i) = some (.inl (x (i + 1)))) → b (x n) = some (.inr y) → whl N b (x 0) = some y := by
  have key : ∀ (k n N : Nat), n < N → (∀ i, i < n → b (x (k + i)) = some (.inl (x (k + i + 1)))) → b (x (k + n)) = some (.inr y) → whl N b (x k) = some y := by
    intro k n
    induction n generalizing k with
    | zero =>
      intro N hN _ h2
      obtain ⟨N', rfl⟩ : ∃ N', N = N' + 1 := ⟨N - 1, by omega⟩
      have h2 : b (x k) = some (.inr y) := h2
      show (match b (x k) with | some (.inl x') => whl N' b x' | some (.inr y) => some y | none => none) = some y
      rw [h2]
    | succ n ih =>
      intro N hN h1 h2
      obtain ⟨N', rfl⟩ : ∃ N', N = N' + 1 := ⟨N - 1, by omega⟩
      have h0 := h1 0 (by omega)
      show (match b (x k) with | some (.inl x') => whl N' b x' | some (.inr y) => some y | none => none) = some y
      rw [show b (x k) = some (.inl (x (k + 1))) from h0]
      exact ih (k + 1) N' (by omega) (fun i hi => by have := h1 (i + 1) (by omega); rw [show k + 1 + i = k + (i + 1) by omega]; exact this) (by rw [show k + 1 + n = k + (n + 1) by omega]; exact h2)
  intro n N hN h1 h2
  exact key 0 n N hN (fun i hi => by rw [Nat.zero_add]; exact h1 i hi) (by rw [Nat.zero_add]; exact h2)
theorem whl_run {X Y : Type} {b : X → Option (X ⊕ Y)} {x0 : X} {N : Nat} (x : Nat → X) (y : Y) (n : Nat) (h0 : x 0 = x0) (hN : n < N) (h1 : ∀ i, i < n → b (x i) = some (.inl (x (i + 1)))) (h2 : b (x n) = some (.inr y)) : whl N b x0 = some y := by
  rw [← h0]; exact whl_seq x y n N hN h1 h2
/-- a loop with a measure that falls -/
theorem whl_mes {X Y : Type} {b : X → Option (X ⊕ Y)} (I : X → Prop) (P : Y → Prop) (μ : X → Nat) (hs : ∀ x, I x → (∃ x', b x = some (.inl x') ∧ I x' ∧ μ x' < μ x) ∨ (∃ y, b x = some (.inr y) ∧ P y)) : ∀ (N : Nat) (x : X), I x → μ x < N → ∃ y, whl N b x = some y ∧ P y := by
  intro N
  induction N with
  | zero => intro x _ h; exact absurd h (by omega)
  | succ N ih =>
    intro x hx hN
    show ∃ y, (match b x with | some (.inl x') => whl N b x' | some (.inr y) => some y | none => none) = some y ∧ P y
    rcases hs x hx with ⟨x', e, hx', hm⟩ | ⟨y, e, hy⟩
    · rw [e]; exact ih x' hx' (by omega)
    · rw [e]; exact ⟨y, rfl, hy⟩
theorem nI_cl {n : Nat} (h : n < 2147483648) : Int32.toNatClampNeg (nI n) = n := nI_clamp h
theorem nI_inR {i n : Nat} (h : i < n) (hn : n < 2147483648) : ¬ (nI i < 0 ∨ n ≤ Int32.toNatClampNeg (nI i)) := nI_in h hn
theorem nI_ltn {a b : Nat} (ha : a < 2147483648) (hb : b < 2147483648) : (nI a < nI b) = (a < b) := propext (nI_ltI ha hb)
theorem nI_len {a b : Nat} (ha : a < 2147483648) (hb : b < 2147483648) : (nI a ≤ nI b) = (a ≤ b) := propext (nI_leI ha hb)
theorem nI_eqn {a b : Nat} (ha : a < 2147483648) (hb : b < 2147483648) : (nI a = nI b) = (a = b) := propext (nI_eq ha hb)
theorem nI_neg {a : Nat} (ha : a < 2147483648) : (nI a < 0) = False := by
  have := nI_pos ha
  simp [this]
theorem nI_m1 {a : Nat} (ha : a < 2147483648) : (nI a = -1) = False := by
  refine eq_false (fun h => ?_)
  have h1 := nI_toInt ha
  rw [h] at h1
  have h2 : (-1 : Int32).toInt = -1 := by decide
  rw [h2] at h1
  omega
/-- what an Int32 is among 0 .. n-1 -/
theorem nI_cases (x : Int32) (n : Nat) (hn : n < 2147483648) : (∃ k, k < n ∧ x = nI k) ∨ (x < 0 ∨ nI n ≤ x) := by
  rcases pk_ix x (n := n) hn with h | h | h
  · exact Or.inr (Or.inl h)
  · exact Or.inr (Or.inr h)
  · exact Or.inl h
def bi (p : Prop) [Decidable p] : Int32 := if p then 1 else 0
theorem bi_01 (p : Prop) [Decidable p] : bi p = 0 ∨ bi p = 1 := by
  unfold bi
  by_cases h : p
  · rw [if_pos h]; exact Or.inr rfl
  · rw [if_neg h]; exact Or.inl rfl
theorem bi_eq0 (p : Prop) [Decidable p] : (bi p = 0) = ¬ p := by
  unfold bi
  by_cases h : p
  · rw [if_pos h]; simp [h]
  · rw [if_neg h]; simp [h]
theorem le_not {a b : Int32} : (a ≤ b) = ¬ (b < a) := propext Int32.not_lt.symm
/-- a test of a range: 1 within, 0 outside -/
theorem bi_rng {k n : Nat} (h : k < n) (hn : n < 2147483648) : ¬ nI k < 0 ∧ ¬ nI n ≤ nI k := ⟨nI_pos (by omega), nI_ge h hn⟩
theorem s_isRoutine1 (N : Nat) (S : St) {k : Nat} (h : k < 8) : fX7_isRoutine N (nI k) S = some (1, S) := by
  obtain ⟨h1, h2⟩ := bi_rng h (by omega)
  unfold fX7_isRoutine
  rw [if_neg h1, if_neg (show ¬ (8 : Int32) ≤ nI k from h2)]; rfl
theorem s_isRoutine0 (N : Nat) (S : St) {l : Int32} (h : l < 0 ∨ nI 8 ≤ l) : fX7_isRoutine N l S = some (0, S) := by
  unfold fX7_isRoutine
  by_cases h1 : l < 0
  · rw [if_pos h1]; rfl
  · rw [if_neg h1, if_pos (show (8 : Int32) ≤ l from h.resolve_left h1)]; rfl
/-! rows of a state -/
theorem sc_same (S : St) (a : Nat) (f : Nat → Int32) : (st_c S a f).1 a = f := by
  show am_u1 S.1 a f a = f
  unfold am_u1; rw [if_pos rfl]
theorem sc_ne (S : St) {a b : Nat} (f : Nat → Int32) (h : b ≠ a) : (st_c S a f).1 b = S.1 b := by
  show am_u1 S.1 a f b = S.1 b
  unfold am_u1; rw [if_neg h]
theorem sc_2 (S : St) (a : Nat) (f : Nat → Int32) : (st_c S a f).2 = S.2 := rfl
theorem si_2 (S : St) (a i : Nat) (v : Int32) : (st_i S a i v).2 = S.2 := rfl
theorem si_c (S : St) (a i : Nat) (v : Int32) : st_i S a i v = st_c S a (upd (S.1 a) i v) := by
  refine Prod.ext ?_ rfl
  funext a'
  show am_u2 S.1 a i v a' = am_u1 S.1 a (upd (S.1 a) i v) a'
  unfold am_u1
  by_cases h : a' = a
  · subst h; rw [if_pos rfl, am_u2_upd]
  · rw [if_neg h, am_u2_ne h]
theorem sc_c (S : St) (a : Nat) (f g : Nat → Int32) : st_c (st_c S a f) a g = st_c S a g := by
  refine Prod.ext ?_ rfl
  funext a'
  show am_u1 (am_u1 S.1 a f) a g a' = am_u1 S.1 a g a'
  unfold am_u1
  by_cases h : a' = a
  · rw [if_pos h, if_pos h]
  · rw [if_neg h, if_neg h, if_neg h]
theorem sc_id (S : St) (a : Nat) : st_c S a (S.1 a) = S := by
  refine Prod.ext ?_ rfl
  funext a'
  show am_u1 S.1 a (S.1 a) a' = S.1 a'
  unfold am_u1
  by_cases h : a' = a
  · rw [if_pos h, h]
  · rw [if_neg h]
theorem sc_comm (S : St) {a b : Nat} (f g : Nat → Int32) (h : a ≠ b) : st_c (st_c S a f) b g = st_c (st_c S b g) a f := by
  refine Prod.ext ?_ rfl
  funext a'
  show am_u1 (am_u1 S.1 a f) b g a' = am_u1 (am_u1 S.1 b g) a f a'
  unfold am_u1
  by_cases h1 : a' = a
  · rw [if_neg (fun q => h (h1.symm.trans q)), if_pos h1, if_pos h1]
  · by_cases h2 : a' = b
    · rw [if_pos h2, if_neg h1, if_pos h2]
    · rw [if_neg h2, if_neg h1, if_neg h1, if_neg h2]
/-- Arrays.fill -/
theorem s_fill (N : Nat) (a : Nat) (v : Int32) (S : St) (ha : alen a < N) (h31 : alen a < 2147483648) : fJ7_fill_53178 N a v S = some (st_c S a (fun j => if j < alen a then v else S.1 a j)) := by
  have key : fJ7_fill_53178_5 N a v (nI (alen a)) ((0 : Int32), S) = some (st_c S a (fun j => if j < alen a then v else S.1 a j)) := by
    refine whl_run (fun i => (nI i, st_c S a (fun j => if j < i then v else S.1 a j))) _ (alen a) ?_ ha (fun i hi => ?_) ?_
    · refine Prod.ext rfl ?_
      show st_c S a (fun j => if j < 0 then v else S.1 a j) = S
      rw [show (fun j => if j < 0 then v else S.1 a j) = S.1 a from by funext j; rw [if_neg (by omega)], sc_id]
    · show (if nI (alen a) ≤ nI i then _ else _) = _
      rw [if_neg (nI_ge hi h31), if_neg (nI_in hi h31)]
      congr 3
      · exact nI_1 i
      · rw [si_c, sc_c, nI_cl (by omega), sc_same]
        congr 1
        funext j
        unfold upd
        by_cases q : j = i
        · rw [if_pos q, if_pos (by omega)]
        · rw [if_neg q]
          show (if j < i then v else S.1 a j) = _
          by_cases q2 : j < i
          · rw [if_pos q2, if_pos (by omega)]
          · rw [if_neg q2, if_neg (by omega)]
    · show (if nI (alen a) ≤ nI (alen a) then _ else _) = _
      rw [if_pos (nI_le (Nat.le_refl _) h31)]
  unfold fJ7_fill_53178
  rw [key]; rfl
