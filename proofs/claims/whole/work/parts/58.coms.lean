/-! ===== which routines are come to ===== -/
def cRow (cl : Nat → Int32) : Nat → Int32 → Int32
  | 0, A => A
  | q + 1, A => if bt (cRow cl q A) q = true then cRow cl q A ||| cl q else cRow cl q A
def cAll (cl : Nat → Int32) : Nat → Int32 → Int32
  | 0, A => A
  | n + 1, A => cRow cl 8 (cAll cl n A)
def sub8 (A B : Int32) : Prop := ∀ p, p < 8 → bt A p = true → bt B p = true
theorem cRow_up (cl : Nat → Int32) (A : Int32) : ∀ (q k : Nat), sub8 (cRow cl q A) (cRow cl (q + k) A)
  | _, 0 => fun _ _ h => h
  | q, k + 1 => fun p hp h => by
    have h1 := cRow_up cl A q k p hp h
    show bt (if bt (cRow cl (q + k) A) (q + k) = true then cRow cl (q + k) A ||| cl (q + k) else cRow cl (q + k) A) p = true
    split
    · rw [b_or, h1]; rfl
    · exact h1
theorem cRow_cl (cl : Nat → Int32) (A : Int32) {q : Nat} (hq : q < 8) (h : bt A q = true) : sub8 (cl q) (cRow cl 8 A) := by
  intro p hp hc
  have h1 := cRow_up cl A 0 q q hq h
  rw [Nat.zero_add] at h1
  have h2 : bt (cRow cl (q + 1) A) p = true := by
    show bt (if bt (cRow cl q A) q = true then cRow cl q A ||| cl q else cRow cl q A) p = true
    rw [if_pos h1, b_or, hc, Bool.or_true]
  have h3 := cRow_up cl A (q + 1) (8 - (q + 1)) p hp h2
  rw [show q + 1 + (8 - (q + 1)) = 8 by omega] at h3
  exact h3
theorem cAll_up (cl : Nat → Int32) (A : Int32) (n : Nat) : ∀ k, sub8 (cAll cl n A) (cAll cl (n + k) A)
  | 0 => fun _ _ h => h
  | k + 1 => fun p hp h => by
    have := cRow_up cl (cAll cl (n + k) A) 0 8 p hp (cAll_up cl A n k p hp h)
    exact this
/-- closed under what is called -/
def clsd (cl : Nat → Int32) (A : Int32) : Prop := ∀ q, q < 8 → bt A q = true → sub8 (cl q) A
def cnt (A : Int32) : Nat := sm 8 (fun i => if bt A i = true then 1 else 0)
theorem cAll_cl (cl : Nat → Int32) (A : Int32) : clsd cl (cAll cl 8 A) := by
  -- a round that adds nothing ends it
  have hst : ∀ n, (∀ p, p < 8 → bt (cAll cl (n + 1) A) p = true → bt (cAll cl n A) p = true) → clsd cl (cAll cl n A) := by
    intro n h q hq hb p hp hc
    exact h p hp (cRow_cl cl _ hq hb p hp hc)
  have hkeep : ∀ n, clsd cl (cAll cl n A) → ∀ p, p < 8 → bt (cAll cl (n + 1) A) p = true → bt (cAll cl n A) p = true := by
    intro n h
    have : ∀ q, q ≤ 8 → sub8 (cRow cl q (cAll cl n A)) (cAll cl n A) := by
      intro q
      induction q with
      | zero => intro _ p _ hp; exact hp
      | succ q ih =>
        intro hq p hp hb
        have hb : bt (if bt (cRow cl q (cAll cl n A)) q = true then cRow cl q (cAll cl n A) ||| cl q else cRow cl q (cAll cl n A)) p = true := hb
        split at hb
        · rename_i hq2
          rw [b_or, Bool.or_eq_true] at hb
          rcases hb with hb | hb
          · exact ih (by omega) p hp hb
          · exact h q (by omega) (ih (by omega) q (by omega) hq2) p hp hb
        · exact ih (by omega) p hp hb
    exact this 8 (Nat.le_refl _)
  have hgrow : ∀ n, clsd cl (cAll cl n A) ∨ n + 1 ≤ cnt (cAll cl n A) ∨ cnt (cAll cl n A) = 0 ∧ False := by
    intro n
    induction n with
    | zero =>
      by_cases h : clsd cl (cAll cl 0 A)
      · exact Or.inl h
      · right; left
        -- some bit is there
        have : ∃ q, q < 8 ∧ bt A q = true := Classical.byContradiction (fun hn => h (fun q hq hb => absurd ⟨q, hq, hb⟩ hn))
        obtain ⟨q, hq, hb⟩ := this
        have h1 := sm_lt (n := 8) (f := fun _ => 0) (g := fun i => if bt A i = true then 1 else 0) (fun i _ => Nat.zero_le _) hq (by rw [if_pos hb]; exact Nat.one_pos)
        show 0 + 1 ≤ sm 8 (fun i => if bt A i = true then 1 else 0)
        omega
    | succ n ih =>
      rcases ih with h | h | h
      · left
        intro q hq hb p hp hc
        have h1 := hkeep n h
        exact cAll_up cl A n 1 p hp (h q hq (h1 q hq hb) p hp hc)
      · by_cases hs : ∀ p, p < 8 → bt (cAll cl (n + 1) A) p = true → bt (cAll cl n A) p = true
        · left
          have h0 := hst n hs
          intro q hq hb p hp hc
          exact cAll_up cl A n 1 p hp (h0 q hq (hs q hq hb) p hp hc)
        · right; left
          have : ∃ p, p < 8 ∧ bt (cAll cl (n + 1) A) p = true ∧ ¬ bt (cAll cl n A) p = true := Classical.byContradiction (fun hn => hs (fun p hp h1 => Classical.byContradiction (fun h2 => hn ⟨p, hp, h1, h2⟩)))
          obtain ⟨p, hp, h1, h2⟩ := this
          have h3 := sm_lt (n := 8) (f := fun i => if bt (cAll cl n A) i = true then 1 else 0) (g := fun i => if bt (cAll cl (n + 1) A) i = true then 1 else 0) (fun i hi => by
            by_cases w : bt (cAll cl n A) i = true
            · rw [if_pos w, if_pos (cAll_up cl A n 1 i hi w)]; exact Nat.le_refl _
            · rw [if_neg w]; exact Nat.zero_le _) hp (by rw [if_neg h2, if_pos h1]; exact Nat.one_pos)
          show n + 1 + 1 ≤ sm 8 (fun i => if bt (cAll cl (n + 1) A) i = true then 1 else 0)
          have h : n + 1 ≤ sm 8 (fun i => if bt (cAll cl n A) i = true then 1 else 0) := h
          omega
      · exact h.2.elim
  rcases hgrow 8 with h | h | h
  · exact h
  · have h2 := sm_bd (n := 8) (b := 1) (f := fun i => if bt (cAll cl 8 A) i = true then 1 else 0) (fun i _ => by split <;> omega)
    have h : 8 + 1 ≤ sm 8 (fun i => if bt (cAll cl 8 A) i = true then 1 else 0) := h
    omega
  · exact h.2.elim
/-- nothing but what must be -/
theorem cAll_min (cl : Nat → Int32) {A : Int32} {P : Nat → Prop} (hA : ∀ p, p < 8 → bt A p = true → P p) (hP : ∀ q p, q < 8 → p < 8 → P q → bt (cl q) p = true → P p) : ∀ n p, p < 8 → bt (cAll cl n A) p = true → P p := by
  intro n
  induction n with
  | zero => exact hA
  | succ n ih =>
    have : ∀ q, q ≤ 8 → ∀ p, p < 8 → bt (cRow cl q (cAll cl n A)) p = true → P p := by
      intro q
      induction q with
      | zero => intro _ p hp h; exact ih p hp h
      | succ q ihq =>
        intro hq p hp hb
        have hb : bt (if bt (cRow cl q (cAll cl n A)) q = true then cRow cl q (cAll cl n A) ||| cl q else cRow cl q (cAll cl n A)) p = true := hb
        split at hb
        · rename_i hq2
          rw [b_or, Bool.or_eq_true] at hb
          rcases hb with hb | hb
          · exact ihq (by omega) p hp hb
          · exact hP q p (by omega) hp (ihq (by omega) q (by omega) hq2) hb
        · exact ihq (by omega) p hp hb
    exact this 8 (Nat.le_refl _)
section CM
variable {N : Nat} {S : St}
/-- the calls of a routine, as bits -/
def clS (S : St) (q : Nat) : Int32 := S.1 (TA (S.2 q)) 11
theorem s_comesTo (hN : 60 < N) {r : Nat} (hr : r < 8) : fX7_comesTo N (nI r) S = some (cAll (clS S) 8 (clS S r), S) := by
  unfold fX7_comesTo fX5_calls
  rw [if_neg (nI_in hr (by omega)), nI_cl (by omega)]
  simp only [Option.bind_some]
  have inner : ∀ (A : Int32) (l3 : Int32), fX7_comesTo_21 N l3 (A, 0, S) = some (cRow (clS S) 8 A, S) := by
    intro A l3
    unfold fX7_comesTo_21
    have key : ∀ (m q M : Nat), q + m = 8 → m < M → whl M (bfX7_comesTo_21 N l3) (cRow (clS S) q A, nI q, S) = some (cRow (clS S) 8 A, S) := by
      intro m
      induction m with
      | zero =>
        intro q M hq hM
        obtain ⟨M', rfl⟩ : ∃ M', M = M' + 1 := ⟨M - 1, by omega⟩
        obtain rfl : q = 8 := by omega
        refine whl_e ?_
        unfold bfX7_comesTo_21
        rw [if_pos (show (8 : Int32) ≤ nI 8 by decide)]
      | succ m ih =>
        intro q M hq hM
        obtain ⟨M', rfl⟩ : ∃ M', M = M' + 1 := ⟨M - 1, by omega⟩
        have e : bfX7_comesTo_21 N l3 (cRow (clS S) q A, nI q, S) = some (.inl (cRow (clS S) (q + 1) A, nI (q + 1), S)) := by
          unfold bfX7_comesTo_21 fX7_comesTo_50 fX5_calls
          rw [if_neg (show ¬ (8 : Int32) ≤ nI q from nI_ge (b := 8) (by omega) (by omega)), s_has N _ (show q < 32 by omega)]
          simp only [Option.bind_some]
          show _ = some (Sum.inl ((if bt (cRow (clS S) q A) q = true then cRow (clS S) q A ||| clS S q else cRow (clS S) q A), nI (q + 1), S))
          by_cases w : bt (cRow (clS S) q A) q = true
          · rw [if_pos w, if_pos w, if_neg z10, if_neg (nI_in (by omega) (by omega)), nI_cl (by omega), nI_1]; rfl
          · rw [if_neg w, if_neg w, if_pos rfl, nI_1]
        rw [whl_s e]
        exact ih (q + 1) M' (by omega) (by omega)
    exact key 8 0 N (by omega) (by omega)
  have outer : ∀ (m k M : Nat), k + m = 8 → m < M → whl M (bfX7_comesTo_12 N) (cAll (clS S) k (clS S r), nI k, S) = some (cAll (clS S) 8 (clS S r), S) := by
    intro m
    induction m with
    | zero =>
      intro q M hq hM
      obtain ⟨M', rfl⟩ : ∃ M', M = M' + 1 := ⟨M - 1, by omega⟩
      obtain rfl : q = 8 := by omega
      refine whl_e ?_
      unfold bfX7_comesTo_12
      rw [if_pos (show (8 : Int32) ≤ nI 8 by decide)]
    | succ m ih =>
      intro k M hk hM
      obtain ⟨M', rfl⟩ : ∃ M', M = M' + 1 := ⟨M - 1, by omega⟩
      have e : bfX7_comesTo_12 N (cAll (clS S) k (clS S r), nI k, S) = some (.inl (cAll (clS S) (k + 1) (clS S r), nI (k + 1), S)) := by
        unfold bfX7_comesTo_12
        rw [if_neg (show ¬ (8 : Int32) ≤ nI k from nI_ge (b := 8) (by omega) (by omega)), inner]
        simp only [Option.bind_some, nI_1]
        rfl
      rw [whl_s e]
      exact ih (k + 1) M' (by omega) (by omega)
  unfold fX7_comesTo_12
  rw [show ((S.1 (TA (S.2 r)) 11, (0 : Int32), S) : Int32 × Int32 × St) = (cAll (clS S) 0 (clS S r), nI 0, S) from rfl, outer 8 0 N (by omega) (by omega)]
  rfl
theorem s_callersOf (hN : 60 < N) {r : Nat} (hr : r < 8) : ∃ A, fX7_callersOf N (nI r) S = some (A, S) ∧ ∀ p, p < 8 → (bt A p = true ↔ bt (clS S p) r = true) := by
  unfold fX7_callersOf fX7_callersOf_4
  have key : ∀ (m q M : Nat) (A : Int32), q + m = 8 → m < M → (∀ p, p < 8 → (bt A p = true ↔ p < q ∧ bt (clS S p) r = true)) → ∃ A', whl M (bfX7_callersOf_4 N (nI r)) (A, nI q, S) = some (A', S) ∧ ∀ p, p < 8 → (bt A' p = true ↔ bt (clS S p) r = true) := by
    intro m
    induction m with
    | zero =>
      intro q M A hq hM hA
      obtain ⟨M', rfl⟩ : ∃ M', M = M' + 1 := ⟨M - 1, by omega⟩
      obtain rfl : q = 8 := by omega
      refine ⟨A, whl_e ?_, fun p hp => by rw [hA p hp]; exact ⟨fun h => h.2, fun h => ⟨hp, h⟩⟩⟩
      unfold bfX7_callersOf_4
      rw [if_pos (show (8 : Int32) ≤ nI 8 by decide)]
    | succ m ih =>
      intro q M A hq hM hA
      obtain ⟨M', rfl⟩ : ∃ M', M = M' + 1 := ⟨M - 1, by omega⟩
      have e : bfX7_callersOf_4 N (nI r) (A, nI q, S) = some (.inl ((if bt (clS S q) r = true then A ||| ((1 : Int32) <<< (nI q &&& 31)) else A), nI (q + 1), S)) := by
        unfold bfX7_callersOf_4 fX7_callersOf_32 fX5_calls
        rw [if_neg (show ¬ (8 : Int32) ≤ nI q from nI_ge (b := 8) (by omega) (by omega)), if_neg (nI_in (by omega) (by omega)), nI_cl (by omega)]
        simp only [Option.bind_some, s_has N _ (show r < 32 by omega)]
        by_cases w : bt (clS S q) r = true
        · rw [if_pos w, if_pos (show bt (S.1 (TA (S.2 q)) 11) r = true from w), if_neg z10, nI_1]
        · rw [if_neg w, if_neg (show ¬ bt (S.1 (TA (S.2 q)) 11) r = true from w), if_pos rfl, nI_1]
      rw [whl_s e]
      refine ih (q + 1) M' _ (by omega) (by omega) (fun p hp => ?_)
      by_cases w : bt (clS S q) r = true
      · rw [if_pos w, b_or, b_one (by omega) (by omega), Bool.or_eq_true, hA p hp, decide_eq_true_eq]
        constructor
        · rintro (⟨h1, h2⟩ | h)
          · exact ⟨by omega, h2⟩
          · exact ⟨by omega, by rw [h]; exact w⟩
        · rintro ⟨h1, h2⟩
          by_cases v : p = q
          · exact Or.inr v
          · exact Or.inl ⟨by omega, h2⟩
      · rw [if_neg w, hA p hp]
        constructor
        · rintro ⟨h1, h2⟩; exact ⟨by omega, h2⟩
        · rintro ⟨h1, h2⟩
          by_cases v : p = q
          · rw [v] at h2; exact absurd h2 w
          · exact ⟨by omega, h2⟩
  obtain ⟨A, e, h⟩ := key 8 0 N 0 (by omega) (by omega) (fun p hp => by rw [b_0]; exact ⟨fun h => absurd h (by decide), fun h => absurd h.1 (by omega)⟩)
  refine ⟨A, ?_, h⟩
  rw [show (((0 : Int32), (0 : Int32), S) : Int32 × Int32 × St) = ((0 : Int32), nI 0, S) from rfl, e]
  rfl
end CM
