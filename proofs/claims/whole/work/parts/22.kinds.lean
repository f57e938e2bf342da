theorem whl_s {X Y : Type} {b : X → Option (X ⊕ Y)} {n : Nat} {x x' : X} (h : b x = some (.inl x')) : whl (n + 1) b x = whl n b x' := by
  show (match b x with | some (.inl x') => whl n b x' | some (.inr y) => some y | none => none) = _
  rw [h]
theorem whl_e {X Y : Type} {b : X → Option (X ⊕ Y)} {n : Nat} {x : X} {y : Y} (h : b x = some (.inr y)) : whl (n + 1) b x = some y := by
  show (match b x with | some (.inl x') => whl n b x' | some (.inr y) => some y | none => none) = _
  rw [h]
theorem row_step (F g : Nat → Int32) (i : Nat) : upd (fun j => if j < i then F j else g j) i (F i) = fun j => if j < i + 1 then F j else g j := by
  funext j
  unfold upd
  by_cases q : j = i
  · rw [if_pos q, if_pos (by omega), q]
  · rw [if_neg q]
    dsimp only
    by_cases q2 : j < i
    · rw [if_pos q2, if_pos (by omega)]
    · rw [if_neg q2, if_neg (by omega)]
theorem row_0 (F g : Nat → Int32) : (fun j => if j < 0 then F j else g j) = g := by
  funext j; rw [if_neg (by omega)]
/-! ===== KINDS: parents, what lies above ===== -/
/-- a parent as a number: 6 for none -/
def pn (p : Nat → Int32) (k : Nat) : Nat := if k < 6 then (if p k < 0 then 6 else (p k).toNatClampNeg) else 6
def upn (p : Nat → Int32) : Nat → Nat → Nat
  | 0, k => k
  | n + 1, k => pn p (upn p n k)
def p_ok (p : Nat → Int32) : Prop := ∀ k, k < 6 → p k = -1 ∨ ∃ j, j < 6 ∧ p k = nI j
def p_ac (p : Nat → Int32) : Prop := ∀ k, k < 6 → upn p 6 k = 6
def eP (k : Nat) : Int32 := if k < 6 then nI k else -1
theorem pn_le {p : Nat → Int32} (h : p_ok p) (k : Nat) : pn p k ≤ 6 := by
  unfold pn
  by_cases hk : k < 6
  · rw [if_pos hk]
    rcases h k hk with q | ⟨j, hj, q⟩
    · rw [q]; decide
    · rw [q, if_neg (nI_pos (by omega)), nI_cl (by omega)]; omega
  · rw [if_neg hk]; omega
theorem pn_e {p : Nat → Int32} (h : p_ok p) {k : Nat} (hk : k < 6) : p k = eP (pn p k) := by
  unfold pn eP
  rw [if_pos hk]
  rcases h k hk with q | ⟨j, hj, q⟩
  · rw [q]; decide
  · rw [q, if_neg (nI_pos (by omega)), nI_cl (by omega), if_pos hj]
theorem upn_le {p : Nat → Int32} (h : p_ok p) {k : Nat} (hk : k ≤ 6) : ∀ n, upn p n k ≤ 6
  | 0 => hk
  | n + 1 => pn_le h _
theorem upn_6 {p : Nat → Int32} {k : Nat} : ∀ (m n : Nat), upn p n k = 6 → upn p (n + m) k = 6
  | 0, n, h => h
  | m + 1, n, h => by
    show pn p (upn p (n + m) k) = 6
    rw [upn_6 m n h]; rfl
def abv (p : Nat → Int32) (k : Nat) : Nat → Int32
  | 0 => 0
  | n + 1 => if upn p n k < 6 then abv p k n ||| ((1 : Int32) <<< (nI (upn p n k) &&& 31)) else abv p k n
theorem abv_st {p : Nat → Int32} {k n : Nat} (h : upn p n k = 6) : ∀ m, abv p k (n + m) = abv p k n
  | 0 => rfl
  | m + 1 => by
    show (if upn p (n + m) k < 6 then _ else abv p k (n + m)) = _
    rw [if_neg (by rw [upn_6 m n h]; omega), abv_st h m]
/-- k IS of i -/
def isK (p : Nat → Int32) (k i : Nat) : Prop := ∃ n, n < 6 ∧ upn p n k = i
theorem abv_bt {p : Nat → Int32} {k i : Nat} (hi : i < 32) : ∀ n, bt (abv p k n) i = true ↔ (i < 6 ∧ ∃ m, m < n ∧ upn p m k = i)
  | 0 => by
    constructor
    · intro h; rw [show abv p k 0 = 0 from rfl, b_0] at h; cases h
    · rintro ⟨-, m, hm, -⟩; omega
  | n + 1 => by
    have ih := abv_bt (p := p) (k := k) hi n
    show bt (if upn p n k < 6 then abv p k n ||| ((1 : Int32) <<< (nI (upn p n k) &&& 31)) else abv p k n) i = true ↔ _
    by_cases q : upn p n k < 6
    · rw [if_pos q, b_or, b_one (by omega) hi, Bool.or_eq_true, ih, decide_eq_true_eq]
      constructor
      · rintro (⟨h1, m, hm, e⟩ | e)
        · exact ⟨h1, m, by omega, e⟩
        · exact ⟨by omega, n, by omega, e.symm⟩
      · rintro ⟨h1, m, hm, e⟩
        rcases Nat.lt_or_ge m n with z | z
        · exact Or.inl ⟨h1, m, z, e⟩
        · rw [show m = n by omega] at e
          exact Or.inr e.symm
    · rw [if_neg q, ih]
      constructor
      · rintro ⟨h1, m, hm, e⟩; exact ⟨h1, m, by omega, e⟩
      · rintro ⟨h1, m, hm, e⟩
        rcases Nat.lt_or_ge m n with z | z
        · exact ⟨h1, m, z, e⟩
        · rw [show m = n by omega] at e
          omega
theorem s_isKind1 (N : Nat) (S : St) {k : Nat} (h : k < 6) : fX7_isKind N (nI k) S = some (1, S) := by
  obtain ⟨h1, h2⟩ := bi_rng h (by omega)
  unfold fX7_isKind
  rw [if_neg h1, if_neg (show ¬ (6 : Int32) ≤ nI k from h2)]; rfl
theorem s_isKind0 (N : Nat) (S : St) {l : Int32} (h : l < 0 ∨ nI 6 ≤ l) : fX7_isKind N l S = some (0, S) := by
  unfold fX7_isKind
  by_cases h1 : l < 0
  · rw [if_pos h1]; rfl
  · rw [if_neg h1, if_pos (show (6 : Int32) ≤ l from h.resolve_left h1)]; rfl
theorem eP_lt {k : Nat} (h : k < 6) : eP k = nI k := by unfold eP; rw [if_pos h]
theorem eP_6 : eP 6 = -1 := rfl
theorem up2 (f : Nat → Int32) (k : Nat) (v w : Int32) : upd (upd f k v) k w = upd f k w := by
  funext j; unfold upd; by_cases h : j = k
  · rw [if_pos h, if_pos h]
  · rw [if_neg h, if_neg h, if_neg h]
theorem up_at (f : Nat → Int32) (k : Nat) (v : Int32) : upd f k v k = v := by unfold upd; rw [if_pos rfl]
theorem s_fa1 (N : Nat) {k : Nat} (hk : k < 6) (S : St) (hp : p_ok (S.1 14)) (g : Nat → Int32) : ∀ (m n M : Nat), n + m = 6 → m < M → whl M (bfX1_findAbove_19 N (nI k)) (eP (upn (S.1 14) n k), nI n, st_c S 15 (upd g k (abv (S.1 14) k n))) = some (st_c S 15 (upd g k (abv (S.1 14) k 6))) := by
  intro m
  induction m with
  | zero =>
    intro n M hn hM
    obtain ⟨M', rfl⟩ : ∃ M', M = M' + 1 := ⟨M - 1, by omega⟩
    obtain rfl : n = 6 := by omega
    have e : bfX1_findAbove_19 N (nI k) (eP (upn (S.1 14) 6 k), nI 6, st_c S 15 (upd g k (abv (S.1 14) k 6))) = some (.inr (st_c S 15 (upd g k (abv (S.1 14) k 6)))) := by
      unfold bfX1_findAbove_19
      rw [if_pos (show (6 : Int32) ≤ nI 6 by decide)]
    exact whl_e e
  | succ m ih =>
    intro n M hn hM
    obtain ⟨M', rfl⟩ : ∃ M', M = M' + 1 := ⟨M - 1, by omega⟩
    have hle := upn_le hp (k := k) (by omega) n
    by_cases q : upn (S.1 14) n k < 6
    · have e : bfX1_findAbove_19 N (nI k) (eP (upn (S.1 14) n k), nI n, st_c S 15 (upd g k (abv (S.1 14) k n))) = some (.inl (eP (upn (S.1 14) (n + 1) k), nI (n + 1), st_c S 15 (upd g k (abv (S.1 14) k (n + 1))))) := by
        unfold bfX1_findAbove_19
        dsimp only
        rw [if_neg (show ¬ (6 : Int32) ≤ nI n from nI_ge (a := n) (b := 6) (by omega) (by omega)), eP_lt q, s_isKind1 N _ q]
        simp only [Option.bind_some]
        rw [if_neg (show ¬ (1 : Int32) = 0 by decide), if_neg (nI_in hk (by omega)), if_neg (nI_in hk (by omega)), if_neg (nI_in q (by omega))]
        simp only [nI_cl (show k < 2147483648 by omega), nI_cl (show upn (S.1 14) n k < 2147483648 by omega), si_c, sc_c, sc_same, up2, up_at, sc_ne S _ (show (14 : Nat) ≠ 15 by decide)]
        rw [pn_e hp q, nI_1]
        have ea : abv (S.1 14) k (n + 1) = abv (S.1 14) k n ||| ((1 : Int32) <<< (nI (upn (S.1 14) n k) &&& 31)) := by
          show (if upn (S.1 14) n k < 6 then _ else _) = _
          rw [if_pos q]
        rw [ea]
        rfl
      rw [whl_s e]
      exact ih (n + 1) M' (by omega) (by omega)
    · have q6 : upn (S.1 14) n k = 6 := by omega
      have e : bfX1_findAbove_19 N (nI k) (eP (upn (S.1 14) n k), nI n, st_c S 15 (upd g k (abv (S.1 14) k n))) = some (.inr (st_c S 15 (upd g k (abv (S.1 14) k n)))) := by
        unfold bfX1_findAbove_19
        dsimp only
        rw [if_neg (show ¬ (6 : Int32) ≤ nI n from nI_ge (a := n) (b := 6) (by omega) (by omega)), q6, eP_6, s_isKind0 N _ (Or.inl (by decide))]
        rfl
      rw [whl_e e, ← abv_st q6 (m + 1), show n + (m + 1) = 6 by omega]
theorem s_findAbove (N : Nat) (hN : 8 < N) (S : St) (hp : p_ok (S.1 14)) : fX1_findAbove N S = some (st_c S 15 (fun k => if k < 6 then abv (S.1 14) k 6 else S.1 15 k)) := by
  have key : fX1_findAbove_2 N ((0 : Int32), S) = some (st_c S 15 (fun k => if k < 6 then abv (S.1 14) k 6 else S.1 15 k)) := by
    refine whl_run (fun i => (nI i, st_c S 15 (fun k => if k < i then abv (S.1 14) k 6 else S.1 15 k))) _ 6 ?_ (by omega) (fun i hi => ?_) ?_
    · refine Prod.ext rfl ?_
      show st_c S 15 (fun k => if k < 0 then abv (S.1 14) k 6 else S.1 15 k) = S
      rw [show (fun k => if k < 0 then abv (S.1 14) k 6 else S.1 15 k) = S.1 15 from by funext j; rw [if_neg (by omega)], sc_id]
    · unfold bfX1_findAbove_2
      dsimp only
      rw [if_neg (show ¬ (6 : Int32) ≤ nI i from nI_ge (a := i) (b := 6) (by omega) (by omega)), if_neg (nI_in hi (by omega)), nI_cl (by omega), si_c, sc_c, sc_same]
      have h1 := s_fa1 N hi S hp (fun k => if k < i then abv (S.1 14) k 6 else S.1 15 k) 6 0 N (by omega) (by omega)
      have e0 : eP (upn (S.1 14) 0 i) = nI i := eP_lt hi
      rw [e0] at h1
      unfold fX1_findAbove_19
      rw [show ((nI i, (0 : Int32), st_c S 15 (upd (fun k => if k < i then abv (S.1 14) k 6 else S.1 15 k) i 0)) : Int32 × Int32 × St) = (nI i, nI 0, st_c S 15 (upd (fun k => if k < i then abv (S.1 14) k 6 else S.1 15 k) i (abv (S.1 14) i 0))) from rfl, h1]
      simp only [Option.bind_some]
      rw [nI_1]
      rw [row_step (fun k => abv (S.1 14) k 6)]
    · unfold bfX1_findAbove_2
      dsimp only
      rw [if_pos (show (6 : Int32) ≤ nI 6 by decide)]
  unfold fX1_findAbove
  rw [key]; rfl
