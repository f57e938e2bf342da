/-! ===== layer 2: states behind the constructors; loops; how a function of Lean is read off a body ===== -/
/-- the cell of the Told of a number -/
def TA (n : Nat) : Nat := match n with
  | 0 => 4 | 1 => 21 | 2 => 37 | 3 => 47 | 4 => 56 | 5 => 65 | 6 => 74 | 7 => 83 | 8 => 92 | 9 => 101 | 10 => 110 | 11 => 119 | _ => 4
/-- ints by cell and place; the numbers of the Tolds that references name: 0 to 7 routines, 8 spare, 9 reader's, 10 measurer's, 11 tracer's -/
abbrev St : Type := am_I × (Nat → Nat)
def l2_slot (a k : Nat) : Option Nat := if a = 16 ∧ k < 8 then some k else if a = 0 ∧ k = 8 then some 8 else if a = 3 ∧ k = 0 then some 9 else if a = 20 ∧ k = 2 then some 10 else if a = 36 ∧ k = 3 then some 11 else none
def PP (M : Nat → Nat) : am_P := fun a k => match l2_slot a k with
  | some j => some (TA (M j))
  | none => l2_P0 a k
def am_T0 (S : St) : am_S := (S.1, PP S.2, 148)
def st_i (S : St) (a i : Nat) (v : Int32) : St := (am_u2 S.1 a i v, S.2)
def st_p (S : St) (j n : Nat) : St := (S.1, va_up S.2 j n)
def st_c (S : St) (a : Nat) (f : Nat → Int32) : St := (am_u1 S.1 a f, S.2)
def whl {X Y : Type} : Nat → (X → Option (X ⊕ Y)) → X → Option Y
  | 0, _, _ => none
  | n + 1, b, x => match b x with
    | some (.inl x') => whl n b x'
    | some (.inr y) => some y
    | none => none
theorem whl_ind {X Y : Type} {b : X → Option (X ⊕ Y)} (P : X → Prop) (Q : Y → Prop) (hb : ∀ (x : X) (z : X ⊕ Y), b x = some z → Sum.elim P Q z → P x) : ∀ (N : Nat) (x : X) (y : Y), whl N b x = some y → Q y → P x
  | 0, _, _, h, _ => by cases h
  | n + 1, x, y, h, hq => by
    have h : (match b x with
      | some (.inl x') => whl n b x'
      | some (.inr y) => some y
      | none => none) = some y := h
    cases hz : b x with
    | none => rw [hz] at h; cases h
    | some z =>
      rw [hz] at h
      cases z with
      | inl x' => exact hb x _ hz (whl_ind P Q hb n x' y h hq)
      | inr y' => cases h; exact hb x _ hz hq
theorem l2_n {α : Type} {c : Prop} [Decidable c] {e : Option α} {z : α} (h : (if c then none else e) = some z) : ¬ c ∧ e = some z := by
  by_cases q : c
  · rw [if_pos q] at h; cases h
  · rw [if_neg q] at h; exact ⟨q, h⟩
theorem l2_y {α : Type} {c : Prop} [Decidable c] {e : Option α} {z : α} (h : (if c then e else none) = some z) : c ∧ e = some z := by
  by_cases q : c
  · rw [if_pos q] at h; exact ⟨q, h⟩
  · rw [if_neg q] at h; cases h
theorem l2_i {α : Type} {c : Prop} [Decidable c] {e f : Option α} {z : α} (h : (if c then e else f) = some z) : (c ∧ e = some z) ∨ (¬ c ∧ f = some z) := by
  by_cases q : c
  · rw [if_pos q] at h; exact Or.inl ⟨q, h⟩
  · rw [if_neg q] at h; exact Or.inr ⟨q, h⟩
theorem l2_b {α β : Type} {o : Option α} {f : α → Option β} {z : β} (h : o.bind f = some z) : ∃ q, o = some q ∧ f q = some z := by
  cases o with
  | none => cases h
  | some q => exact ⟨q, rfl, h⟩
def l2_s {A B C : Type} (f : A → Option C) (g : B → Option C) (y : A ⊕ B) : Option C := match y with
  | .inl a => f a
  | .inr b => g b
section L2
variable {K : am_K} {ct : Nat → Option am_En} {rk : Nat} {res : Option Value × am_S} {pc x y : Nat} {L : List (Option Value)} {st : List Value} {S : am_S}
theorem am_Rn.ifT {c : Prop} [Decidable c] (hc : c) (h : am_Rn K ct rk res (x, L, st, S)) : am_Rn K ct rk res (if c then x else y, L, st, S) := by rw [if_pos hc]; exact h
theorem am_Rn.ifF {c : Prop} [Decidable c] (hc : ¬ c) (h : am_Rn K ct rk res (y, L, st, S)) : am_Rn K ct rk res (if c then x else y, L, st, S) := by rw [if_neg hc]; exact h
end L2
section L2b
variable {pc n a : Nat} {L : List (Option Value)} {r : List Value} {S : am_S} {i v : Int32}
theorem o_iald (h : am_len a 0 S = some n) (hb : ¬ (i < 0 ∨ n ≤ i.toNatClampNeg)) : am_iald pc L (.int i :: .ref a :: r) S = some (pc + 1, L, .int (S.1 a i.toNatClampNeg) :: r, S) := by
  unfold am_iald; simp only [h]; rw [if_neg hb]
theorem o_bald1 (h : am_len a 1 S = some n) (hb : ¬ (i < 0 ∨ n ≤ i.toNatClampNeg)) : am_bald pc L (.int i :: .ref a :: r) S = some (pc + 1, L, .int (S.1 a i.toNatClampNeg) :: r, S) := by
  unfold am_bald; simp only [h]; rw [if_neg hb]
theorem am_len_12 (h : am_len a 2 S = some n) : am_len a 1 S = none := by
  obtain ⟨h1, h2⟩ := am_len_spec h
  unfold am_len
  rw [show Nat.blt a S.2.2 = true from Nat.ble_eq_true_of_le h1, h2]
  rfl
theorem o_bald2 (h : am_len a 2 S = some n) (hb : ¬ (i < 0 ∨ n ≤ i.toNatClampNeg)) : am_bald pc L (.int i :: .ref a :: r) S = some (pc + 1, L, .int (S.1 a i.toNatClampNeg) :: r, S) := by
  unfold am_bald; simp only [h, am_len_12 h]; rw [if_neg hb]
theorem o_aald (h : am_len a 3 S = some n) (hb : ¬ (i < 0 ∨ n ≤ i.toNatClampNeg)) : am_aald pc L (.int i :: .ref a :: r) S = some (pc + 1, L, va_rf (S.2.1 a i.toNatClampNeg) :: r, S) := by
  unfold am_aald; simp only [h]; rw [if_neg hb]
theorem o_iast (h : am_len a 0 S = some n) (hb : ¬ (i < 0 ∨ n ≤ i.toNatClampNeg)) : am_iast pc L (.int v :: .int i :: .ref a :: r) S = some (pc + 1, L, r, (am_u2 S.1 a i.toNatClampNeg v, S.2.1, S.2.2)) := by
  unfold am_iast; simp only [h]; rw [if_neg hb]
theorem o_bast1 (h : am_len a 1 S = some n) (hb : ¬ (i < 0 ∨ n ≤ i.toNatClampNeg)) : am_bast pc L (.int v :: .int i :: .ref a :: r) S = some (pc + 1, L, r, (am_u2 S.1 a i.toNatClampNeg v.toInt8.toInt32, S.2.1, S.2.2)) := by
  unfold am_bast; simp only [h]; rw [if_neg hb]
theorem o_bast2 (h : am_len a 2 S = some n) (hb : ¬ (i < 0 ∨ n ≤ i.toNatClampNeg)) : am_bast pc L (.int v :: .int i :: .ref a :: r) S = some (pc + 1, L, r, (am_u2 S.1 a i.toNatClampNeg (v &&& 1), S.2.1, S.2.2)) := by
  unfold am_bast; simp only [h, am_len_12 h]; rw [if_neg hb]
theorem o_aast {t : Nat} (ht : am_isO t 5 S = true) (h : am_len a 3 S = some n) (hb : ¬ (i < 0 ∨ n ≤ i.toNatClampNeg)) : am_aast pc L (.ref t :: .int i :: .ref a :: r) S = some (pc + 1, L, r, (S.1, am_u2 S.2.1 a i.toNatClampNeg (some t), S.2.2)) := by
  unfold am_aast; simp only [ht, h, cond_true]; rw [if_neg hb]
theorem o_len (h : am_alen a S = some n) : am_len1 pc L (.ref a :: r) S = some (pc + 1, L, .int (nI n) :: r, S) := by
  unfold am_len1; simp only [h]
theorem o_getf {len ci k : Nat} {w : Value} (h : am_isO a ci S = true) (hw : am_fv (am_fk ci k) (S.1 a k) (S.2.1 a k) = w) : am_getf ci k len pc L (.ref a :: r) S = some (pc + len, L, w :: r, S) := by
  unfold am_getf; simp only [h, cond_true, hw]
theorem o_putf {len ci k : Nat} {w : Value} (h : am_isO a ci S = true) (hw : am_okv (am_fk ci k) w = true) : am_putf ci k len pc L (w :: .ref a :: r) S = some (pc + len, L, r, am_put S a k w) := by
  unfold am_putf; simp only [h, hw, Bool.and_self, cond_true]
theorem o_copy {n0 n1 a0 : Nat} {sp dp m : Int32} (h0 : am_len a0 0 S = some n0) (h1 : am_len a 0 S = some n1) (hb : ¬ (sp < 0 ∨ dp < 0 ∨ m < 0 ∨ n0 < sp.toNatClampNeg + m.toNatClampNeg ∨ n1 < dp.toNatClampNeg + m.toNatClampNeg ∨ S.2.2 < am_cT ∨ ([] : List Value) ≠ [])) : am_copy pc L [.int m, .int dp, .ref a, .int sp, .ref a0] S = some (pc + 3, L, [], (am_u1 S.1 a (va_cpy (S.1 a0) (S.1 a) sp.toNatClampNeg dp.toNatClampNeg m.toNatClampNeg), S.2.1, S.2.2)) := by
  unfold am_copy; simp only [h0, h1]; rw [if_neg hb]
theorem o_clv {j ix xn yn : Nat} {vv : Int32} {cs : List (Int32 × Nat)} {st As rr : List Value} (h1 : (Nat.ble 9997 xn || !(Nat.ble yn st.length) || !(Nat.ble (st.drop yn).length 8) || !((st.drop yn).all am_c1) || !((st.take yn).all am_c1)) = false) (h2 : (st.take yn).reverse = .ref a :: As) (hr : st.drop yn = rr) (hO : am_isO a (am_own xn) S = true) : am_cl (.invokevirtual ix, j, xn, yn, vv, cs) st S = some (xn, .ref a :: As, rr) := by
  subst hr
  unfold am_cl; simp only [h1, h2, hO, cond_true, cond_false]
end L2b
/-! the Tolds -/
theorem TA_cases {P : Nat → Prop} (h : ∀ n, n < 12 → P (TA n)) (n : Nat) : P (TA n) := by
  by_cases q : n < 12
  · exact h n q
  · have : TA n = TA 0 := by
      match n, q with
      | 0, q => rfl
      | 1, q => exact absurd (by omega) q
      | 2, q => exact absurd (by omega) q
      | 3, q => exact absurd (by omega) q
      | 4, q => exact absurd (by omega) q
      | 5, q => exact absurd (by omega) q
      | 6, q => exact absurd (by omega) q
      | 7, q => exact absurd (by omega) q
      | 8, q => exact absurd (by omega) q
      | 9, q => exact absurd (by omega) q
      | 10, q => exact absurd (by omega) q
      | 11, q => exact absurd (by omega) q
      | n + 12, q => rfl
    rw [this]; exact h 0 (by omega)
def l2_toff (k : Nat) : Nat := match k with
  | 0 => 1 | 2 => 2 | 3 => 3 | 4 => 4 | 5 => 5 | 6 => 6 | 7 => 7 | 9 => 8 | _ => 0
def l2_tlen (o : Nat) : Nat × Nat := match o with
  | 1 => (0, 60) | 2 => (0, 60) | 3 => (0, 31) | 4 => (0, 31) | 5 => (0, 31) | 6 => (2, 31) | 7 => (0, 31) | 8 => (0, 20) | _ => (9, 0)
set_option maxRecDepth 100000 in
theorem l2_tall : (List.range 12).all (fun n => (match am_sh (TA n) with | some (.inr c) => Nat.beq c 5 | _ => false) && Nat.blt (TA n + 8) 148 && ((List.range 13).all (fun k => bif Nat.beq (am_fk 5 k) 2 then decide (l2_slot (TA n) k = none ∧ l2_P0 (TA n) k = some (TA n + l2_toff k)) else true)) && ((List.range 9).all (fun o => bif Nat.beq o 0 then true else decide (am_sh (TA n + o) = some (.inl (l2_tlen o)))))) = true := by decide +kernel
theorem l2_isO (n : Nat) (S : St) : am_isO (TA n) 5 (am_T0 S) = true := by
  refine TA_cases (P := fun t => am_isO t 5 (am_T0 S) = true) (fun n h => ?_) n
  have h1 := List.all_eq_true.mp l2_tall n (List.mem_range.mpr h)
  obtain ⟨h1, h4⟩ := am_and h1
  obtain ⟨h1, h3⟩ := am_and h1
  obtain ⟨h1, h2⟩ := am_and h1
  exact Bool.and_eq_true_iff.mpr ⟨Nat.ble_eq_true_of_le (by have := am_blt h2; show TA n + 1 ≤ 148; omega), h1⟩
theorem l2_ref (n k : Nat) (S : St) (hk : k < 13) (h2 : am_fk 5 k = 2) : am_fv (am_fk 5 k) ((am_T0 S).1 (TA n) k) ((am_T0 S).2.1 (TA n) k) = .ref (TA n + l2_toff k) := by
  refine TA_cases (P := fun t => am_fv (am_fk 5 k) ((am_T0 S).1 t k) ((am_T0 S).2.1 t k) = .ref (t + l2_toff k)) (fun n h => ?_) n
  have h1 := List.all_eq_true.mp l2_tall n (List.mem_range.mpr h)
  obtain ⟨h1, h4⟩ := am_and h1
  obtain ⟨h1, h3⟩ := am_and h1
  have h5 := List.all_eq_true.mp h3 k (List.mem_range.mpr hk)
  rw [h2] at h5 ⊢
  obtain ⟨e1, e2⟩ := of_decide_eq_true (show decide (l2_slot (TA n) k = none ∧ l2_P0 (TA n) k = some (TA n + l2_toff k)) = true from h5)
  show va_rf (PP S.2 (TA n) k) = _
  unfold PP
  rw [e1]
  show va_rf (l2_P0 (TA n) k) = _
  rw [e2]
  rfl
theorem l2_len (n o : Nat) (S : St) (h0 : 0 < o) (ho : o < 9) : am_len (TA n + o) (l2_tlen o).1 (am_T0 S) = some (l2_tlen o).2 := by
  refine TA_cases (P := fun t => am_len (t + o) (l2_tlen o).1 (am_T0 S) = some (l2_tlen o).2) (fun n h => ?_) n
  have h1 := List.all_eq_true.mp l2_tall n (List.mem_range.mpr h)
  obtain ⟨h1, h4⟩ := am_and h1
  obtain ⟨h1, h3⟩ := am_and h1
  obtain ⟨h1, h2⟩ := am_and h1
  have h5 := List.all_eq_true.mp h4 o (List.mem_range.mpr ho)
  rw [show Nat.beq o 0 = false from by cases z : Nat.beq o 0 with | false => rfl | true => exact absurd (am_eqb z) (by omega)] at h5
  have h6 := of_decide_eq_true (show decide (am_sh (TA n + o) = some (.inl (l2_tlen o))) = true from h5)
  unfold am_len
  rw [show Nat.blt (TA n + o) (am_T0 S).2.2 = true from Nat.ble_eq_true_of_le (by have := am_blt h2; show TA n + o + 1 ≤ 148; omega), h6]
  simp
theorem l2_alen (n o : Nat) (S : St) (h0 : 0 < o) (ho : o < 9) (hk : (l2_tlen o).1 < 4) : am_alen (TA n + o) (am_T0 S) = some (l2_tlen o).2 := by
  obtain ⟨h1, h2⟩ := am_len_spec (l2_len n o S h0 ho)
  unfold am_alen
  rw [show Nat.blt (TA n + o) (am_T0 S).2.2 = true from Nat.ble_eq_true_of_le h1, h2]
  show (bif Nat.blt (l2_tlen o).1 4 then some (l2_tlen o).2 else none) = _
  rw [show Nat.blt (l2_tlen o).1 4 = true from Nat.ble_eq_true_of_le hk]
  rfl
/-- a row of ints, by its cell -/
def isIA (a : Nat) : Bool := Nat.blt a 148 && (match am_sh a with | some (.inl (t, _)) => Nat.beq t 0 | _ => false)
def alen (a : Nat) : Nat := match am_sh a with | some (.inl (_, n)) => n | _ => 0
theorem l2_ia {a : Nat} (h : isIA a = true) (S : St) : am_len a 0 (am_T0 S) = some (alen a) := by
  obtain ⟨h1, h2⟩ := am_and h
  unfold am_len alen
  rw [show Nat.blt a (am_T0 S).2.2 = true from h1]
  split at h2
  · rename_i t n hq
    rw [hq, am_eqb h2]
    rfl
  · cases h2
theorem l2_iaa {a : Nat} (h : isIA a = true) (S : St) : am_alen a (am_T0 S) = some (alen a) := by
  obtain ⟨h1, h2⟩ := am_len_spec (l2_ia h S)
  unfold am_alen
  rw [show Nat.blt a (am_T0 S).2.2 = true from Nat.ble_eq_true_of_le h1, h2]
  rfl
/-- a reference is written: the pointers' function goes along -/
theorem l2_slot_inj {a k a' k' j : Nat} (h : l2_slot a k = some j) (h' : l2_slot a' k' = some j) : a' = a ∧ k' = k := by
  unfold l2_slot at h h'
  (repeat' split at h) <;> (repeat' split at h') <;> first | (cases h; done) | (cases h'; done) | (simp only [Option.some.injEq] at h h'; omega)
theorem l2_put {a k j n : Nat} {M : Nat → Nat} (h : l2_slot a k = some j) : am_u2 (PP M) a k (some (TA n)) = PP (va_up M j n) := by
  funext a' k'
  unfold am_u2
  by_cases q : a' = a ∧ k' = k
  · rw [if_pos q, q.1, q.2]
    unfold PP
    rw [h]
    show _ = some (TA (va_up M j n j))
    simp [va_up]
  · rw [if_neg q]
    unfold PP
    cases hs : l2_slot a' k' with
    | none => rfl
    | some j' =>
      have : j' ≠ j := fun e => q (l2_slot_inj h (by rw [hs, e]))
      simp [va_up, this]
