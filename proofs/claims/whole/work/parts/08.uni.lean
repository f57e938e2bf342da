section AMY
variable {p : Program} {l : Launch} {e : Env} {R : Room} {s : State} {m : MethodId} {args : Array Value} {below : List Frame} {meth : Method} {c : Code} {Q : State → Prop} {D : va_G} {cA : Nat → ClassId} {b j d c0 : Nat}
variable {pc : Nat} {L : List (Option Value)} {st : List Value} {S : am_S}
theorem am_eqb {a b : Nat} (h : Nat.beq a b = true) : a = b := Nat.eq_of_beq_eq_true h
theorem am_and {a b : Bool} (h : (a && b) = true) : a = true ∧ b = true := Bool.and_eq_true_iff.mp h
set_option maxHeartbeats 4000000 in
/-- one instruction -/
theorem am_step {en : am_En} {t : am_F} (X : am_X p R s m args meth c D cA j d) (he : am_ct j pc = some en) (ho : am_op en pc L st S = some t) (hc0 : c0 ≤ S.2.2) (hSc : S.2.2 - c0 ≤ R.cells) (hSs : am_sl S.2.2 - am_sl c0 ≤ R.slots) (hRc : t.2.2.2.2.2 - c0 ≤ R.cells) (hRs : am_sl t.2.2.2.2.2 - am_sl c0 ≤ R.slots) (h : am_G p l e R s m args below meth c Q D cA b j c0 t) : am_G p l e R s m args below meth c Q D cA b j c0 (pc, L, st, S) := by
  obtain ⟨hd, hk⟩ := am_ck X.2.2.2.2.2.2.2.2.2.2.2.2 pc en he
  obtain ⟨i, len, x, y, v, cs⟩ := en
  cases i with
  | iconst n =>
    obtain ⟨k1, k2⟩ := am_and hk
    obtain rfl : len = 1 := am_eqb k1
    cases ho
    exact am_s_iconst X hd (of_decide_eq_true k2) h
  | bipush n =>
    obtain ⟨k1, k2⟩ := am_and hk
    obtain rfl : len = 2 := am_eqb k1
    cases ho
    exact am_s_bipush X hd (of_decide_eq_true k2) h
  | sipush n =>
    obtain ⟨k1, k2⟩ := am_and hk
    obtain rfl : len = 3 := am_eqb k1
    cases ho
    exact am_s_sipush X hd (of_decide_eq_true k2) h
  | ldc n =>
    obtain ⟨k1, k2⟩ := am_and hk
    obtain rfl : len = 2 := am_eqb k1
    cases ho
    exact am_s_ldc X hd (am_wKL k2) h
  | iload k =>
    obtain ⟨k1, k2⟩ := am_and hk
    obtain rfl : len = 2 := am_eqb k1
    obtain rfl : x = k := am_eqb k2
    exact am_s_ild X (Or.inl ⟨rfl, hd⟩) ho h
  | iload_n k =>
    obtain ⟨k1, k2⟩ := am_and hk
    obtain rfl : len = 1 := am_eqb k1
    exact am_s_ild X (Or.inr ⟨rfl, k, (am_eqb k2).symm, hd⟩) ho h
  | aload k =>
    obtain ⟨k1, k2⟩ := am_and hk
    obtain rfl : len = 2 := am_eqb k1
    obtain rfl : x = k := am_eqb k2
    exact am_s_ald X (Or.inl ⟨rfl, hd⟩) ho h
  | aload_n k =>
    obtain ⟨k1, k2⟩ := am_and hk
    obtain rfl : len = 1 := am_eqb k1
    exact am_s_ald X (Or.inr ⟨rfl, k, (am_eqb k2).symm, hd⟩) ho h
  | istore k =>
    obtain ⟨k1, k2⟩ := am_and hk
    obtain rfl : len = 2 := am_eqb k1
    obtain rfl : x = k := am_eqb k2
    exact am_s_ist X (Or.inl ⟨rfl, hd⟩) ho h
  | istore_n k =>
    obtain ⟨k1, k2⟩ := am_and hk
    obtain rfl : len = 1 := am_eqb k1
    exact am_s_ist X (Or.inr ⟨rfl, k, (am_eqb k2).symm, hd⟩) ho h
  | astore k =>
    obtain ⟨k1, k2⟩ := am_and hk
    obtain rfl : len = 2 := am_eqb k1
    obtain rfl : x = k := am_eqb k2
    exact am_s_ast X (Or.inl ⟨rfl, hd⟩) ho h
  | astore_n k =>
    obtain ⟨k1, k2⟩ := am_and hk
    obtain rfl : len = 1 := am_eqb k1
    exact am_s_ast X (Or.inr ⟨rfl, k, (am_eqb k2).symm, hd⟩) ho h
  | iinc k n =>
    obtain ⟨k1, k3⟩ := am_and hk
    obtain ⟨k1, k2⟩ := am_and k1
    obtain rfl : len = 3 := am_eqb k1
    obtain rfl : x = k := am_eqb k2
    exact am_s_iinc X hd (of_decide_eq_true k3) ho h
  | iadd =>
    obtain rfl : len = 1 := am_eqb hk
    exact am_s_iadd X hd ho h
  | isub =>
    obtain rfl : len = 1 := am_eqb hk
    exact am_s_isub X hd ho h
  | imul =>
    obtain rfl : len = 1 := am_eqb hk
    exact am_s_imul X hd ho h
  | iand =>
    obtain rfl : len = 1 := am_eqb hk
    exact am_s_iand X hd ho h
  | ior =>
    obtain rfl : len = 1 := am_eqb hk
    exact am_s_ior X hd ho h
  | ixor =>
    obtain rfl : len = 1 := am_eqb hk
    exact am_s_ixor X hd ho h
  | ishl =>
    obtain rfl : len = 1 := am_eqb hk
    exact am_s_ishl X hd ho h
  | ishr =>
    obtain rfl : len = 1 := am_eqb hk
    exact am_s_ishr X hd ho h
  | iushr =>
    obtain rfl : len = 1 := am_eqb hk
    exact am_s_iushr X hd ho h
  | i2b =>
    obtain rfl : len = 1 := am_eqb hk
    exact am_s_i2b X hd ho h
  | dup =>
    obtain rfl : len = 1 := am_eqb hk
    exact am_s_dup X hd ho h
  | pop =>
    obtain rfl : len = 1 := am_eqb hk
    exact am_s_pop X hd ho h
  | dup2 =>
    obtain rfl : len = 1 := am_eqb hk
    exact am_s_dup2 X hd ho h
  | iaload =>
    obtain rfl : len = 1 := am_eqb hk
    exact am_s_iald X hd ho h
  | baload =>
    obtain rfl : len = 1 := am_eqb hk
    exact am_s_bald X hd ho h
  | aaload =>
    obtain rfl : len = 1 := am_eqb hk
    exact am_s_aald X hd ho h
  | iastore =>
    obtain rfl : len = 1 := am_eqb hk
    exact am_s_iast X hd ho h
  | bastore =>
    obtain rfl : len = 1 := am_eqb hk
    exact am_s_bast X hd ho h
  | aastore =>
    obtain rfl : len = 1 := am_eqb hk
    exact am_s_aast X hd ho h
  | arraylength =>
    obtain rfl : len = 1 := am_eqb hk
    exact am_s_len X hd ho h
  | goto off =>
    obtain ⟨k1, k2⟩ := am_and hk
    obtain rfl : len = 3 := am_eqb k1
    cases ho
    exact am_s_goto X hd (of_decide_eq_true k2) h
  | ifCond k off =>
    obtain ⟨k1, k2⟩ := am_and hk
    obtain rfl : len = 3 := am_eqb k1
    exact am_s_if X hd (of_decide_eq_true k2) ho h
  | if_icmp k off =>
    obtain ⟨k1, k2⟩ := am_and hk
    obtain rfl : len = 3 := am_eqb k1
    exact am_s_icmp X hd (of_decide_eq_true k2) ho h
  | getfield k =>
    obtain ⟨k1, k2⟩ := am_and hk
    obtain rfl : len = 3 := am_eqb k1
    exact am_s_getf X hd k2 ho h
  | putfield k =>
    obtain ⟨k1, k3⟩ := am_and hk
    obtain ⟨k1, k2⟩ := am_and k1
    obtain rfl : len = 3 := am_eqb k1
    refine am_s_putf X hd k2 ?_ ho h
    rcases Bool.or_eq_true_iff.mp k3 with q | q
    · exact Or.inl (by simpa using q)
    · obtain ⟨q1, q2⟩ := am_and q
      cases hz : (am_TX x y).2.2.2 with
      | false => exact Or.inl rfl
      | true => exact Or.inr ⟨rfl, am_eqb q1, of_decide_eq_true q2⟩
  | new k =>
    obtain ⟨k1, k2⟩ := am_and hk
    obtain rfl : len = 3 := am_eqb k1
    exact am_s_newo X hd k2 ho hc0 hRc hRs h
  | newarray t0 =>
    obtain ⟨k1, k2⟩ := am_and hk
    obtain rfl : len = 2 := am_eqb k1
    refine am_s_newa X hd ?_ ho hc0 hRc hRs h
    cases t0 with
    | int => exact Or.inl ⟨rfl, am_eqb k2⟩
    | byte => exact Or.inr (Or.inl ⟨rfl, am_eqb k2⟩)
    | boolean => exact Or.inr (Or.inr ⟨rfl, am_eqb k2⟩)
    | _ => cases k2
  | anewarray k =>
    obtain ⟨k1, k3⟩ := am_and hk
    obtain ⟨k1, k2⟩ := am_and k1
    obtain rfl : len = 3 := am_eqb k1
    obtain rfl : x = 3 := am_eqb k3
    exact am_s_anew X hd k2 ho hc0 hRc hRs h
  | tableswitch dI lo hi os =>
    obtain ⟨k1, k3⟩ := am_and hk
    obtain ⟨k1, k2⟩ := am_and k1
    exact am_s_tab X hd (of_decide_eq_true k1) k2 (of_decide_eq_true k3) ho h
  | lookupswitch dI ps =>
    obtain ⟨k1, k3⟩ := am_and hk
    obtain ⟨k1, k2⟩ := am_and k1
    exact am_s_look X hd (of_decide_eq_true k1) k2 k3 ho h
  | invokespecial k =>
    obtain ⟨k1, k2⟩ := am_and hk
    obtain rfl : len = 3 := am_eqb k1
    have ho : (bif Nat.beq x 9999 then am_oin pc L st S else none) = some t := ho
    cases hx : Nat.beq x 9999 with
    | false => rw [hx] at ho; cases ho
    | true =>
      rw [hx] at ho k2
      exact am_s_oin X hd k2 ho h
  | invokestatic k =>
    obtain ⟨k1, k2⟩ := am_and hk
    obtain rfl : len = 3 := am_eqb k1
    have ho : (bif Nat.beq x 9998 then am_copy pc L st S else bif Nat.beq x 9997 then am_min pc L st S else none) = some t := ho
    cases hx : Nat.beq x 9998 with
    | false =>
      rw [hx] at ho k2
      cases hx : Nat.beq x 9997 with
      | false => rw [hx] at ho; cases ho
      | true =>
        rw [hx] at ho k2
        exact am_s_min X hSc hSs hd k2 ho h
    | true =>
      rw [hx] at ho k2
      exact am_s_copy X hd k2 ho h
  | _ => cases ho
end AMY
