/-! ===== the abstract machine: its states, one instruction, a body's run, a call ===== -/
abbrev am_I : Type := Nat → Nat → Int32
abbrev am_P : Type := Nat → Nat → Option Nat
/-- ints by cell and place, references by cell and place, how many cells there are -/
abbrev am_S : Type := am_I × am_P × Nat
/-- program counter, locals, stack, heap -/
abbrev am_F : Type := Nat × List (Option Value) × List Value × am_S
/-- instruction, its length, two numbers, a value, a switch's cases -/
abbrev am_En : Type := Instr × Nat × Nat × Nat × Int32 × List (Int32 × Nat)
def am_u2 {α : Type} (f : Nat → Nat → α) (a i : Nat) (v : α) : Nat → Nat → α := fun a' i' => if a' = a ∧ i' = i then v else f a' i'
def am_u1 {α : Type} (f : Nat → Nat → α) (a : Nat) (g : Nat → α) : Nat → Nat → α := fun a' => if a' = a then g else f a'
/-- a field's value: kind 2 is a reference -/
def am_fv (k : Nat) (i : Int32) (p : Option Nat) : Value := bif Nat.beq k 2 then va_rf p else .int i
def am_isO (a ci : Nat) (S : am_S) : Bool := Nat.blt a S.2.2 && (match am_sh a with | some (.inr c) => Nat.beq c ci | _ => false)
def am_isA (a t n : Nat) : Bool := match am_sh a with | some (.inl (t', n')) => Nat.beq t' t && Nat.beq n' n | _ => false
/-- the length of the array of a kind at a cell -/
def am_len (a t : Nat) (S : am_S) : Option Nat := bif Nat.blt a S.2.2 then (match am_sh a with | some (.inl (t', n)) => bif Nat.beq t' t then some n else none | _ => none) else none
def am_alen (a : Nat) (S : am_S) : Option Nat := bif Nat.blt a S.2.2 then (match am_sh a with | some (.inl (t, n)) => bif Nat.blt t 4 then some n else none | _ => none) else none
/-- may a field of this kind hold the value (1: a boolean) -/
def am_okv (k : Nat) (w : Value) : Bool := match w with
  | .int n => (bif Nat.beq k 0 then true else bif Nat.beq k 1 then (n == 0 || n == 1) else false)
  | .ref _ => Nat.beq k 2
  | .null => Nat.beq k 2
  | _ => false
def am_put (S : am_S) (a y : Nat) (w : Value) : am_S := match w with
  | .int n => (am_u2 S.1 a y n, S.2.1, S.2.2)
  | .ref t => (S.1, am_u2 S.2.1 a y (some t), S.2.2)
  | _ => (S.1, am_u2 S.2.1 a y none, S.2.2)
def am_new (S : am_S) : am_S := (am_u1 S.1 S.2.2 (fun _ => 0), am_u1 S.2.1 S.2.2 (fun _ => none), S.2.2 + 1)
def am_sw : List (Int32 × Nat) → Nat → Int32 → Nat
  | [], d, _ => d
  | (k, t) :: r, d, v => if v = k then t else am_sw r d v
def am_bin (f : Int32 → Int32 → Int32) (len pc : Nat) (L : List (Option Value)) (st : List Value) (S : am_S) : Option am_F := match st with
  | .int y :: .int x :: r => some (pc + len, L, .int (f x y) :: r, S)
  | _ => none
def am_ild (x len pc : Nat) (L : List (Option Value)) (st : List Value) (S : am_S) : Option am_F := match L[x]? with
  | some (some (.int a)) => some (pc + len, L, .int a :: st, S)
  | _ => none
def am_ald (x len pc : Nat) (L : List (Option Value)) (st : List Value) (S : am_S) : Option am_F := match L[x]? with
  | some (some (.ref a)) => some (pc + len, L, .ref a :: st, S)
  | _ => none
def am_ist (x len pc : Nat) (L : List (Option Value)) (st : List Value) (S : am_S) : Option am_F := match st with
  | .int a :: r => bif Nat.blt x L.length then some (pc + len, L.set x (some (.int a)), r, S) else none
  | _ => none
def am_ast (x len pc : Nat) (L : List (Option Value)) (st : List Value) (S : am_S) : Option am_F := match st with
  | .ref a :: r => bif Nat.blt x L.length then some (pc + len, L.set x (some (.ref a)), r, S) else none
  | _ => none
def am_iinc (x : Nat) (v : Int32) (len pc : Nat) (L : List (Option Value)) (st : List Value) (S : am_S) : Option am_F := match L[x]? with
  | some (some (.int a)) => bif Nat.blt x L.length then some (pc + len, L.set x (some (.int (a + v))), st, S) else none
  | _ => none
def am_if (k : ClassFile.Cond) (len x pc : Nat) (L : List (Option Value)) (st : List Value) (S : am_S) : Option am_F := match st with
  | .int a :: r => (match k with
    | .eq => some (if a = 0 then x else pc + len, L, r, S)
    | .ne => some (if a = 0 then pc + len else x, L, r, S)
    | .lt => some (if a < 0 then x else pc + len, L, r, S)
    | .ge => some (if 0 ≤ a then x else pc + len, L, r, S)
    | .gt => some (if 0 < a then x else pc + len, L, r, S)
    | .le => some (if a ≤ 0 then x else pc + len, L, r, S))
  | _ => none
def am_icmp (k : ClassFile.Cond) (len x pc : Nat) (L : List (Option Value)) (st : List Value) (S : am_S) : Option am_F := match st with
  | .int b :: .int a :: r => (match k with
    | .eq => some (if a = b then x else pc + len, L, r, S)
    | .ne => some (if a = b then pc + len else x, L, r, S)
    | .lt => some (if a < b then x else pc + len, L, r, S)
    | .ge => some (if b ≤ a then x else pc + len, L, r, S)
    | .gt => some (if b < a then x else pc + len, L, r, S)
    | .le => some (if a ≤ b then x else pc + len, L, r, S))
  | _ => none
def am_getf (x y len pc : Nat) (L : List (Option Value)) (st : List Value) (S : am_S) : Option am_F := match st with
  | .ref a :: r => bif am_isO a x S then some (pc + len, L, am_fv (am_fk x y) (S.1 a y) (S.2.1 a y) :: r, S) else none
  | _ => none
def am_putf (x y len pc : Nat) (L : List (Option Value)) (st : List Value) (S : am_S) : Option am_F := match st with
  | w :: .ref a :: r => bif am_isO a x S && am_okv (am_fk x y) w then some (pc + len, L, r, am_put S a y w) else none
  | _ => none
/-- is the place in the row -/
abbrev am_in (i : Int32) (n : Nat) : Prop := ¬ (i < 0 ∨ n ≤ i.toNatClampNeg)
def am_iald (pc : Nat) (L : List (Option Value)) (st : List Value) (S : am_S) : Option am_F := match st with
  | .int i :: .ref a :: r => (match am_len a 0 S with
    | some n => if i < 0 ∨ n ≤ i.toNatClampNeg then none else some (pc + 1, L, .int (S.1 a i.toNatClampNeg) :: r, S)
    | none => none)
  | _ => none
def am_bald (pc : Nat) (L : List (Option Value)) (st : List Value) (S : am_S) : Option am_F := match st with
  | .int i :: .ref a :: r => (match am_len a 1 S with
    | some n => if i < 0 ∨ n ≤ i.toNatClampNeg then none else some (pc + 1, L, .int (S.1 a i.toNatClampNeg) :: r, S)
    | none => (match am_len a 2 S with
      | some n => if i < 0 ∨ n ≤ i.toNatClampNeg then none else some (pc + 1, L, .int (S.1 a i.toNatClampNeg) :: r, S)
      | none => none))
  | _ => none
def am_aald (pc : Nat) (L : List (Option Value)) (st : List Value) (S : am_S) : Option am_F := match st with
  | .int i :: .ref a :: r => (match am_len a 3 S with
    | some n => if i < 0 ∨ n ≤ i.toNatClampNeg then none else some (pc + 1, L, va_rf (S.2.1 a i.toNatClampNeg) :: r, S)
    | none => none)
  | _ => none
def am_iast (pc : Nat) (L : List (Option Value)) (st : List Value) (S : am_S) : Option am_F := match st with
  | .int v :: .int i :: .ref a :: r => (match am_len a 0 S with
    | some n => if i < 0 ∨ n ≤ i.toNatClampNeg then none else some (pc + 1, L, r, (am_u2 S.1 a i.toNatClampNeg v, S.2.1, S.2.2))
    | none => none)
  | _ => none
def am_bast (pc : Nat) (L : List (Option Value)) (st : List Value) (S : am_S) : Option am_F := match st with
  | .int v :: .int i :: .ref a :: r => (match am_len a 1 S with
    | some n => if i < 0 ∨ n ≤ i.toNatClampNeg then none else some (pc + 1, L, r, (am_u2 S.1 a i.toNatClampNeg v.toInt8.toInt32, S.2.1, S.2.2))
    | none => (match am_len a 2 S with
      | some n => if i < 0 ∨ n ≤ i.toNatClampNeg then none else some (pc + 1, L, r, (am_u2 S.1 a i.toNatClampNeg (v &&& 1), S.2.1, S.2.2))
      | none => none))
  | _ => none
def am_aast (pc : Nat) (L : List (Option Value)) (st : List Value) (S : am_S) : Option am_F := match st with
  | .ref t :: .int i :: .ref a :: r => bif am_isO t 5 S then (match am_len a 3 S with
    | some n => if i < 0 ∨ n ≤ i.toNatClampNeg then none else some (pc + 1, L, r, (S.1, am_u2 S.2.1 a i.toNatClampNeg (some t), S.2.2))
    | none => none) else none
  | _ => none
def am_len1 (pc : Nat) (L : List (Option Value)) (st : List Value) (S : am_S) : Option am_F := match st with
  | .ref a :: r => (match am_alen a S with
    | some n => some (pc + 1, L, .int (nI n) :: r, S)
    | none => none)
  | _ => none
def am_newo (x len pc : Nat) (L : List (Option Value)) (st : List Value) (S : am_S) : Option am_F :=
  bif Nat.blt S.2.2 am_cT && (match am_sh S.2.2 with | some (.inr c) => Nat.beq c x | _ => false) then some (pc + len, L, .ref S.2.2 :: st, am_new S) else none
def am_newa (x len pc : Nat) (L : List (Option Value)) (st : List Value) (S : am_S) : Option am_F := match st with
  | .int n :: r => if n < 0 then none else bif Nat.blt S.2.2 am_cT && (am_isA S.2.2 x n.toNatClampNeg && Nat.ble n.toNatClampNeg 1000000) then some (pc + len, L, .ref S.2.2 :: r, am_new S) else none
  | _ => none
def am_copy (pc : Nat) (L : List (Option Value)) (st : List Value) (S : am_S) : Option am_F := match st with
  | .int n :: .int dp :: .ref a :: .int sp :: .ref a0 :: r => (match am_len a0 0 S, am_len a 0 S with
    | some n0, some n1 => if sp < 0 ∨ dp < 0 ∨ n < 0 ∨ n0 < sp.toNatClampNeg + n.toNatClampNeg ∨ n1 < dp.toNatClampNeg + n.toNatClampNeg ∨ S.2.2 < am_cT ∨ r ≠ [] then none
      else some (pc + 3, L, r, (am_u1 S.1 a (va_cpy (S.1 a0) (S.1 a) sp.toNatClampNeg dp.toNatClampNeg n.toNatClampNeg), S.2.1, S.2.2))
    | _, _ => none)
  | _ => none
def am_c1 (v : Value) : Bool := match v with | .int _ => true | .ref _ => true | .null => true | _ => false
def am_dup (pc : Nat) (L : List (Option Value)) (st : List Value) (S : am_S) : Option am_F := match st with
  | w :: r => bif am_c1 w then some (pc + 1, L, w :: w :: r, S) else none
  | _ => none
def am_pop (pc : Nat) (L : List (Option Value)) (st : List Value) (S : am_S) : Option am_F := match st with
  | w :: r => bif am_c1 w then some (pc + 1, L, r, S) else none
  | _ => none
def am_dup2 (pc : Nat) (L : List (Option Value)) (st : List Value) (S : am_S) : Option am_F := match st with
  | w :: u :: r => bif am_c1 w && am_c1 u then some (pc + 1, L, w :: u :: w :: u :: r, S) else none
  | _ => none
def am_i2b (pc : Nat) (L : List (Option Value)) (st : List Value) (S : am_S) : Option am_F := match st with
  | .int a :: r => some (pc + 1, L, .int a.toInt8.toInt32 :: r, S)
  | _ => none
def am_swi (cs : List (Int32 × Nat)) (x : Nat) (L : List (Option Value)) (st : List Value) (S : am_S) : Option am_F := match st with
  | .int a :: r => some (am_sw cs x a, L, r, S)
  | _ => none
def am_oin (pc : Nat) (L : List (Option Value)) (st : List Value) (S : am_S) : Option am_F := match st with
  | .ref _ :: r => bif Nat.ble r.length 8 && r.all am_c1 then some (pc + 3, L, r, S) else none
  | _ => none
def am_min (pc : Nat) (L : List (Option Value)) (st : List Value) (S : am_S) : Option am_F := match st with
  | .int y :: .int x :: r => bif Nat.ble r.length 8 && r.all am_c1 then some (pc + 3, L, .int (if y < x then y else x) :: r, S) else none
  | _ => none
/-- one instruction that is neither a call nor a return -/
def am_op (e : am_En) (pc : Nat) (L : List (Option Value)) (st : List Value) (S : am_S) : Option am_F := match e with
  | (i, len, x, y, v, cs) => match i with
    | .iconst _ => some (pc + len, L, .int v :: st, S)
    | .bipush _ => some (pc + len, L, .int v :: st, S)
    | .sipush _ => some (pc + len, L, .int v :: st, S)
    | .ldc _ => some (pc + len, L, .int v :: st, S)
    | .iload _ => am_ild x len pc L st S
    | .iload_n _ => am_ild x len pc L st S
    | .aload _ => am_ald x len pc L st S
    | .aload_n _ => am_ald x len pc L st S
    | .istore _ => am_ist x len pc L st S
    | .istore_n _ => am_ist x len pc L st S
    | .astore _ => am_ast x len pc L st S
    | .astore_n _ => am_ast x len pc L st S
    | .iinc _ _ => am_iinc x v len pc L st S
    | .iadd => am_bin (fun a b => a + b) len pc L st S
    | .isub => am_bin (fun a b => a - b) len pc L st S
    | .imul => am_bin (fun a b => a * b) len pc L st S
    | .iand => am_bin (fun a b => a &&& b) len pc L st S
    | .ior => am_bin (fun a b => a ||| b) len pc L st S
    | .ixor => am_bin (fun a b => a ^^^ b) len pc L st S
    | .ishl => am_bin (fun a b => a <<< (b &&& 31)) len pc L st S
    | .ishr => am_bin (fun a b => a >>> (b &&& 31)) len pc L st S
    | .iushr => am_bin (fun a b => (a.toUInt32 >>> (b.toUInt32 &&& Int32.toUInt32 31)).toInt32) len pc L st S
    | .i2b => am_i2b pc L st S
    | .dup => am_dup pc L st S
    | .pop => am_pop pc L st S
    | .dup2 => am_dup2 pc L st S
    | .goto _ => some (x, L, st, S)
    | .ifCond k _ => am_if k len x pc L st S
    | .if_icmp k _ => am_icmp k len x pc L st S
    | .getfield _ => am_getf x y len pc L st S
    | .putfield _ => am_putf x y len pc L st S
    | .iaload => am_iald pc L st S
    | .baload => am_bald pc L st S
    | .aaload => am_aald pc L st S
    | .iastore => am_iast pc L st S
    | .bastore => am_bast pc L st S
    | .aastore => am_aast pc L st S
    | .arraylength => am_len1 pc L st S
    | .new _ => am_newo x len pc L st S
    | .newarray _ => am_newa x len pc L st S
    | .anewarray _ => am_newa x len pc L st S
    | .tableswitch _ _ _ _ => am_swi cs x L st S
    | .lookupswitch _ _ => am_swi cs x L st S
    | .invokespecial _ => bif Nat.beq x 9999 then am_oin pc L st S else none
    | .invokestatic _ => bif Nat.beq x 9998 then am_copy pc L st S else bif Nat.beq x 9997 then am_min pc L st S else none
    | _ => none
/-- a call: the callee's number, its arguments, what is left of the stack -/
def am_cl (e : am_En) (st : List Value) (S : am_S) : Option (Nat × List Value × List Value) := match e with
  | (i, _, x, y, _, _) => bif Nat.ble 9997 x || !(Nat.ble y st.length) || !(Nat.ble (st.drop y).length 8) || !((st.drop y).all am_c1) || !((st.take y).all am_c1) then none else match i with
    | .invokestatic _ => some (x, (st.take y).reverse, st.drop y)
    | .invokespecial _ => (match (st.take y).reverse with
      | .ref _ :: _ => some (x, (st.take y).reverse, st.drop y)
      | _ => none)
    | .invokevirtual _ => (match (st.take y).reverse with
      | .ref a :: _ => bif am_isO a (am_own x) S then some (x, (st.take y).reverse, st.drop y) else none
      | _ => none)
    | _ => none
/-- a return: rz says that the method answers a boolean -/
def am_rt (rk : Nat) (e : am_En) (st : List Value) (S : am_S) : Option (Option Value × am_S) := match e with
  | (i, _) => match i with
    | .ireturn => (match st with
      | [.int v] => bif Nat.beq rk 1 then some (some (.int v), S) else bif Nat.beq rk 2 && (v == 0 || v == 1) then some (some (.int v), S) else none
      | _ => none)
    | .return_ => (match st with
      | [] => bif Nat.beq rk 0 then some (none, S) else none
      | _ => none)
    | _ => none
abbrev am_K : Type := Nat → List Value → am_S → Option Value × am_S → Prop
/-- a predicate of frames that goes back over every instruction of a body that ends with res -/
def am_Cl (K : am_K) (ct : Nat → Option am_En) (rk : Nat) (res : Option Value × am_S) (G : am_F → Prop) : Prop :=
  (∀ (e : am_En) (pc : Nat) (L : List (Option Value)) (st : List Value) (S : am_S) (t : am_F), ct pc = some e → am_op e pc L st S = some t → G t → G (pc, L, st, S)) ∧
  (∀ (e : am_En) (pc : Nat) (L : List (Option Value)) (st : List Value) (S : am_S) (j : Nat) (as r : List Value) (o : Option Value) (S1 : am_S), ct pc = some e → am_cl e st S = some (j, as, r) → K j as S (o, S1) → G (pc + 3, L, o.toList ++ r, S1) → G (pc, L, st, S)) ∧
  (∀ (e : am_En) (pc : Nat) (L : List (Option Value)) (st : List Value) (S : am_S), ct pc = some e → am_rt rk e st S = some res → G (pc, L, st, S))
def am_Rn (K : am_K) (ct : Nat → Option am_En) (rk : Nat) (res : Option Value × am_S) (t : am_F) : Prop := ∀ G : am_F → Prop, am_Cl K ct rk res G → G t
/-- the locals at a body's start -/
def am_L0 (n : Nat) (as : List Value) : List (Option Value) := as.map some ++ List.replicate (n - as.length) none
def am_C : Nat → am_K
  | 0 => fun _ _ _ _ => False
  | d + 1 => fun j as S res => am_Rn (am_C d) (am_ct j) (am_rk j) res (0, am_L0 (am_mx j) as, [], S)
theorem am_Rn.op {K : am_K} {ct : Nat → Option am_En} {rk : Nat} {res : Option Value × am_S} {pc : Nat} {L : List (Option Value)} {st : List Value} {S : am_S} (e : am_En) (t : am_F) (he : ct pc = some e) (ho : am_op e pc L st S = some t) (h : am_Rn K ct rk res t) : am_Rn K ct rk res (pc, L, st, S) :=
  fun G hG => hG.1 e pc L st S t he ho (h G hG)
theorem am_Rn.cl {K : am_K} {ct : Nat → Option am_En} {rk : Nat} {res : Option Value × am_S} {pc : Nat} {L : List (Option Value)} {st : List Value} {S : am_S} (e : am_En) {j : Nat} {as r : List Value} (o : Option Value) (S1 : am_S) (he : ct pc = some e) (hc : am_cl e st S = some (j, as, r)) (hK : K j as S (o, S1)) (h : am_Rn K ct rk res (pc + 3, L, o.toList ++ r, S1)) : am_Rn K ct rk res (pc, L, st, S) :=
  fun G hG => hG.2.1 e pc L st S j as r o S1 he hc hK (h G hG)
theorem am_Rn.rt {K : am_K} {ct : Nat → Option am_En} {rk : Nat} {res : Option Value × am_S} {pc : Nat} {L : List (Option Value)} {st : List Value} {S : am_S} (e : am_En) (he : ct pc = some e) (hr : am_rt rk e st S = some res) : am_Rn K ct rk res (pc, L, st, S) :=
  fun _ hG => hG.2.2 e pc L st S he hr
