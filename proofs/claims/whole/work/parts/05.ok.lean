/-! ===== the check of a code table against the bytes and the links ===== -/
def am_okT (pc : Nat) : Int → List Int → List (Int32 × Nat) → Bool
  | _, [], [] => true
  | lo, o :: os, (k, t) :: cs => decide (k.toInt = lo) && decide ((pc : Int) + o = (t : Int)) && am_okT pc (lo + 1) os cs
  | _, _, _ => false
def am_okL (pc : Nat) : List (Int × Int) → List (Int32 × Nat) → Bool
  | [], [] => true
  | (a, o) :: ps, (k, t) :: cs => decide (k.toInt = a) && decide ((pc : Int) + o = (t : Int)) && am_okL pc ps cs
  | _, _ => false
def am_hasF (own k x y : Nat) : Bool := am_FL.any (fun q => Nat.beq q.1 own && Nat.beq q.2.1 k && Nat.beq q.2.2.1 x && Nat.beq q.2.2.2.1 y)
def am_has4 (l : List (Nat × Nat × Nat × Nat)) (own k x : Nat) : Bool := l.any (fun q => Nat.beq q.1 own && Nat.beq q.2.1 k && Nat.beq q.2.2.1 x)
def am_has3 (l : List (Nat × Nat × Nat)) (own k : Nat) : Bool := l.any (fun q => Nat.beq q.1 own && Nat.beq q.2.1 k)
def am_okE (j pc : Nat) (e : am_En) : Bool := match e with
  | (i, len, x, y, v, cs) => match i with
    | .iconst n => Nat.beq len 1 && decide (Int32.ofInt n = v)
    | .bipush n => Nat.beq len 2 && decide ((Int8.ofInt n).toInt32 = v)
    | .sipush n => Nat.beq len 3 && decide ((Int16.ofInt n).toInt32 = v)
    | .ldc k => Nat.beq len 2 && am_KL.any (fun q => Nat.beq q.1 (am_own j) && Nat.beq q.2.1 k && decide (q.2.2.1 = v))
    | .iload k => Nat.beq len 2 && Nat.beq x k
    | .iload_n k => Nat.beq len 1 && Nat.beq x k.val
    | .aload k => Nat.beq len 2 && Nat.beq x k
    | .aload_n k => Nat.beq len 1 && Nat.beq x k.val
    | .istore k => Nat.beq len 2 && Nat.beq x k
    | .istore_n k => Nat.beq len 1 && Nat.beq x k.val
    | .astore k => Nat.beq len 2 && Nat.beq x k
    | .astore_n k => Nat.beq len 1 && Nat.beq x k.val
    | .iinc k n => Nat.beq len 3 && Nat.beq x k && decide (v = Int32.ofInt n)
    | .goto off => Nat.beq len 3 && decide ((pc : Int) + off = (x : Int))
    | .ifCond _ off => Nat.beq len 3 && decide ((pc : Int) + off = (x : Int))
    | .if_icmp _ off => Nat.beq len 3 && decide ((pc : Int) + off = (x : Int))
    | .getfield k => Nat.beq len 3 && am_hasF (am_own j) k x y
    | .putfield k => Nat.beq len 3 && am_hasF (am_own j) k x y && (!(am_TX x y).2.2.2 || (Nat.beq (am_mk j) 2 && decide ((am_TX x y).1 = am_cn (am_own j))))
    | .new k => Nat.beq len 3 && am_has4 am_CL (am_own j) k x
    | .newarray t => Nat.beq len 2 && (match t with | .int => Nat.beq x 0 | .byte => Nat.beq x 1 | .boolean => Nat.beq x 2 | _ => false)
    | .anewarray k => Nat.beq len 3 && am_has4 am_CL (am_own j) k 5 && Nat.beq x 3
    | .tableswitch d lo hi offs => decide ((pc : Int) + d = (x : Int)) && am_okT pc lo offs.toList cs && decide (hi + 1 = lo + offs.toList.length)
    | .lookupswitch d ps => decide ((pc : Int) + d = (x : Int)) && am_okL pc ps.toList cs && (ps.toList.zip (ps.toList.drop 1)).all (fun (a, next) => a.1 < next.1)
    | .invokespecial k => Nat.beq len 3 && (bif Nat.beq x 9999 then am_has3 am_OL (am_own j) k else (am_has4 am_ML (am_own j) k x || am_has4 am_MN (am_own j) k x) && Nat.beq (am_mk x) 2 && Nat.beq y (am_np x + 1))
    | .invokestatic k => Nat.beq len 3 && (bif Nat.beq x 9998 then am_has3 am_AC (am_own j) k else bif Nat.beq x 9997 then am_has3 am_MI (am_own j) k else (am_has4 am_ML (am_own j) k x || am_has4 am_MN (am_own j) k x) && Nat.beq (am_mk x) 1 && Nat.beq y (am_np x))
    | .invokevirtual k => Nat.beq len 3 && (am_has4 am_ML (am_own j) k x) && Nat.beq (am_mk x) 0 && Nat.beq y (am_np x + 1)
    | _ => Nat.beq len 1
def am_chk (b : ByteArray) (j : Nat) : Bool := (List.range (am_ln j)).all (fun pc => match am_ct0 j pc with
  | none => true
  | some e => decide (decode b pc = .ok (e.1, e.2.1)) && am_okE j pc e)
def am_Chk (j : Nat) : Prop := ∀ (pc : Nat) (e : am_En), am_ct j pc = some e → decode (am_b j) pc = .ok (e.1, e.2.1) ∧ am_okE j pc e = true
theorem am_chk_spec {b : ByteArray} {j : Nat} (hb : am_b j = b) (h : am_chk b j = true) : am_Chk j := by
  intro pc e he
  unfold am_ct at he
  cases hl : Nat.blt pc (am_ln j) with
  | false => rw [hl] at he; cases he
  | true =>
    rw [hl] at he
    have h1 := List.all_eq_true.mp h pc (List.mem_range.mpr (by have q := hl; simp [Nat.blt] at q; omega))
    have he' : am_ct0 j pc = some e := he
    rw [he'] at h1
    have h2 := Bool.and_eq_true_iff.mp h1
    exact ⟨by rw [hb]; exact of_decide_eq_true h2.1, h2.2⟩
