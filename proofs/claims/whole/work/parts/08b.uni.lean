theorem am_bifc {q : Bool} {c : Nat} {x t : am_F} (h : (bif q then some x else none) = some t) (hx : c ≤ x.2.2.2.2.2) : c ≤ t.2.2.2.2.2 := by
  obtain ⟨-, rfl⟩ := am_bif h
  exact hx
theorem am_bifo {q : Bool} {o : Option am_F} {t : am_F} (h : (bif q then o else none) = some t) : o = some t := by
  cases q with
  | true => exact h
  | false => cases h
set_option maxHeartbeats 4000000 in
theorem am_op_mono {en : am_En} {pc : Nat} {L : List (Option Value)} {st : List Value} {S : am_S} {t : am_F} (ho : am_op en pc L st S = some t) : S.2.2 ≤ t.2.2.2.2.2 := by
  obtain ⟨i, len, x, y, v, cs⟩ := en
  cases i with
  | iconst n =>
    cases ho; exact Nat.le_refl _
  | bipush n =>
    cases ho; exact Nat.le_refl _
  | sipush n =>
    cases ho; exact Nat.le_refl _
  | ldc n =>
    cases ho; exact Nat.le_refl _
  | goto n =>
    cases ho; exact Nat.le_refl _
  | iload k =>
    have ho : am_ild x len pc L st S = some t := ho
    unfold am_ild at ho
    (repeat' split at ho) <;> first | (cases ho; done) | (cases ho; exact Nat.le_refl _) | exact am_bifc ho (Nat.le_refl _)
  | iload_n k =>
    have ho : am_ild x len pc L st S = some t := ho
    unfold am_ild at ho
    (repeat' split at ho) <;> first | (cases ho; done) | (cases ho; exact Nat.le_refl _) | exact am_bifc ho (Nat.le_refl _)
  | aload k =>
    have ho : am_ald x len pc L st S = some t := ho
    unfold am_ald at ho
    (repeat' split at ho) <;> first | (cases ho; done) | (cases ho; exact Nat.le_refl _) | exact am_bifc ho (Nat.le_refl _)
  | aload_n k =>
    have ho : am_ald x len pc L st S = some t := ho
    unfold am_ald at ho
    (repeat' split at ho) <;> first | (cases ho; done) | (cases ho; exact Nat.le_refl _) | exact am_bifc ho (Nat.le_refl _)
  | istore k =>
    have ho : am_ist x len pc L st S = some t := ho
    unfold am_ist at ho
    (repeat' split at ho) <;> first | (cases ho; done) | (cases ho; exact Nat.le_refl _) | exact am_bifc ho (Nat.le_refl _)
  | istore_n k =>
    have ho : am_ist x len pc L st S = some t := ho
    unfold am_ist at ho
    (repeat' split at ho) <;> first | (cases ho; done) | (cases ho; exact Nat.le_refl _) | exact am_bifc ho (Nat.le_refl _)
  | astore k =>
    have ho : am_ast x len pc L st S = some t := ho
    unfold am_ast at ho
    (repeat' split at ho) <;> first | (cases ho; done) | (cases ho; exact Nat.le_refl _) | exact am_bifc ho (Nat.le_refl _)
  | astore_n k =>
    have ho : am_ast x len pc L st S = some t := ho
    unfold am_ast at ho
    (repeat' split at ho) <;> first | (cases ho; done) | (cases ho; exact Nat.le_refl _) | exact am_bifc ho (Nat.le_refl _)
  | iinc k n =>
    have ho : am_iinc x v len pc L st S = some t := ho
    unfold am_iinc at ho
    (repeat' split at ho) <;> first | (cases ho; done) | (cases ho; exact Nat.le_refl _) | exact am_bifc ho (Nat.le_refl _)
  | iadd =>
    have ho : am_bin (fun a b => a + b) len pc L st S = some t := ho
    unfold am_bin at ho
    (repeat' split at ho) <;> first | (cases ho; done) | (cases ho; exact Nat.le_refl _) | exact am_bifc ho (Nat.le_refl _)
  | isub =>
    have ho : am_bin (fun a b => a - b) len pc L st S = some t := ho
    unfold am_bin at ho
    (repeat' split at ho) <;> first | (cases ho; done) | (cases ho; exact Nat.le_refl _) | exact am_bifc ho (Nat.le_refl _)
  | imul =>
    have ho : am_bin (fun a b => a * b) len pc L st S = some t := ho
    unfold am_bin at ho
    (repeat' split at ho) <;> first | (cases ho; done) | (cases ho; exact Nat.le_refl _) | exact am_bifc ho (Nat.le_refl _)
  | iand =>
    have ho : am_bin (fun a b => a &&& b) len pc L st S = some t := ho
    unfold am_bin at ho
    (repeat' split at ho) <;> first | (cases ho; done) | (cases ho; exact Nat.le_refl _) | exact am_bifc ho (Nat.le_refl _)
  | ior =>
    have ho : am_bin (fun a b => a ||| b) len pc L st S = some t := ho
    unfold am_bin at ho
    (repeat' split at ho) <;> first | (cases ho; done) | (cases ho; exact Nat.le_refl _) | exact am_bifc ho (Nat.le_refl _)
  | ixor =>
    have ho : am_bin (fun a b => a ^^^ b) len pc L st S = some t := ho
    unfold am_bin at ho
    (repeat' split at ho) <;> first | (cases ho; done) | (cases ho; exact Nat.le_refl _) | exact am_bifc ho (Nat.le_refl _)
  | ishl =>
    have ho : am_bin (fun a b => a <<< (b &&& 31)) len pc L st S = some t := ho
    unfold am_bin at ho
    (repeat' split at ho) <;> first | (cases ho; done) | (cases ho; exact Nat.le_refl _) | exact am_bifc ho (Nat.le_refl _)
  | ishr =>
    have ho : am_bin (fun a b => a >>> (b &&& 31)) len pc L st S = some t := ho
    unfold am_bin at ho
    (repeat' split at ho) <;> first | (cases ho; done) | (cases ho; exact Nat.le_refl _) | exact am_bifc ho (Nat.le_refl _)
  | iushr =>
    have ho : am_bin (fun a b => (a.toUInt32 >>> (b.toUInt32 &&& Int32.toUInt32 31)).toInt32) len pc L st S = some t := ho
    unfold am_bin at ho
    (repeat' split at ho) <;> first | (cases ho; done) | (cases ho; exact Nat.le_refl _) | exact am_bifc ho (Nat.le_refl _)
  | i2b =>
    have ho : am_i2b pc L st S = some t := ho
    unfold am_i2b at ho
    (repeat' split at ho) <;> first | (cases ho; done) | (cases ho; exact Nat.le_refl _) | exact am_bifc ho (Nat.le_refl _)
  | dup =>
    have ho : am_dup pc L st S = some t := ho
    unfold am_dup at ho
    (repeat' split at ho) <;> first | (cases ho; done) | (cases ho; exact Nat.le_refl _) | exact am_bifc ho (Nat.le_refl _)
  | pop =>
    have ho : am_pop pc L st S = some t := ho
    unfold am_pop at ho
    (repeat' split at ho) <;> first | (cases ho; done) | (cases ho; exact Nat.le_refl _) | exact am_bifc ho (Nat.le_refl _)
  | dup2 =>
    have ho : am_dup2 pc L st S = some t := ho
    unfold am_dup2 at ho
    (repeat' split at ho) <;> first | (cases ho; done) | (cases ho; exact Nat.le_refl _) | exact am_bifc ho (Nat.le_refl _)
  | iaload =>
    have ho : am_iald pc L st S = some t := ho
    unfold am_iald at ho
    (repeat' split at ho) <;> first | (cases ho; done) | (cases ho; exact Nat.le_refl _) | exact am_bifc ho (Nat.le_refl _)
  | baload =>
    have ho : am_bald pc L st S = some t := ho
    unfold am_bald at ho
    (repeat' split at ho) <;> first | (cases ho; done) | (cases ho; exact Nat.le_refl _) | exact am_bifc ho (Nat.le_refl _)
  | aaload =>
    have ho : am_aald pc L st S = some t := ho
    unfold am_aald at ho
    (repeat' split at ho) <;> first | (cases ho; done) | (cases ho; exact Nat.le_refl _) | exact am_bifc ho (Nat.le_refl _)
  | iastore =>
    have ho : am_iast pc L st S = some t := ho
    unfold am_iast at ho
    (repeat' split at ho) <;> first | (cases ho; done) | (cases ho; exact Nat.le_refl _) | exact am_bifc ho (Nat.le_refl _)
  | bastore =>
    have ho : am_bast pc L st S = some t := ho
    unfold am_bast at ho
    (repeat' split at ho) <;> first | (cases ho; done) | (cases ho; exact Nat.le_refl _) | exact am_bifc ho (Nat.le_refl _)
  | arraylength =>
    have ho : am_len1 pc L st S = some t := ho
    unfold am_len1 at ho
    (repeat' split at ho) <;> first | (cases ho; done) | (cases ho; exact Nat.le_refl _) | exact am_bifc ho (Nat.le_refl _)
  | aastore =>
    have ho : am_aast pc L st S = some t := ho
    unfold am_aast at ho
    split at ho
    · have ho := am_bifo ho
      (repeat' split at ho) <;> first | (cases ho; done) | (cases ho; exact Nat.le_refl _)
    · cases ho
  | ifCond k off =>
    have ho : am_if k len x pc L st S = some t := ho
    unfold am_if at ho
    (repeat' split at ho) <;> first | (cases ho; done) | (cases ho; exact Nat.le_refl _) | exact am_bifc ho (Nat.le_refl _)
  | if_icmp k off =>
    have ho : am_icmp k len x pc L st S = some t := ho
    unfold am_icmp at ho
    (repeat' split at ho) <;> first | (cases ho; done) | (cases ho; exact Nat.le_refl _) | exact am_bifc ho (Nat.le_refl _)
  | getfield k =>
    have ho : am_getf x y len pc L st S = some t := ho
    unfold am_getf at ho
    (repeat' split at ho) <;> first | (cases ho; done) | (cases ho; exact Nat.le_refl _) | exact am_bifc ho (Nat.le_refl _)
  | putfield k =>
    have ho : am_putf x y len pc L st S = some t := ho
    unfold am_putf at ho
    split at ho
    · obtain ⟨-, rfl⟩ := am_bif ho
      exact Nat.le_of_eq am_put_c.symm
    · cases ho
  | new k =>
    have ho : am_newo x len pc L st S = some t := ho
    unfold am_newo at ho
    exact am_bifc ho (Nat.le_succ _)
  | newarray k =>
    have ho : am_newa x len pc L st S = some t := ho
    unfold am_newa at ho
    (repeat' split at ho) <;> first | (cases ho; done) | exact am_bifc ho (Nat.le_succ _)
  | anewarray k =>
    have ho : am_newa x len pc L st S = some t := ho
    unfold am_newa at ho
    (repeat' split at ho) <;> first | (cases ho; done) | exact am_bifc ho (Nat.le_succ _)
  | tableswitch a b c d =>
    have ho : am_swi cs x L st S = some t := ho
    unfold am_swi at ho
    (repeat' split at ho) <;> first | (cases ho; done) | (cases ho; exact Nat.le_refl _) | exact am_bifc ho (Nat.le_refl _)
  | lookupswitch a b =>
    have ho : am_swi cs x L st S = some t := ho
    unfold am_swi at ho
    (repeat' split at ho) <;> first | (cases ho; done) | (cases ho; exact Nat.le_refl _) | exact am_bifc ho (Nat.le_refl _)
  | invokespecial k =>
    have ho := am_bifo (q := Nat.beq x 9999) (o := am_oin pc L st S) ho
    unfold am_oin at ho
    (repeat' split at ho) <;> first | (cases ho; done) | exact am_bifc ho (Nat.le_refl _)
  | invokestatic k =>
    have ho : (bif Nat.beq x 9998 then am_copy pc L st S else bif Nat.beq x 9997 then am_min pc L st S else none) = some t := ho
    cases hx : Nat.beq x 9998 with
    | true =>
      rw [hx] at ho
      have ho : am_copy pc L st S = some t := ho
      unfold am_copy at ho
      (repeat' split at ho) <;> first | (cases ho; done) | (cases ho; exact Nat.le_refl _)
    | false =>
      rw [hx] at ho
      have ho := am_bifo (q := Nat.beq x 9997) (o := am_min pc L st S) ho
      unfold am_min at ho
      (repeat' split at ho) <;> first | (cases ho; done) | exact am_bifc ho (Nat.le_refl _)
  | _ => cases ho
/-- what a call is, by its kind -/
theorem am_cl_spec {j pc : Nat} {en : am_En} {st : List Value} {S : am_S} {k : Nat} {as r : List Value} (hj : j < am_nM) (he : am_ct j pc = some en) (hc : am_cl en st S = some (k, as, r)) :
    st = as.reverse ++ r ∧ r.length ≤ 8 ∧ r.all am_c1 = true ∧ as.all am_c1 = true ∧
    ((∃ ix, decode (am_b j) pc = .ok (.invokestatic ix, 3) ∧ (am_has4 am_ML (am_own j) ix k = true ∨ am_has4 am_MN (am_own j) ix k = true) ∧ am_mk k = 1 ∧ as.length = am_np k) ∨
     (∃ ix a As, decode (am_b j) pc = .ok (.invokespecial ix, 3) ∧ (am_has4 am_ML (am_own j) ix k = true ∨ am_has4 am_MN (am_own j) ix k = true) ∧ am_mk k = 2 ∧ as = .ref a :: As ∧ As.length = am_np k) ∨
     (∃ ix a As, decode (am_b j) pc = .ok (.invokevirtual ix, 3) ∧ am_has4 am_ML (am_own j) ix k = true ∧ am_mk k = 0 ∧ as = .ref a :: As ∧ As.length = am_np k ∧ am_isO a (am_own k) S = true)) := by
  obtain ⟨hd, hk⟩ := am_ck hj pc en he
  obtain ⟨i, len, x, y, v, cs⟩ := en
  replace hc : (bif Nat.ble 9997 x || !(Nat.ble y st.length) || !(Nat.ble (st.drop y).length 8) || !((st.drop y).all am_c1) || !((st.take y).all am_c1) then none else match i with
    | .invokestatic _ => some (x, (st.take y).reverse, st.drop y)
    | .invokespecial _ => (match (st.take y).reverse with
      | .ref _ :: _ => some (x, (st.take y).reverse, st.drop y)
      | _ => none)
    | .invokevirtual _ => (match (st.take y).reverse with
      | .ref a :: _ => bif am_isO a (am_own x) S then some (x, (st.take y).reverse, st.drop y) else none
      | _ => none)
    | _ => none) = some (k, as, r) := hc
  cases hb : (Nat.ble 9997 x || !(Nat.ble y st.length) || !(Nat.ble (st.drop y).length 8) || !((st.drop y).all am_c1) || !((st.take y).all am_c1)) with
  | true => rw [hb] at hc; cases hc
  | false =>
    rw [hb] at hc
    simp only [Bool.or_eq_false_iff, Bool.not_eq_false'] at hb
    obtain ⟨⟨⟨⟨b1, b2⟩, b3⟩, b4⟩, b5⟩ := hb
    have b2 := Nat.le_of_ble_eq_true b2
    have b3 := Nat.le_of_ble_eq_true b3
    have hx : ¬ 9997 ≤ x := fun z => by rw [Nat.ble_eq_true_of_le z] at b1; cases b1
    have hlen : (st.take y).reverse.length = y := by rw [List.length_reverse, List.length_take]; omega
    have hall : (st.take y).reverse.all am_c1 = true := by rw [List.all_reverse]; exact b5
    have hst : st = (st.take y).reverse.reverse ++ st.drop y := by rw [List.reverse_reverse, List.take_append_drop]
    cases i with
    | invokestatic ix =>
      cases hc
      obtain ⟨k1, k2⟩ := am_and hk
      obtain rfl : len = 3 := am_eqb k1
      rw [show Nat.beq k 9998 = false from by cases z : Nat.beq k 9998 with | false => rfl | true => exact absurd (am_eqb z) (by omega), show Nat.beq k 9997 = false from by cases z : Nat.beq k 9997 with | false => rfl | true => exact absurd (am_eqb z) (by omega)] at k2
      obtain ⟨k2, k4⟩ := am_and k2
      obtain ⟨k2, k3⟩ := am_and k2
      exact ⟨hst, b3, b4, hall, Or.inl ⟨ix, hd, Bool.or_eq_true_iff.mp k2, am_eqb k3, by rw [hlen]; exact am_eqb k4⟩⟩
    | invokespecial ix =>
      obtain ⟨k1, k2⟩ := am_and hk
      obtain rfl : len = 3 := am_eqb k1
      rw [show Nat.beq x 9999 = false from by cases z : Nat.beq x 9999 with | false => rfl | true => exact absurd (am_eqb z) (by omega)] at k2
      obtain ⟨k2, k4⟩ := am_and k2
      obtain ⟨k2, k3⟩ := am_and k2
      replace hc : (match (st.take y).reverse with
        | .ref _ :: _ => some (x, (st.take y).reverse, st.drop y)
        | _ => none) = some (k, as, r) := hc
      split at hc
      · rename_i a As hq
        cases hc
        exact ⟨hst, b3, b4, hall, Or.inr (Or.inl ⟨ix, a, As, hd, Bool.or_eq_true_iff.mp k2, am_eqb k3, hq, by have e1 := hlen; rw [hq, am_eqb k4] at e1; simpa using e1⟩)⟩
      · cases hc
    | invokevirtual ix =>
      obtain ⟨k1, k4⟩ := am_and hk
      obtain ⟨k1, k3⟩ := am_and k1
      obtain ⟨k1, k2⟩ := am_and k1
      obtain rfl : len = 3 := am_eqb k1
      replace hc : (match (st.take y).reverse with
        | .ref a :: _ => bif am_isO a (am_own x) S then some (x, (st.take y).reverse, st.drop y) else none
        | _ => none) = some (k, as, r) := hc
      split at hc
      · rename_i a As hq
        obtain ⟨hO, hc⟩ := am_bif hc
        cases hc
        exact ⟨hst, b3, b4, hall, Or.inr (Or.inr ⟨ix, a, As, hd, k2, am_eqb k3, hq, by have e1 := hlen; rw [hq, am_eqb k4] at e1; simpa using e1, hO⟩)⟩
      · cases hc
    | _ => cases hc
