theorem l2_bool {v : Int32} (h : v = 0 ∨ v = 1) : am_okv 1 (.int v) = true := by
  rcases h with rfl | rfl <;> rfl
theorem l2_rz {q : Nat × Nat × Nat × Int32 × List (Int32 × Nat)} {v : Int32} {S : am_S} (h : v = 0 ∨ v = 1) : am_rt 2 (.ireturn, q) [.int v] S = some (some (.int v), S) := by
  rcases h with rfl | rfl <;> rfl
theorem am_Rn.rt2 {K : am_K} {ct : Nat → Option am_En} {rk : Nat} {res r : Option Value × am_S} {pc : Nat} {L : List (Option Value)} {st : List Value} {S : am_S} (e : am_En) (he : ct pc = some e) (hr : am_rt rk e st S = some r) (hz : res = r) : am_Rn K ct rk res (pc, L, st, S) := by
  subst hz
  exact am_Rn.rt e he hr
theorem l2_rt {k : Nat} (S : St) (h : k < 8) : (am_T0 S).2.1 16 k = some (TA (S.2 k)) := by
  show PP S.2 16 k = _
  unfold PP
  rw [show l2_slot 16 k = some k from by unfold l2_slot; rw [if_pos ⟨rfl, h⟩]]
theorem o_aaldR {pc : Nat} {L : List (Option Value)} {r : List Value} {S : St} {i : Int32} (hb : ¬ (i < 0 ∨ 8 ≤ i.toNatClampNeg)) : am_aald pc L (.int i :: .ref 16 :: r) (am_T0 S) = some (pc + 1, L, .ref (TA (S.2 i.toNatClampNeg)) :: r, am_T0 S) := by
  rw [o_aald (n := 8) rfl hb, l2_rt S (Nat.not_le.mp fun q => hb (Or.inr q))]
  rfl
theorem o_aastR {pc n : Nat} {L : List (Option Value)} {r : List Value} {S : St} {i : Int32} (hb : ¬ (i < 0 ∨ 8 ≤ i.toNatClampNeg)) : am_aast pc L (.ref (TA n) :: .int i :: .ref 16 :: r) (am_T0 S) = some (pc + 1, L, r, am_T0 (st_p S i.toNatClampNeg n)) := by
  rw [o_aast (n := 8) (l2_isO n S) rfl hb]
  show some (pc + 1, L, r, (S.1, am_u2 (PP S.2) 16 i.toNatClampNeg (some (TA n)), 148)) = _
  rw [l2_put (j := i.toNatClampNeg) (by unfold l2_slot; rw [if_pos ⟨rfl, Nat.not_le.mp fun q => hb (Or.inr q)⟩])]
  rfl
section L2c
variable {K : am_K} {ct : Nat → Option am_En} {rk : Nat} {res : Option Value × am_S} {pc a n x y len : Nat} {L : List (Option Value)} {r : List Value} {S : am_S} {i v vv : Int32} {cs : List (Int32 × Nat)}
theorem am_Rn.iald (he : ct pc = some (.iaload, len, x, y, vv, cs)) (hl : am_len a 0 S = some n) (hb : ¬ (i < 0 ∨ n ≤ i.toNatClampNeg)) (h : am_Rn K ct rk res (pc + 1, L, .int (S.1 a i.toNatClampNeg) :: r, S)) : am_Rn K ct rk res (pc, L, .int i :: .ref a :: r, S) := am_Rn.op _ _ he (o_iald hl hb) h
theorem am_Rn.bald1 (he : ct pc = some (.baload, len, x, y, vv, cs)) (hl : am_len a 1 S = some n) (hb : ¬ (i < 0 ∨ n ≤ i.toNatClampNeg)) (h : am_Rn K ct rk res (pc + 1, L, .int (S.1 a i.toNatClampNeg) :: r, S)) : am_Rn K ct rk res (pc, L, .int i :: .ref a :: r, S) := am_Rn.op _ _ he (o_bald1 hl hb) h
theorem am_Rn.bald2 (he : ct pc = some (.baload, len, x, y, vv, cs)) (hl : am_len a 2 S = some n) (hb : ¬ (i < 0 ∨ n ≤ i.toNatClampNeg)) (h : am_Rn K ct rk res (pc + 1, L, .int (S.1 a i.toNatClampNeg) :: r, S)) : am_Rn K ct rk res (pc, L, .int i :: .ref a :: r, S) := am_Rn.op _ _ he (o_bald2 hl hb) h
theorem am_Rn.iast (he : ct pc = some (.iastore, len, x, y, vv, cs)) (hl : am_len a 0 S = some n) (hb : ¬ (i < 0 ∨ n ≤ i.toNatClampNeg)) (h : am_Rn K ct rk res (pc + 1, L, r, (am_u2 S.1 a i.toNatClampNeg v, S.2.1, S.2.2))) : am_Rn K ct rk res (pc, L, .int v :: .int i :: .ref a :: r, S) := am_Rn.op _ _ he (o_iast hl hb) h
theorem am_Rn.bast1 (he : ct pc = some (.bastore, len, x, y, vv, cs)) (hl : am_len a 1 S = some n) (hb : ¬ (i < 0 ∨ n ≤ i.toNatClampNeg)) (h : am_Rn K ct rk res (pc + 1, L, r, (am_u2 S.1 a i.toNatClampNeg v.toInt8.toInt32, S.2.1, S.2.2))) : am_Rn K ct rk res (pc, L, .int v :: .int i :: .ref a :: r, S) := am_Rn.op _ _ he (o_bast1 hl hb) h
theorem am_Rn.bast2 (he : ct pc = some (.bastore, len, x, y, vv, cs)) (hl : am_len a 2 S = some n) (hb : ¬ (i < 0 ∨ n ≤ i.toNatClampNeg)) (h : am_Rn K ct rk res (pc + 1, L, r, (am_u2 S.1 a i.toNatClampNeg (v &&& 1), S.2.1, S.2.2))) : am_Rn K ct rk res (pc, L, .int v :: .int i :: .ref a :: r, S) := am_Rn.op _ _ he (o_bast2 hl hb) h
theorem am_Rn.alen (he : ct pc = some (.arraylength, len, x, y, vv, cs)) (hl : am_alen a S = some n) (h : am_Rn K ct rk res (pc + 1, L, .int (nI n) :: r, S)) : am_Rn K ct rk res (pc, L, .ref a :: r, S) := am_Rn.op _ _ he (o_len hl) h
theorem am_Rn.getf {ix : Nat} {w : Value} (he : ct pc = some (.getfield ix, len, x, y, vv, cs)) (hO : am_isO a x S = true) (hw : am_fv (am_fk x y) (S.1 a y) (S.2.1 a y) = w) (h : am_Rn K ct rk res (pc + len, L, w :: r, S)) : am_Rn K ct rk res (pc, L, .ref a :: r, S) := am_Rn.op _ _ he (o_getf hO hw) h
theorem am_Rn.putf {ix : Nat} {w : Value} (he : ct pc = some (.putfield ix, len, x, y, vv, cs)) (hO : am_isO a x S = true) (hw : am_okv (am_fk x y) w = true) (h : am_Rn K ct rk res (pc + len, L, r, am_put S a y w)) : am_Rn K ct rk res (pc, L, w :: .ref a :: r, S) := am_Rn.op _ _ he (o_putf hO hw) h
theorem am_Rn.aald {S : St} (he : ct pc = some (.aaload, len, x, y, vv, cs)) (hb : ¬ (i < 0 ∨ 8 ≤ i.toNatClampNeg)) (h : am_Rn K ct rk res (pc + 1, L, .ref (TA (S.2 i.toNatClampNeg)) :: r, am_T0 S)) : am_Rn K ct rk res (pc, L, .int i :: .ref 16 :: r, am_T0 S) := am_Rn.op _ _ he (o_aaldR hb) h
theorem am_Rn.aast {S : St} (he : ct pc = some (.aastore, len, x, y, vv, cs)) (hb : ¬ (i < 0 ∨ 8 ≤ i.toNatClampNeg)) (h : am_Rn K ct rk res (pc + 1, L, r, am_T0 (st_p S i.toNatClampNeg n))) : am_Rn K ct rk res (pc, L, .ref (TA n) :: .int i :: .ref 16 :: r, am_T0 S) := am_Rn.op _ _ he (o_aastR hb) h
theorem am_Rn.copy {a0 n0 n1 ix : Nat} {sp dp m : Int32} (he : ct pc = some (.invokestatic ix, len, 9998, y, vv, cs)) (h0 : am_len a0 0 S = some n0) (h1 : am_len a 0 S = some n1) (hb : ¬ (sp < 0 ∨ dp < 0 ∨ m < 0 ∨ n0 < sp.toNatClampNeg + m.toNatClampNeg ∨ n1 < dp.toNatClampNeg + m.toNatClampNeg ∨ S.2.2 < am_cT ∨ ([] : List Value) ≠ [])) (h : am_Rn K ct rk res (pc + 3, L, [], (am_u1 S.1 a (va_cpy (S.1 a0) (S.1 a) sp.toNatClampNeg dp.toNatClampNeg m.toNatClampNeg), S.2.1, S.2.2))) : am_Rn K ct rk res (pc, L, [.int m, .int dp, .ref a, .int sp, .ref a0], S) := am_Rn.op _ _ he (o_copy h0 h1 hb) h
end L2c
theorem l2_iaT (n o : Nat) (h0 : 0 < o) (ho : o < 9) (hk : (l2_tlen o).1 = 0) : isIA (TA n + o) = true := by
  obtain ⟨h1, h2⟩ := am_len_spec (l2_len n o ((fun _ _ => 0), fun _ => 0) h0 ho)
  rw [show l2_tlen o = (0, (l2_tlen o).2) from by rw [← hk]] at h2
  unfold isIA
  rw [h2]
  exact Bool.and_eq_true_iff.mpr ⟨Nat.ble_eq_true_of_le h1, rfl⟩
