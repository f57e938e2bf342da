-- X3_read
def fX3_read_56 (N : Nat) (l2 : Int32) (S : St) : Option St := (fX5_length N (S.2 9) S).bind (fun q1 => (fX5_closeBlock N (S.2 9) l2 q1.1 q1.2).bind (fun q2 => some q2))
set_option maxRecDepth 20000 in
theorem rfX3_read_56 (d N : Nat) (l2 : Int32) (S : St) (z : St) (h : fX3_read_56 N l2 S = some z) (w1 : Option Value) (w3 : Option Value) : am_Rn (am_C (d + 43)) (am_ct 34) (am_rk 34) (none, am_T0 z) (56, [some (.ref 3), w1, some (.int l2), w3], [], am_T0 S) := by
  unfold fX3_read_56 at h
  refine am_Rn.op _ (57, [some (.ref 3), w1, some (.int l2), w3], [.ref 3], am_T0 S) rfl rfl ?_
  refine am_Rn.op _ (60, [some (.ref 3), w1, some (.int l2), w3], [.ref (TA (S.2 9))], am_T0 S) rfl rfl ?_
  refine am_Rn.op _ (61, [some (.ref 3), w1, some (.int l2), w3], [.int l2, .ref (TA (S.2 9))], am_T0 S) rfl rfl ?_
  refine am_Rn.op _ (62, [some (.ref 3), w1, some (.int l2), w3], [.ref 3, .int l2, .ref (TA (S.2 9))], am_T0 S) rfl rfl ?_
  refine am_Rn.op _ (65, [some (.ref 3), w1, some (.int l2), w3], [.ref (TA (S.2 9)), .int l2, .ref (TA (S.2 9))], am_T0 S) rfl rfl ?_
  obtain ⟨q1, hq1, h⟩ := l2_b h
  refine am_Rn.cl _ (some (.int q1.1)) (am_T0 q1.2) rfl (o_clv rfl rfl rfl (l2_isO (S.2 9) S)) (rfX5_length (d + 42) N (S.2 9) S q1 hq1) ?_
  show am_Rn _ _ _ _ (68, [some (.ref 3), w1, some (.int l2), w3], [.int q1.1, .int l2, .ref (TA (S.2 9))], am_T0 q1.2)
  obtain ⟨q2, hq2, h⟩ := l2_b h
  refine am_Rn.cl _ none (am_T0 q2) rfl (o_clv rfl rfl rfl (l2_isO (S.2 9) q1.2)) (rfX5_closeBlock (d + 41) N (S.2 9) l2 q1.1 q1.2 q2 hq2) ?_
  show am_Rn _ _ _ _ (71, [some (.ref 3), w1, some (.int l2), w3], [], am_T0 q2)
  cases h
  exact am_Rn.rt _ rfl rfl
def fX3_read (N : Nat) (n1 : Nat) (S : St) : Option St := (fX5_openBlock N ((st_i (st_i (st_p S 9 n1) 3 1 0) 3 2 (-1)).2 9) 0 (-1) (st_i (st_i (st_p S 9 n1) 3 1 0) 3 2 (-1))).bind (fun q3 => (f_rd 40 N 0 0 0 q3.1 0 q3.2).bind (fun q4 => (if q4.1 = (-1) then fX3_read_56 N q3.1 q4.2 else (fX5_length N (q4.2.2 9) q4.2).bind (fun q5 => (if q5.1 ≤ q4.1 then fX3_read_56 N q3.1 q5.2 else (fX3_refuse N 1 q4.1 q5.2).bind (fun q6 => fX3_read_56 N q3.1 q6.2))))))
set_option maxRecDepth 20000 in
theorem rfX3_read (d N : Nat) (n1 : Nat) (S : St) (z : St) (h : fX3_read N n1 S = some z) : am_C (d + 44) 34 [.ref 3, .ref (TA n1)] (am_T0 S) (none, am_T0 z) := by
  unfold fX3_read at h
  show am_Rn (am_C (d + 43)) (am_ct 34) (am_rk 34) (none, am_T0 z) (0, [some (.ref 3), some (.ref (TA n1)), none, none], [], am_T0 S)
  refine am_Rn.op _ (1, [some (.ref 3), some (.ref (TA n1)), none, none], [.ref 3], am_T0 S) rfl rfl ?_
  refine am_Rn.op _ (2, [some (.ref 3), some (.ref (TA n1)), none, none], [.ref (TA n1), .ref 3], am_T0 S) rfl rfl ?_
  refine am_Rn.op _ (5, [some (.ref 3), some (.ref (TA n1)), none, none], [], (S.1, am_u2 (PP S.2) 3 0 (some (TA n1)), 148)) rfl rfl ?_
  rw [l2_put (j := 9) rfl]
  show am_Rn _ _ _ _ (5, [some (.ref 3), some (.ref (TA n1)), none, none], [], am_T0 (st_p S 9 n1))
  refine am_Rn.op _ (6, [some (.ref 3), some (.ref (TA n1)), none, none], [.ref 3], am_T0 (st_p S 9 n1)) rfl rfl ?_
  refine am_Rn.op _ (7, [some (.ref 3), some (.ref (TA n1)), none, none], [.int 0, .ref 3], am_T0 (st_p S 9 n1)) rfl rfl ?_
  refine am_Rn.op _ (10, [some (.ref 3), some (.ref (TA n1)), none, none], [], am_T0 (st_i (st_p S 9 n1) 3 1 0)) rfl rfl ?_
  refine am_Rn.op _ (11, [some (.ref 3), some (.ref (TA n1)), none, none], [.ref 3], am_T0 (st_i (st_p S 9 n1) 3 1 0)) rfl rfl ?_
  refine am_Rn.op _ (12, [some (.ref 3), some (.ref (TA n1)), none, none], [.int (-1), .ref 3], am_T0 (st_i (st_p S 9 n1) 3 1 0)) rfl rfl ?_
  refine am_Rn.op _ (15, [some (.ref 3), some (.ref (TA n1)), none, none], [], am_T0 (st_i (st_i (st_p S 9 n1) 3 1 0) 3 2 (-1))) rfl rfl ?_
  refine am_Rn.op _ (16, [some (.ref 3), some (.ref (TA n1)), none, none], [.ref 3], am_T0 (st_i (st_i (st_p S 9 n1) 3 1 0) 3 2 (-1))) rfl rfl ?_
  refine am_Rn.op _ (19, [some (.ref 3), some (.ref (TA n1)), none, none], [.ref (TA ((st_i (st_i (st_p S 9 n1) 3 1 0) 3 2 (-1)).2 9))], am_T0 (st_i (st_i (st_p S 9 n1) 3 1 0) 3 2 (-1))) rfl rfl ?_
  refine am_Rn.op _ (20, [some (.ref 3), some (.ref (TA n1)), none, none], [.int 0, .ref (TA ((st_i (st_i (st_p S 9 n1) 3 1 0) 3 2 (-1)).2 9))], am_T0 (st_i (st_i (st_p S 9 n1) 3 1 0) 3 2 (-1))) rfl rfl ?_
  refine am_Rn.op _ (21, [some (.ref 3), some (.ref (TA n1)), none, none], [.int (-1), .int 0, .ref (TA ((st_i (st_i (st_p S 9 n1) 3 1 0) 3 2 (-1)).2 9))], am_T0 (st_i (st_i (st_p S 9 n1) 3 1 0) 3 2 (-1))) rfl rfl ?_
  obtain ⟨q3, hq3, h⟩ := l2_b h
  refine am_Rn.cl _ (some (.int q3.1)) (am_T0 q3.2) rfl (o_clv rfl rfl rfl (l2_isO ((st_i (st_i (st_p S 9 n1) 3 1 0) 3 2 (-1)).2 9) (st_i (st_i (st_p S 9 n1) 3 1 0) 3 2 (-1)))) (rfX5_openBlock (d + 42) N ((st_i (st_i (st_p S 9 n1) 3 1 0) 3 2 (-1)).2 9) 0 (-1) (st_i (st_i (st_p S 9 n1) 3 1 0) 3 2 (-1)) q3 hq3) ?_
  show am_Rn _ _ _ _ (24, [some (.ref 3), some (.ref (TA n1)), none, none], [.int q3.1], am_T0 q3.2)
  refine am_Rn.op _ (25, [some (.ref 3), some (.ref (TA n1)), some (.int q3.1), none], [], am_T0 q3.2) rfl rfl ?_
  refine am_Rn.op _ (26, [some (.ref 3), some (.ref (TA n1)), some (.int q3.1), none], [.ref 3], am_T0 q3.2) rfl rfl ?_
  refine am_Rn.op _ (27, [some (.ref 3), some (.ref (TA n1)), some (.int q3.1), none], [.int 0, .ref 3], am_T0 q3.2) rfl rfl ?_
  refine am_Rn.op _ (28, [some (.ref 3), some (.ref (TA n1)), some (.int q3.1), none], [.int 0, .int 0, .ref 3], am_T0 q3.2) rfl rfl ?_
  refine am_Rn.op _ (29, [some (.ref 3), some (.ref (TA n1)), some (.int q3.1), none], [.int q3.1, .int 0, .int 0, .ref 3], am_T0 q3.2) rfl rfl ?_
  obtain ⟨q4, hq4, h⟩ := l2_b h
  refine am_Rn.cl _ (some (.int q4.1)) (am_T0 q4.2) rfl rfl (r_rd (d + 0) 40 N 0 0 0 q3.1 0 q3.2 q4 hq4) ?_
  show am_Rn _ _ _ _ (32, [some (.ref 3), some (.ref (TA n1)), some (.int q3.1), none], [.int q4.1], am_T0 q4.2)
  refine am_Rn.op _ (33, [some (.ref 3), some (.ref (TA n1)), some (.int q3.1), some (.int q4.1)], [], am_T0 q4.2) rfl rfl ?_
  refine am_Rn.op _ (34, [some (.ref 3), some (.ref (TA n1)), some (.int q3.1), some (.int q4.1)], [.int q4.1], am_T0 q4.2) rfl rfl ?_
  refine am_Rn.op _ (35, [some (.ref 3), some (.ref (TA n1)), some (.int q3.1), some (.int q4.1)], [.int (-1), .int q4.1], am_T0 q4.2) rfl rfl ?_
  refine am_Rn.op _ (if q4.1 = (-1) then 56 else 38, [some (.ref 3), some (.ref (TA n1)), some (.int q3.1), some (.int q4.1)], [], am_T0 q4.2) rfl rfl ?_
  rcases l2_i h with ⟨hc, h⟩ | ⟨hc, h⟩
  · refine am_Rn.ifT hc ?_
    exact rfX3_read_56 d N q3.1 q4.2 _ h _ _
  · refine am_Rn.ifF hc ?_
    refine am_Rn.op _ (39, [some (.ref 3), some (.ref (TA n1)), some (.int q3.1), some (.int q4.1)], [.int q4.1], am_T0 q4.2) rfl rfl ?_
    refine am_Rn.op _ (40, [some (.ref 3), some (.ref (TA n1)), some (.int q3.1), some (.int q4.1)], [.ref 3, .int q4.1], am_T0 q4.2) rfl rfl ?_
    refine am_Rn.op _ (43, [some (.ref 3), some (.ref (TA n1)), some (.int q3.1), some (.int q4.1)], [.ref (TA (q4.2.2 9)), .int q4.1], am_T0 q4.2) rfl rfl ?_
    obtain ⟨q5, hq5, h⟩ := l2_b h
    refine am_Rn.cl _ (some (.int q5.1)) (am_T0 q5.2) rfl (o_clv rfl rfl rfl (l2_isO (q4.2.2 9) q4.2)) (rfX5_length (d + 42) N (q4.2.2 9) q4.2 q5 hq5) ?_
    show am_Rn _ _ _ _ (46, [some (.ref 3), some (.ref (TA n1)), some (.int q3.1), some (.int q4.1)], [.int q5.1, .int q4.1], am_T0 q5.2)
    refine am_Rn.op _ (if q5.1 ≤ q4.1 then 56 else 49, [some (.ref 3), some (.ref (TA n1)), some (.int q3.1), some (.int q4.1)], [], am_T0 q5.2) rfl rfl ?_
    rcases l2_i h with ⟨hc, h⟩ | ⟨hc, h⟩
    · refine am_Rn.ifT hc ?_
      exact rfX3_read_56 d N q3.1 q5.2 _ h _ _
    · refine am_Rn.ifF hc ?_
      refine am_Rn.op _ (50, [some (.ref 3), some (.ref (TA n1)), some (.int q3.1), some (.int q4.1)], [.ref 3], am_T0 q5.2) rfl rfl ?_
      refine am_Rn.op _ (51, [some (.ref 3), some (.ref (TA n1)), some (.int q3.1), some (.int q4.1)], [.int 1, .ref 3], am_T0 q5.2) rfl rfl ?_
      refine am_Rn.op _ (52, [some (.ref 3), some (.ref (TA n1)), some (.int q3.1), some (.int q4.1)], [.int q4.1, .int 1, .ref 3], am_T0 q5.2) rfl rfl ?_
      obtain ⟨q6, hq6, h⟩ := l2_b h
      refine am_Rn.cl _ (some (.int q6.1)) (am_T0 q6.2) rfl rfl (rfX3_refuse (d + 42) N 1 q4.1 q5.2 q6 hq6) ?_
      show am_Rn _ _ _ _ (55, [some (.ref 3), some (.ref (TA n1)), some (.int q3.1), some (.int q4.1)], [.int q6.1], am_T0 q6.2)
      refine am_Rn.op _ (56, [some (.ref 3), some (.ref (TA n1)), some (.int q3.1), some (.int q4.1)], [], am_T0 q6.2) rfl rfl ?_
      exact rfX3_read_56 d N q3.1 q6.2 _ h _ _
-- X4_size
def fX4_size (N : Nat) (S : St) : Option (Int32 × St) := some ((S.1 1 1), S)
set_option maxRecDepth 20000 in
theorem rfX4_size (d N : Nat) (S : St) (z : (Int32 × St)) (h : fX4_size N S = some z) : am_C (d + 1) 42 [.ref 1] (am_T0 S) (some (.int z.1), am_T0 z.2) := by
  unfold fX4_size at h
  show am_Rn (am_C (d + 0)) (am_ct 42) (am_rk 42) (some (.int z.1), am_T0 z.2) (0, [some (.ref 1)], [], am_T0 S)
  refine am_Rn.op _ (1, [some (.ref 1)], [.ref 1], am_T0 S) rfl rfl ?_
  refine am_Rn.op _ (4, [some (.ref 1)], [.int (S.1 1 1)], am_T0 S) rfl rfl ?_
  cases h
  exact am_Rn.rt _ rfl rfl
-- X4_at
def fX4_at_31 (N : Nat) (s0 : Int32) (S : St) : Option (Int32 × St) := some (s0, S)
set_option maxRecDepth 20000 in
theorem rfX4_at_31 (d N : Nat) (s0 : Int32) (S : St) (z : (Int32 × St)) (h : fX4_at_31 N s0 S = some z) (w0 : Option Value) (w1 : Option Value) : am_Rn (am_C (d + 0)) (am_ct 43) (am_rk 43) (some (.int z.1), am_T0 z.2) (31, [w0, w1], [.int s0], am_T0 S) := by
  unfold fX4_at_31 at h
  cases h
  exact am_Rn.rt _ rfl rfl
def fX4_at (N : Nat) (l1 : Int32) (S : St) : Option (Int32 × St) := (if l1 < 0 then fX4_at_31 N (-1) S else (if (S.1 1 1) ≤ l1 then fX4_at_31 N (-1) S else (if 80 ≤ l1 then fX4_at_31 N (-1) S else (if l1 < 0 ∨ 80 ≤ Int32.toNatClampNeg l1 then none else fX4_at_31 N (S.1 2 (Int32.toNatClampNeg l1)) S))))
set_option maxRecDepth 20000 in
theorem rfX4_at (d N : Nat) (l1 : Int32) (S : St) (z : (Int32 × St)) (h : fX4_at N l1 S = some z) : am_C (d + 1) 43 [.ref 1, .int l1] (am_T0 S) (some (.int z.1), am_T0 z.2) := by
  unfold fX4_at at h
  show am_Rn (am_C (d + 0)) (am_ct 43) (am_rk 43) (some (.int z.1), am_T0 z.2) (0, [some (.ref 1), some (.int l1)], [], am_T0 S)
  refine am_Rn.op _ (1, [some (.ref 1), some (.int l1)], [.int l1], am_T0 S) rfl rfl ?_
  refine am_Rn.op _ (if l1 < 0 then 30 else 4, [some (.ref 1), some (.int l1)], [], am_T0 S) rfl rfl ?_
  rcases l2_i h with ⟨hc, h⟩ | ⟨hc, h⟩
  · refine am_Rn.ifT hc ?_
    refine am_Rn.op _ (31, [some (.ref 1), some (.int l1)], [.int (-1)], am_T0 S) rfl rfl ?_
    exact rfX4_at_31 d N (-1) S _ h _ _
  · refine am_Rn.ifF hc ?_
    refine am_Rn.op _ (5, [some (.ref 1), some (.int l1)], [.int l1], am_T0 S) rfl rfl ?_
    refine am_Rn.op _ (6, [some (.ref 1), some (.int l1)], [.ref 1, .int l1], am_T0 S) rfl rfl ?_
    refine am_Rn.op _ (9, [some (.ref 1), some (.int l1)], [.int (S.1 1 1), .int l1], am_T0 S) rfl rfl ?_
    refine am_Rn.op _ (if (S.1 1 1) ≤ l1 then 30 else 12, [some (.ref 1), some (.int l1)], [], am_T0 S) rfl rfl ?_
    rcases l2_i h with ⟨hc, h⟩ | ⟨hc, h⟩
    · refine am_Rn.ifT hc ?_
      refine am_Rn.op _ (31, [some (.ref 1), some (.int l1)], [.int (-1)], am_T0 S) rfl rfl ?_
      exact rfX4_at_31 d N (-1) S _ h _ _
    · refine am_Rn.ifF hc ?_
      refine am_Rn.op _ (13, [some (.ref 1), some (.int l1)], [.int l1], am_T0 S) rfl rfl ?_
      refine am_Rn.op _ (14, [some (.ref 1), some (.int l1)], [.ref 1, .int l1], am_T0 S) rfl rfl ?_
      refine am_Rn.op _ (17, [some (.ref 1), some (.int l1)], [.ref 2, .int l1], am_T0 S) rfl rfl ?_
      refine am_Rn.op _ (18, [some (.ref 1), some (.int l1)], [.int 80, .int l1], am_T0 S) rfl rfl ?_
      refine am_Rn.op _ (if 80 ≤ l1 then 30 else 21, [some (.ref 1), some (.int l1)], [], am_T0 S) rfl rfl ?_
      rcases l2_i h with ⟨hc, h⟩ | ⟨hc, h⟩
      · refine am_Rn.ifT hc ?_
        refine am_Rn.op _ (31, [some (.ref 1), some (.int l1)], [.int (-1)], am_T0 S) rfl rfl ?_
        exact rfX4_at_31 d N (-1) S _ h _ _
      · refine am_Rn.ifF hc ?_
        refine am_Rn.op _ (22, [some (.ref 1), some (.int l1)], [.ref 1], am_T0 S) rfl rfl ?_
        refine am_Rn.op _ (25, [some (.ref 1), some (.int l1)], [.ref 2], am_T0 S) rfl rfl ?_
        refine am_Rn.op _ (26, [some (.ref 1), some (.int l1)], [.int l1, .ref 2], am_T0 S) rfl rfl ?_
        obtain ⟨hb1, h⟩ := l2_n h
        refine am_Rn.iald (n := 80) rfl rfl hb1 ?_
        show am_Rn _ _ _ _ (27, [some (.ref 1), some (.int l1)], [.int (S.1 2 (Int32.toNatClampNeg l1))], am_T0 S)
        refine am_Rn.op _ (31, [some (.ref 1), some (.int l1)], [.int (S.1 2 (Int32.toNatClampNeg l1))], am_T0 S) rfl rfl ?_
        exact rfX4_at_31 d N (S.1 2 (Int32.toNatClampNeg l1)) S _ h _ _
-- X4_add
def PfX4_add_3 (d : Nat) (res : Option Value × am_S) (l1 : Int32) (x : Int32 × St) : Prop := am_Rn (am_C d) (am_ct 44) (am_rk 44) res (3, [some (.ref 1), some (.int l1), some (.int x.1)], [], am_T0 x.2)
def QfX4_add_3 (d : Nat) (res : Option Value × am_S) (l1 : Int32) (y : St) : Prop := res = (none, am_T0 y)
def bfX4_add_3 (N : Nat) (l1 : Int32) (x : Int32 × St) : Option ((Int32 × St) ⊕ (St)) := (if x.1 < 0 then some (.inr x.2) else (if 80 ≤ (x.2.1 1 1) then some (.inr x.2) else (if (x.2.1 1 1) < 0 ∨ 80 ≤ Int32.toNatClampNeg (x.2.1 1 1) then none else some (.inl ((x.1 + (-8)), (st_i (st_i x.2 2 (Int32.toNatClampNeg (x.2.1 1 1)) ((Int32.toUInt32 l1 >>> (Int32.toUInt32 x.1 &&& Int32.toUInt32 31)).toInt32 &&& 255)) 1 1 (((st_i x.2 2 (Int32.toNatClampNeg (x.2.1 1 1)) ((Int32.toUInt32 l1 >>> (Int32.toUInt32 x.1 &&& Int32.toUInt32 31)).toInt32 &&& 255)).1 1 1) + 1)))))))
def fX4_add_3 (N : Nat) (l1 : Int32) (x : Int32 × St) : Option (St) := whl N (bfX4_add_3 N l1 ) x
set_option maxRecDepth 20000 in
theorem rbfX4_add_3 (d N : Nat) (res : Option Value × am_S) (l1 : Int32) (x : Int32 × St) (z : (Int32 × St) ⊕ (St)) (h : bfX4_add_3 N l1 x = some z) (hz : Sum.elim (PfX4_add_3 (d + 0) res l1 ) (QfX4_add_3 (d + 0) res l1 ) z) : PfX4_add_3 (d + 0) res l1 x := by
  unfold bfX4_add_3 at h
  show am_Rn (am_C (d + 0)) (am_ct 44) (am_rk 44) res (3, [some (.ref 1), some (.int l1), some (.int x.1)], [], am_T0 x.2)
  refine am_Rn.op _ (4, [some (.ref 1), some (.int l1), some (.int x.1)], [.int x.1], am_T0 x.2) rfl rfl ?_
  refine am_Rn.op _ (if x.1 < 0 then 51 else 7, [some (.ref 1), some (.int l1), some (.int x.1)], [], am_T0 x.2) rfl rfl ?_
  rcases l2_i h with ⟨hc, h⟩ | ⟨hc, h⟩
  · refine am_Rn.ifT hc ?_
    cases h
    exact am_Rn.rt2 _ rfl rfl hz
  · refine am_Rn.ifF hc ?_
    refine am_Rn.op _ (8, [some (.ref 1), some (.int l1), some (.int x.1)], [.ref 1], am_T0 x.2) rfl rfl ?_
    refine am_Rn.op _ (11, [some (.ref 1), some (.int l1), some (.int x.1)], [.int (x.2.1 1 1)], am_T0 x.2) rfl rfl ?_
    refine am_Rn.op _ (12, [some (.ref 1), some (.int l1), some (.int x.1)], [.ref 1, .int (x.2.1 1 1)], am_T0 x.2) rfl rfl ?_
    refine am_Rn.op _ (15, [some (.ref 1), some (.int l1), some (.int x.1)], [.ref 2, .int (x.2.1 1 1)], am_T0 x.2) rfl rfl ?_
    refine am_Rn.op _ (16, [some (.ref 1), some (.int l1), some (.int x.1)], [.int 80, .int (x.2.1 1 1)], am_T0 x.2) rfl rfl ?_
    refine am_Rn.op _ (if 80 ≤ (x.2.1 1 1) then 51 else 19, [some (.ref 1), some (.int l1), some (.int x.1)], [], am_T0 x.2) rfl rfl ?_
    rcases l2_i h with ⟨hc, h⟩ | ⟨hc, h⟩
    · refine am_Rn.ifT hc ?_
      cases h
      exact am_Rn.rt2 _ rfl rfl hz
    · refine am_Rn.ifF hc ?_
      refine am_Rn.op _ (20, [some (.ref 1), some (.int l1), some (.int x.1)], [.ref 1], am_T0 x.2) rfl rfl ?_
      refine am_Rn.op _ (23, [some (.ref 1), some (.int l1), some (.int x.1)], [.ref 2], am_T0 x.2) rfl rfl ?_
      refine am_Rn.op _ (24, [some (.ref 1), some (.int l1), some (.int x.1)], [.ref 1, .ref 2], am_T0 x.2) rfl rfl ?_
      refine am_Rn.op _ (27, [some (.ref 1), some (.int l1), some (.int x.1)], [.int (x.2.1 1 1), .ref 2], am_T0 x.2) rfl rfl ?_
      refine am_Rn.op _ (28, [some (.ref 1), some (.int l1), some (.int x.1)], [.int l1, .int (x.2.1 1 1), .ref 2], am_T0 x.2) rfl rfl ?_
      refine am_Rn.op _ (29, [some (.ref 1), some (.int l1), some (.int x.1)], [.int x.1, .int l1, .int (x.2.1 1 1), .ref 2], am_T0 x.2) rfl rfl ?_
      refine am_Rn.op _ (30, [some (.ref 1), some (.int l1), some (.int x.1)], [.int (Int32.toUInt32 l1 >>> (Int32.toUInt32 x.1 &&& Int32.toUInt32 31)).toInt32, .int (x.2.1 1 1), .ref 2], am_T0 x.2) rfl rfl ?_
      refine am_Rn.op _ (33, [some (.ref 1), some (.int l1), some (.int x.1)], [.int 255, .int (Int32.toUInt32 l1 >>> (Int32.toUInt32 x.1 &&& Int32.toUInt32 31)).toInt32, .int (x.2.1 1 1), .ref 2], am_T0 x.2) rfl rfl ?_
      refine am_Rn.op _ (34, [some (.ref 1), some (.int l1), some (.int x.1)], [.int ((Int32.toUInt32 l1 >>> (Int32.toUInt32 x.1 &&& Int32.toUInt32 31)).toInt32 &&& 255), .int (x.2.1 1 1), .ref 2], am_T0 x.2) rfl rfl ?_
      obtain ⟨hb1, h⟩ := l2_n h
      refine am_Rn.iast (n := 80) rfl rfl hb1 ?_
      show am_Rn _ _ _ _ (35, [some (.ref 1), some (.int l1), some (.int x.1)], [], am_T0 (st_i x.2 2 (Int32.toNatClampNeg (x.2.1 1 1)) ((Int32.toUInt32 l1 >>> (Int32.toUInt32 x.1 &&& Int32.toUInt32 31)).toInt32 &&& 255)))
      refine am_Rn.op _ (36, [some (.ref 1), some (.int l1), some (.int x.1)], [.ref 1], am_T0 (st_i x.2 2 (Int32.toNatClampNeg (x.2.1 1 1)) ((Int32.toUInt32 l1 >>> (Int32.toUInt32 x.1 &&& Int32.toUInt32 31)).toInt32 &&& 255))) rfl rfl ?_
      refine am_Rn.op _ (37, [some (.ref 1), some (.int l1), some (.int x.1)], [.ref 1, .ref 1], am_T0 (st_i x.2 2 (Int32.toNatClampNeg (x.2.1 1 1)) ((Int32.toUInt32 l1 >>> (Int32.toUInt32 x.1 &&& Int32.toUInt32 31)).toInt32 &&& 255))) rfl rfl ?_
      refine am_Rn.op _ (40, [some (.ref 1), some (.int l1), some (.int x.1)], [.int ((st_i x.2 2 (Int32.toNatClampNeg (x.2.1 1 1)) ((Int32.toUInt32 l1 >>> (Int32.toUInt32 x.1 &&& Int32.toUInt32 31)).toInt32 &&& 255)).1 1 1), .ref 1], am_T0 (st_i x.2 2 (Int32.toNatClampNeg (x.2.1 1 1)) ((Int32.toUInt32 l1 >>> (Int32.toUInt32 x.1 &&& Int32.toUInt32 31)).toInt32 &&& 255))) rfl rfl ?_
      refine am_Rn.op _ (41, [some (.ref 1), some (.int l1), some (.int x.1)], [.int 1, .int ((st_i x.2 2 (Int32.toNatClampNeg (x.2.1 1 1)) ((Int32.toUInt32 l1 >>> (Int32.toUInt32 x.1 &&& Int32.toUInt32 31)).toInt32 &&& 255)).1 1 1), .ref 1], am_T0 (st_i x.2 2 (Int32.toNatClampNeg (x.2.1 1 1)) ((Int32.toUInt32 l1 >>> (Int32.toUInt32 x.1 &&& Int32.toUInt32 31)).toInt32 &&& 255))) rfl rfl ?_
      refine am_Rn.op _ (42, [some (.ref 1), some (.int l1), some (.int x.1)], [.int (((st_i x.2 2 (Int32.toNatClampNeg (x.2.1 1 1)) ((Int32.toUInt32 l1 >>> (Int32.toUInt32 x.1 &&& Int32.toUInt32 31)).toInt32 &&& 255)).1 1 1) + 1), .ref 1], am_T0 (st_i x.2 2 (Int32.toNatClampNeg (x.2.1 1 1)) ((Int32.toUInt32 l1 >>> (Int32.toUInt32 x.1 &&& Int32.toUInt32 31)).toInt32 &&& 255))) rfl rfl ?_
      refine am_Rn.op _ (45, [some (.ref 1), some (.int l1), some (.int x.1)], [], am_T0 (st_i (st_i x.2 2 (Int32.toNatClampNeg (x.2.1 1 1)) ((Int32.toUInt32 l1 >>> (Int32.toUInt32 x.1 &&& Int32.toUInt32 31)).toInt32 &&& 255)) 1 1 (((st_i x.2 2 (Int32.toNatClampNeg (x.2.1 1 1)) ((Int32.toUInt32 l1 >>> (Int32.toUInt32 x.1 &&& Int32.toUInt32 31)).toInt32 &&& 255)).1 1 1) + 1))) rfl rfl ?_
      refine am_Rn.op _ (48, [some (.ref 1), some (.int l1), some (.int (x.1 + (-8)))], [], am_T0 (st_i (st_i x.2 2 (Int32.toNatClampNeg (x.2.1 1 1)) ((Int32.toUInt32 l1 >>> (Int32.toUInt32 x.1 &&& Int32.toUInt32 31)).toInt32 &&& 255)) 1 1 (((st_i x.2 2 (Int32.toNatClampNeg (x.2.1 1 1)) ((Int32.toUInt32 l1 >>> (Int32.toUInt32 x.1 &&& Int32.toUInt32 31)).toInt32 &&& 255)).1 1 1) + 1))) rfl rfl ?_
      refine am_Rn.op _ (3, [some (.ref 1), some (.int l1), some (.int (x.1 + (-8)))], [], am_T0 (st_i (st_i x.2 2 (Int32.toNatClampNeg (x.2.1 1 1)) ((Int32.toUInt32 l1 >>> (Int32.toUInt32 x.1 &&& Int32.toUInt32 31)).toInt32 &&& 255)) 1 1 (((st_i x.2 2 (Int32.toNatClampNeg (x.2.1 1 1)) ((Int32.toUInt32 l1 >>> (Int32.toUInt32 x.1 &&& Int32.toUInt32 31)).toInt32 &&& 255)).1 1 1) + 1))) rfl rfl ?_
      cases h
      exact hz 
theorem rfX4_add_3 (d N : Nat) (res : Option Value × am_S) (l1 : Int32) (x : Int32 × St) (y : St) (h : fX4_add_3 N l1 x = some y) (hq : QfX4_add_3 (d + 0) res l1 y) : PfX4_add_3 (d + 0) res l1 x := whl_ind _ _ (fun x z => rbfX4_add_3 d N res l1 x z) N x y h hq
def fX4_add (N : Nat) (l1 : Int32) (S : St) : Option St := (fX4_add_3 N l1 (24, S)).bind (fun y2 => some y2)
set_option maxRecDepth 20000 in
theorem rfX4_add (d N : Nat) (l1 : Int32) (S : St) (z : St) (h : fX4_add N l1 S = some z) : am_C (d + 1) 44 [.ref 1, .int l1] (am_T0 S) (none, am_T0 z) := by
  unfold fX4_add at h
  show am_Rn (am_C (d + 0)) (am_ct 44) (am_rk 44) (none, am_T0 z) (0, [some (.ref 1), some (.int l1), none], [], am_T0 S)
  refine am_Rn.op _ (2, [some (.ref 1), some (.int l1), none], [.int 24], am_T0 S) rfl rfl ?_
  refine am_Rn.op _ (3, [some (.ref 1), some (.int l1), some (.int 24)], [], am_T0 S) rfl rfl ?_
  obtain ⟨y2, hy2, h⟩ := l2_b h
  refine rfX4_add_3 d N _ l1 (24, S) y2 hy2 ?_ 
  cases h
  exact rfl
-- X4_clear
def fX4_clear (N : Nat) (S : St) : Option St := some (st_i S 1 1 0)
set_option maxRecDepth 20000 in
theorem rfX4_clear (d N : Nat) (S : St) (z : St) (h : fX4_clear N S = some z) : am_C (d + 1) 45 [.ref 1] (am_T0 S) (none, am_T0 z) := by
  unfold fX4_clear at h
  show am_Rn (am_C (d + 0)) (am_ct 45) (am_rk 45) (none, am_T0 z) (0, [some (.ref 1)], [], am_T0 S)
  refine am_Rn.op _ (1, [some (.ref 1)], [.ref 1], am_T0 S) rfl rfl ?_
  refine am_Rn.op _ (2, [some (.ref 1)], [.int 0, .ref 1], am_T0 S) rfl rfl ?_
  refine am_Rn.op _ (5, [some (.ref 1)], [], am_T0 (st_i S 1 1 0)) rfl rfl ?_
  cases h
  exact am_Rn.rt _ rfl rfl
-- X5_copy
def PfX5_copy_7 (d : Nat) (res : Option Value × am_S) (n0 : Nat) (l2 : Int32) (x : Int32 × St) : Prop := am_Rn (am_C d) (am_ct 47) (am_rk 47) res (7, [some (.ref (TA n0)), some (.ref 1), some (.int l2), some (.int x.1)], [], am_T0 x.2)
def QfX5_copy_7 (d : Nat) (res : Option Value × am_S) (n0 : Nat) (l2 : Int32) (y : St) : Prop := ∀ (w1 w2 w3 : Option Value), am_Rn (am_C d) (am_ct 47) (am_rk 47) res (48, [some (.ref (TA n0)), w1, w2, w3], [], am_T0 y)
def bfX5_copy_7 (N : Nat) (n0 : Nat) (l2 : Int32) (x : Int32 × St) : Option ((Int32 × St) ⊕ (St)) := (if l2 ≤ x.1 then some (.inr (x.2)) else (if 60 ≤ x.1 then some (.inr (x.2)) else (fX4_at N x.1 x.2).bind (fun q1 => (if x.1 < 0 ∨ 60 ≤ Int32.toNatClampNeg x.1 then none else some (.inl ((x.1 + 1), (st_i (st_i q1.2 (TA n0 + 1) (Int32.toNatClampNeg x.1) q1.1) (TA n0) 1 (((st_i q1.2 (TA n0 + 1) (Int32.toNatClampNeg x.1) q1.1).1 (TA n0) 1) + 1))))))))
def fX5_copy_7 (N : Nat) (n0 : Nat) (l2 : Int32) (x : Int32 × St) : Option (St) := whl N (bfX5_copy_7 N n0 l2 ) x
set_option maxRecDepth 20000 in
theorem rbfX5_copy_7 (d N : Nat) (res : Option Value × am_S) (n0 : Nat) (l2 : Int32) (x : Int32 × St) (z : (Int32 × St) ⊕ (St)) (h : bfX5_copy_7 N n0 l2 x = some z) (hz : Sum.elim (PfX5_copy_7 (d + 1) res n0 l2 ) (QfX5_copy_7 (d + 1) res n0 l2 ) z) : PfX5_copy_7 (d + 1) res n0 l2 x := by
  unfold bfX5_copy_7 at h
  show am_Rn (am_C (d + 1)) (am_ct 47) (am_rk 47) res (7, [some (.ref (TA n0)), some (.ref 1), some (.int l2), some (.int x.1)], [], am_T0 x.2)
  refine am_Rn.op _ (8, [some (.ref (TA n0)), some (.ref 1), some (.int l2), some (.int x.1)], [.int x.1], am_T0 x.2) rfl rfl ?_
  refine am_Rn.op _ (9, [some (.ref (TA n0)), some (.ref 1), some (.int l2), some (.int x.1)], [.int l2, .int x.1], am_T0 x.2) rfl rfl ?_
  refine am_Rn.op _ (if l2 ≤ x.1 then 48 else 12, [some (.ref (TA n0)), some (.ref 1), some (.int l2), some (.int x.1)], [], am_T0 x.2) rfl rfl ?_
  rcases l2_i h with ⟨hc, h⟩ | ⟨hc, h⟩
  · refine am_Rn.ifT hc ?_
    cases h
    exact hz _ _ _
  · refine am_Rn.ifF hc ?_
    refine am_Rn.op _ (13, [some (.ref (TA n0)), some (.ref 1), some (.int l2), some (.int x.1)], [.int x.1], am_T0 x.2) rfl rfl ?_
    refine am_Rn.op _ (14, [some (.ref (TA n0)), some (.ref 1), some (.int l2), some (.int x.1)], [.ref (TA n0), .int x.1], am_T0 x.2) rfl rfl ?_
    refine am_Rn.getf rfl (l2_isO n0 x.2) (l2_ref n0 0 x.2 (by decide) rfl) ?_
    show am_Rn _ _ _ _ (17, [some (.ref (TA n0)), some (.ref 1), some (.int l2), some (.int x.1)], [.ref (TA n0 + 1), .int x.1], am_T0 x.2)
    refine am_Rn.alen (n := 60) rfl (l2_alen n0 1 x.2 (by decide) (by decide) (by decide)) ?_
    show am_Rn _ _ _ _ (18, [some (.ref (TA n0)), some (.ref 1), some (.int l2), some (.int x.1)], [.int 60, .int x.1], am_T0 x.2)
    refine am_Rn.op _ (if 60 ≤ x.1 then 48 else 21, [some (.ref (TA n0)), some (.ref 1), some (.int l2), some (.int x.1)], [], am_T0 x.2) rfl rfl ?_
    rcases l2_i h with ⟨hc, h⟩ | ⟨hc, h⟩
    · refine am_Rn.ifT hc ?_
      cases h
      exact hz _ _ _
    · refine am_Rn.ifF hc ?_
      refine am_Rn.op _ (22, [some (.ref (TA n0)), some (.ref 1), some (.int l2), some (.int x.1)], [.ref (TA n0)], am_T0 x.2) rfl rfl ?_
      refine am_Rn.getf rfl (l2_isO n0 x.2) (l2_ref n0 0 x.2 (by decide) rfl) ?_
      show am_Rn _ _ _ _ (25, [some (.ref (TA n0)), some (.ref 1), some (.int l2), some (.int x.1)], [.ref (TA n0 + 1)], am_T0 x.2)
      refine am_Rn.op _ (26, [some (.ref (TA n0)), some (.ref 1), some (.int l2), some (.int x.1)], [.int x.1, .ref (TA n0 + 1)], am_T0 x.2) rfl rfl ?_
      refine am_Rn.op _ (27, [some (.ref (TA n0)), some (.ref 1), some (.int l2), some (.int x.1)], [.ref 1, .int x.1, .ref (TA n0 + 1)], am_T0 x.2) rfl rfl ?_
      refine am_Rn.op _ (28, [some (.ref (TA n0)), some (.ref 1), some (.int l2), some (.int x.1)], [.int x.1, .ref 1, .int x.1, .ref (TA n0 + 1)], am_T0 x.2) rfl rfl ?_
      obtain ⟨q1, hq1, h⟩ := l2_b h
      refine am_Rn.cl _ (some (.int q1.1)) (am_T0 q1.2) rfl rfl (rfX4_at (d + 0) N x.1 x.2 q1 hq1) ?_
      show am_Rn _ _ _ _ (31, [some (.ref (TA n0)), some (.ref 1), some (.int l2), some (.int x.1)], [.int q1.1, .int x.1, .ref (TA n0 + 1)], am_T0 q1.2)
      obtain ⟨hb2, h⟩ := l2_n h
      refine am_Rn.iast (n := 60) rfl (l2_len n0 1 q1.2 (by decide) (by decide)) hb2 ?_
      show am_Rn _ _ _ _ (32, [some (.ref (TA n0)), some (.ref 1), some (.int l2), some (.int x.1)], [], am_T0 (st_i q1.2 (TA n0 + 1) (Int32.toNatClampNeg x.1) q1.1))
      refine am_Rn.op _ (33, [some (.ref (TA n0)), some (.ref 1), some (.int l2), some (.int x.1)], [.ref (TA n0)], am_T0 (st_i q1.2 (TA n0 + 1) (Int32.toNatClampNeg x.1) q1.1)) rfl rfl ?_
      refine am_Rn.op _ (34, [some (.ref (TA n0)), some (.ref 1), some (.int l2), some (.int x.1)], [.ref (TA n0), .ref (TA n0)], am_T0 (st_i q1.2 (TA n0 + 1) (Int32.toNatClampNeg x.1) q1.1)) rfl rfl ?_
      refine am_Rn.getf rfl (l2_isO n0 (st_i q1.2 (TA n0 + 1) (Int32.toNatClampNeg x.1) q1.1)) rfl ?_
      show am_Rn _ _ _ _ (37, [some (.ref (TA n0)), some (.ref 1), some (.int l2), some (.int x.1)], [.int ((st_i q1.2 (TA n0 + 1) (Int32.toNatClampNeg x.1) q1.1).1 (TA n0) 1), .ref (TA n0)], am_T0 (st_i q1.2 (TA n0 + 1) (Int32.toNatClampNeg x.1) q1.1))
      refine am_Rn.op _ (38, [some (.ref (TA n0)), some (.ref 1), some (.int l2), some (.int x.1)], [.int 1, .int ((st_i q1.2 (TA n0 + 1) (Int32.toNatClampNeg x.1) q1.1).1 (TA n0) 1), .ref (TA n0)], am_T0 (st_i q1.2 (TA n0 + 1) (Int32.toNatClampNeg x.1) q1.1)) rfl rfl ?_
      refine am_Rn.op _ (39, [some (.ref (TA n0)), some (.ref 1), some (.int l2), some (.int x.1)], [.int (((st_i q1.2 (TA n0 + 1) (Int32.toNatClampNeg x.1) q1.1).1 (TA n0) 1) + 1), .ref (TA n0)], am_T0 (st_i q1.2 (TA n0 + 1) (Int32.toNatClampNeg x.1) q1.1)) rfl rfl ?_
      refine am_Rn.putf rfl (l2_isO n0 (st_i q1.2 (TA n0 + 1) (Int32.toNatClampNeg x.1) q1.1)) rfl ?_
      show am_Rn _ _ _ _ (42, [some (.ref (TA n0)), some (.ref 1), some (.int l2), some (.int x.1)], [], am_T0 (st_i (st_i q1.2 (TA n0 + 1) (Int32.toNatClampNeg x.1) q1.1) (TA n0) 1 (((st_i q1.2 (TA n0 + 1) (Int32.toNatClampNeg x.1) q1.1).1 (TA n0) 1) + 1)))
      refine am_Rn.op _ (45, [some (.ref (TA n0)), some (.ref 1), some (.int l2), some (.int (x.1 + 1))], [], am_T0 (st_i (st_i q1.2 (TA n0 + 1) (Int32.toNatClampNeg x.1) q1.1) (TA n0) 1 (((st_i q1.2 (TA n0 + 1) (Int32.toNatClampNeg x.1) q1.1).1 (TA n0) 1) + 1))) rfl rfl ?_
      refine am_Rn.op _ (7, [some (.ref (TA n0)), some (.ref 1), some (.int l2), some (.int (x.1 + 1))], [], am_T0 (st_i (st_i q1.2 (TA n0 + 1) (Int32.toNatClampNeg x.1) q1.1) (TA n0) 1 (((st_i q1.2 (TA n0 + 1) (Int32.toNatClampNeg x.1) q1.1).1 (TA n0) 1) + 1))) rfl rfl ?_
      cases h
      exact hz 
theorem rfX5_copy_7 (d N : Nat) (res : Option Value × am_S) (n0 : Nat) (l2 : Int32) (x : Int32 × St) (y : St) (h : fX5_copy_7 N n0 l2 x = some y) (hq : QfX5_copy_7 (d + 1) res n0 l2 y) : PfX5_copy_7 (d + 1) res n0 l2 x := whl_ind _ _ (fun x z => rbfX5_copy_7 d N res n0 l2 x z) N x y h hq
def fX5_copy (N : Nat) (n0 : Nat) (l2 : Int32) (S : St) : Option St := (fX5_copy_7 N n0 l2 (0, (st_i S (TA n0) 1 0))).bind (fun y3 => some (st_i (st_i (st_i y3 (TA n0) 8 0) (TA n0) 10 0) (TA n0) 11 0))
set_option maxRecDepth 20000 in
theorem rfX5_copy (d N : Nat) (n0 : Nat) (l2 : Int32) (S : St) (z : St) (h : fX5_copy N n0 l2 S = some z) : am_C (d + 2) 47 [.ref (TA n0), .ref 1, .int l2] (am_T0 S) (none, am_T0 z) := by
  unfold fX5_copy at h
  show am_Rn (am_C (d + 1)) (am_ct 47) (am_rk 47) (none, am_T0 z) (0, [some (.ref (TA n0)), some (.ref 1), some (.int l2), none], [], am_T0 S)
  refine am_Rn.op _ (1, [some (.ref (TA n0)), some (.ref 1), some (.int l2), none], [.ref (TA n0)], am_T0 S) rfl rfl ?_
  refine am_Rn.op _ (2, [some (.ref (TA n0)), some (.ref 1), some (.int l2), none], [.int 0, .ref (TA n0)], am_T0 S) rfl rfl ?_
  refine am_Rn.putf rfl (l2_isO n0 S) rfl ?_
  show am_Rn _ _ _ _ (5, [some (.ref (TA n0)), some (.ref 1), some (.int l2), none], [], am_T0 (st_i S (TA n0) 1 0))
  refine am_Rn.op _ (6, [some (.ref (TA n0)), some (.ref 1), some (.int l2), none], [.int 0], am_T0 (st_i S (TA n0) 1 0)) rfl rfl ?_
  refine am_Rn.op _ (7, [some (.ref (TA n0)), some (.ref 1), some (.int l2), some (.int 0)], [], am_T0 (st_i S (TA n0) 1 0)) rfl rfl ?_
  obtain ⟨y3, hy3, h⟩ := l2_b h
  refine rfX5_copy_7 d N _ n0 l2 (0, (st_i S (TA n0) 1 0)) y3 hy3 ?_ 
  intro w4 w5 w6
  show am_Rn _ _ _ _ (48, [some (.ref (TA n0)), w4, w5, w6], [], am_T0 y3)
  refine am_Rn.op _ (49, [some (.ref (TA n0)), w4, w5, w6], [.ref (TA n0)], am_T0 y3) rfl rfl ?_
  refine am_Rn.op _ (50, [some (.ref (TA n0)), w4, w5, w6], [.int 0, .ref (TA n0)], am_T0 y3) rfl rfl ?_
  refine am_Rn.putf rfl (l2_isO n0 y3) rfl ?_
  show am_Rn _ _ _ _ (53, [some (.ref (TA n0)), w4, w5, w6], [], am_T0 (st_i y3 (TA n0) 8 0))
  refine am_Rn.op _ (54, [some (.ref (TA n0)), w4, w5, w6], [.ref (TA n0)], am_T0 (st_i y3 (TA n0) 8 0)) rfl rfl ?_
  refine am_Rn.op _ (55, [some (.ref (TA n0)), w4, w5, w6], [.int 0, .ref (TA n0)], am_T0 (st_i y3 (TA n0) 8 0)) rfl rfl ?_
  refine am_Rn.putf rfl (l2_isO n0 (st_i y3 (TA n0) 8 0)) rfl ?_
  show am_Rn _ _ _ _ (58, [some (.ref (TA n0)), w4, w5, w6], [], am_T0 (st_i (st_i y3 (TA n0) 8 0) (TA n0) 10 0))
  refine am_Rn.op _ (59, [some (.ref (TA n0)), w4, w5, w6], [.ref (TA n0)], am_T0 (st_i (st_i y3 (TA n0) 8 0) (TA n0) 10 0)) rfl rfl ?_
  refine am_Rn.op _ (60, [some (.ref (TA n0)), w4, w5, w6], [.int 0, .ref (TA n0)], am_T0 (st_i (st_i y3 (TA n0) 8 0) (TA n0) 10 0)) rfl rfl ?_
  refine am_Rn.putf rfl (l2_isO n0 (st_i (st_i y3 (TA n0) 8 0) (TA n0) 10 0)) rfl ?_
  show am_Rn _ _ _ _ (63, [some (.ref (TA n0)), w4, w5, w6], [], am_T0 (st_i (st_i (st_i y3 (TA n0) 8 0) (TA n0) 10 0) (TA n0) 11 0))
  cases h
  exact am_Rn.rt _ rfl rfl
-- X5_calls
def fX5_calls (N : Nat) (n0 : Nat) (S : St) : Option (Int32 × St) := some ((S.1 (TA n0) 11), S)
set_option maxRecDepth 20000 in
theorem rfX5_calls (d N : Nat) (n0 : Nat) (S : St) (z : (Int32 × St)) (h : fX5_calls N n0 S = some z) : am_C (d + 1) 61 [.ref (TA n0)] (am_T0 S) (some (.int z.1), am_T0 z.2) := by
  unfold fX5_calls at h
  show am_Rn (am_C (d + 0)) (am_ct 61) (am_rk 61) (some (.int z.1), am_T0 z.2) (0, [some (.ref (TA n0))], [], am_T0 S)
  refine am_Rn.op _ (1, [some (.ref (TA n0))], [.ref (TA n0)], am_T0 S) rfl rfl ?_
  refine am_Rn.getf rfl (l2_isO n0 S) rfl ?_
  show am_Rn _ _ _ _ (4, [some (.ref (TA n0))], [.int (S.1 (TA n0) 11)], am_T0 S)
  cases h
  exact am_Rn.rt _ rfl rfl
-- X5_takerCount
def fX5_takerCount (N : Nat) (n0 : Nat) (S : St) : Option (Int32 × St) := some ((S.1 (TA n0) 10), S)
set_option maxRecDepth 20000 in
theorem rfX5_takerCount (d N : Nat) (n0 : Nat) (S : St) (z : (Int32 × St)) (h : fX5_takerCount N n0 S = some z) : am_C (d + 1) 64 [.ref (TA n0)] (am_T0 S) (some (.int z.1), am_T0 z.2) := by
  unfold fX5_takerCount at h
  show am_Rn (am_C (d + 0)) (am_ct 64) (am_rk 64) (some (.int z.1), am_T0 z.2) (0, [some (.ref (TA n0))], [], am_T0 S)
  refine am_Rn.op _ (1, [some (.ref (TA n0))], [.ref (TA n0)], am_T0 S) rfl rfl ?_
  refine am_Rn.getf rfl (l2_isO n0 S) rfl ?_
  show am_Rn _ _ _ _ (4, [some (.ref (TA n0))], [.int (S.1 (TA n0) 10)], am_T0 S)
  cases h
  exact am_Rn.rt _ rfl rfl
-- X5_takerPlace
def fX5_takerPlace_31 (N : Nat) (s0 : Int32) (S : St) : Option (Int32 × St) := some (s0, S)
set_option maxRecDepth 20000 in
theorem rfX5_takerPlace_31 (d N : Nat) (s0 : Int32) (S : St) (z : (Int32 × St)) (h : fX5_takerPlace_31 N s0 S = some z) (w0 : Option Value) (w1 : Option Value) : am_Rn (am_C (d + 0)) (am_ct 65) (am_rk 65) (some (.int z.1), am_T0 z.2) (31, [w0, w1], [.int s0], am_T0 S) := by
  unfold fX5_takerPlace_31 at h
  cases h
  exact am_Rn.rt _ rfl rfl
def fX5_takerPlace (N : Nat) (n0 : Nat) (l1 : Int32) (S : St) : Option (Int32 × St) := (if l1 < 0 then fX5_takerPlace_31 N (-1) S else (if (S.1 (TA n0) 10) ≤ l1 then fX5_takerPlace_31 N (-1) S else (if 20 ≤ l1 then fX5_takerPlace_31 N (-1) S else (if l1 < 0 ∨ 20 ≤ Int32.toNatClampNeg l1 then none else fX5_takerPlace_31 N (S.1 (TA n0 + 8) (Int32.toNatClampNeg l1)) S))))
set_option maxRecDepth 20000 in
theorem rfX5_takerPlace (d N : Nat) (n0 : Nat) (l1 : Int32) (S : St) (z : (Int32 × St)) (h : fX5_takerPlace N n0 l1 S = some z) : am_C (d + 1) 65 [.ref (TA n0), .int l1] (am_T0 S) (some (.int z.1), am_T0 z.2) := by
  unfold fX5_takerPlace at h
  show am_Rn (am_C (d + 0)) (am_ct 65) (am_rk 65) (some (.int z.1), am_T0 z.2) (0, [some (.ref (TA n0)), some (.int l1)], [], am_T0 S)
  refine am_Rn.op _ (1, [some (.ref (TA n0)), some (.int l1)], [.int l1], am_T0 S) rfl rfl ?_
  refine am_Rn.op _ (if l1 < 0 then 30 else 4, [some (.ref (TA n0)), some (.int l1)], [], am_T0 S) rfl rfl ?_
  rcases l2_i h with ⟨hc, h⟩ | ⟨hc, h⟩
  · refine am_Rn.ifT hc ?_
    refine am_Rn.op _ (31, [some (.ref (TA n0)), some (.int l1)], [.int (-1)], am_T0 S) rfl rfl ?_
    exact rfX5_takerPlace_31 d N (-1) S _ h _ _
  · refine am_Rn.ifF hc ?_
    refine am_Rn.op _ (5, [some (.ref (TA n0)), some (.int l1)], [.int l1], am_T0 S) rfl rfl ?_
    refine am_Rn.op _ (6, [some (.ref (TA n0)), some (.int l1)], [.ref (TA n0), .int l1], am_T0 S) rfl rfl ?_
    refine am_Rn.getf rfl (l2_isO n0 S) rfl ?_
    show am_Rn _ _ _ _ (9, [some (.ref (TA n0)), some (.int l1)], [.int (S.1 (TA n0) 10), .int l1], am_T0 S)
    refine am_Rn.op _ (if (S.1 (TA n0) 10) ≤ l1 then 30 else 12, [some (.ref (TA n0)), some (.int l1)], [], am_T0 S) rfl rfl ?_
    rcases l2_i h with ⟨hc, h⟩ | ⟨hc, h⟩
    · refine am_Rn.ifT hc ?_
      refine am_Rn.op _ (31, [some (.ref (TA n0)), some (.int l1)], [.int (-1)], am_T0 S) rfl rfl ?_
      exact rfX5_takerPlace_31 d N (-1) S _ h _ _
    · refine am_Rn.ifF hc ?_
      refine am_Rn.op _ (13, [some (.ref (TA n0)), some (.int l1)], [.int l1], am_T0 S) rfl rfl ?_
      refine am_Rn.op _ (14, [some (.ref (TA n0)), some (.int l1)], [.ref (TA n0), .int l1], am_T0 S) rfl rfl ?_
      refine am_Rn.getf rfl (l2_isO n0 S) (l2_ref n0 9 S (by decide) rfl) ?_
      show am_Rn _ _ _ _ (17, [some (.ref (TA n0)), some (.int l1)], [.ref (TA n0 + 8), .int l1], am_T0 S)
      refine am_Rn.alen (n := 20) rfl (l2_alen n0 8 S (by decide) (by decide) (by decide)) ?_
      show am_Rn _ _ _ _ (18, [some (.ref (TA n0)), some (.int l1)], [.int 20, .int l1], am_T0 S)
      refine am_Rn.op _ (if 20 ≤ l1 then 30 else 21, [some (.ref (TA n0)), some (.int l1)], [], am_T0 S) rfl rfl ?_
      rcases l2_i h with ⟨hc, h⟩ | ⟨hc, h⟩
      · refine am_Rn.ifT hc ?_
        refine am_Rn.op _ (31, [some (.ref (TA n0)), some (.int l1)], [.int (-1)], am_T0 S) rfl rfl ?_
        exact rfX5_takerPlace_31 d N (-1) S _ h _ _
      · refine am_Rn.ifF hc ?_
        refine am_Rn.op _ (22, [some (.ref (TA n0)), some (.int l1)], [.ref (TA n0)], am_T0 S) rfl rfl ?_
        refine am_Rn.getf rfl (l2_isO n0 S) (l2_ref n0 9 S (by decide) rfl) ?_
        show am_Rn _ _ _ _ (25, [some (.ref (TA n0)), some (.int l1)], [.ref (TA n0 + 8)], am_T0 S)
        refine am_Rn.op _ (26, [some (.ref (TA n0)), some (.int l1)], [.int l1, .ref (TA n0 + 8)], am_T0 S) rfl rfl ?_
        obtain ⟨hb1, h⟩ := l2_n h
        refine am_Rn.iald (n := 20) rfl (l2_len n0 8 S (by decide) (by decide)) hb1 ?_
        show am_Rn _ _ _ _ (27, [some (.ref (TA n0)), some (.int l1)], [.int (S.1 (TA n0 + 8) (Int32.toNatClampNeg l1))], am_T0 S)
        refine am_Rn.op _ (31, [some (.ref (TA n0)), some (.int l1)], [.int (S.1 (TA n0 + 8) (Int32.toNatClampNeg l1))], am_T0 S) rfl rfl ?_
        exact rfX5_takerPlace_31 d N (S.1 (TA n0 + 8) (Int32.toNatClampNeg l1)) S _ h _ _
-- X5_takerKind
def fX5_takerKind (N : Nat) (n0 : Nat) (l1 : Int32) (S : St) : Option (Int32 × St) := (fX5_takerPlace N n0 l1 S).bind (fun q1 => (fX5_kindAt N n0 q1.1 q1.2).bind (fun q2 => some (q2.1, q2.2)))
set_option maxRecDepth 20000 in
theorem rfX5_takerKind (d N : Nat) (n0 : Nat) (l1 : Int32) (S : St) (z : (Int32 × St)) (h : fX5_takerKind N n0 l1 S = some z) : am_C (d + 3) 66 [.ref (TA n0), .int l1] (am_T0 S) (some (.int z.1), am_T0 z.2) := by
  unfold fX5_takerKind at h
  show am_Rn (am_C (d + 2)) (am_ct 66) (am_rk 66) (some (.int z.1), am_T0 z.2) (0, [some (.ref (TA n0)), some (.int l1)], [], am_T0 S)
  refine am_Rn.op _ (1, [some (.ref (TA n0)), some (.int l1)], [.ref (TA n0)], am_T0 S) rfl rfl ?_
  refine am_Rn.op _ (2, [some (.ref (TA n0)), some (.int l1)], [.ref (TA n0), .ref (TA n0)], am_T0 S) rfl rfl ?_
  refine am_Rn.op _ (3, [some (.ref (TA n0)), some (.int l1)], [.int l1, .ref (TA n0), .ref (TA n0)], am_T0 S) rfl rfl ?_
  obtain ⟨q1, hq1, h⟩ := l2_b h
  refine am_Rn.cl _ (some (.int q1.1)) (am_T0 q1.2) rfl (o_clv rfl rfl rfl (l2_isO n0 S)) (rfX5_takerPlace (d + 1) N n0 l1 S q1 hq1) ?_
  show am_Rn _ _ _ _ (6, [some (.ref (TA n0)), some (.int l1)], [.int q1.1, .ref (TA n0)], am_T0 q1.2)
  obtain ⟨q2, hq2, h⟩ := l2_b h
  refine am_Rn.cl _ (some (.int q2.1)) (am_T0 q2.2) rfl (o_clv rfl rfl rfl (l2_isO n0 q1.2)) (rfX5_kindAt (d + 0) N n0 q1.1 q1.2 q2 hq2) ?_
  show am_Rn _ _ _ _ (9, [some (.ref (TA n0)), some (.int l1)], [.int q2.1], am_T0 q2.2)
  cases h
  exact am_Rn.rt _ rfl rfl
-- X5_isEmptyTaker
def fX5_isEmptyTaker_30 (N : Nat) (s0 : Int32) (S : St) : Option (Int32 × St) := (if s0 = 0 ∨ s0 = 1 then some (s0, S) else none)
set_option maxRecDepth 20000 in
theorem rfX5_isEmptyTaker_30 (d N : Nat) (s0 : Int32) (S : St) (z : (Int32 × St)) (h : fX5_isEmptyTaker_30 N s0 S = some z) (w0 : Option Value) (w1 : Option Value) (w2 : Option Value) : am_Rn (am_C (d + 2)) (am_ct 67) (am_rk 67) (some (.int z.1), am_T0 z.2) (30, [w0, w1, w2], [.int s0], am_T0 S) := by
  unfold fX5_isEmptyTaker_30 at h
  obtain ⟨hb1, h⟩ := l2_y h
  cases h
  exact am_Rn.rt _ rfl (l2_rz hb1)
def fX5_isEmptyTaker (N : Nat) (n0 : Nat) (l1 : Int32) (S : St) : Option (Int32 × St) := (fX5_takerPlace N n0 l1 S).bind (fun q2 => (fX5_blockAt N n0 (q2.1 + 1) q2.2).bind (fun q3 => (fX5_firstOf N n0 q3.1 q3.2).bind (fun q4 => (fX5_closeOf N n0 q3.1 q4.2).bind (fun q5 => (if q4.1 = q5.1 then fX5_isEmptyTaker_30 N 1 q5.2 else fX5_isEmptyTaker_30 N 0 q5.2)))))
set_option maxRecDepth 20000 in
theorem rfX5_isEmptyTaker (d N : Nat) (n0 : Nat) (l1 : Int32) (S : St) (z : (Int32 × St)) (h : fX5_isEmptyTaker N n0 l1 S = some z) : am_C (d + 3) 67 [.ref (TA n0), .int l1] (am_T0 S) (some (.int z.1), am_T0 z.2) := by
  unfold fX5_isEmptyTaker at h
  show am_Rn (am_C (d + 2)) (am_ct 67) (am_rk 67) (some (.int z.1), am_T0 z.2) (0, [some (.ref (TA n0)), some (.int l1), none], [], am_T0 S)
  refine am_Rn.op _ (1, [some (.ref (TA n0)), some (.int l1), none], [.ref (TA n0)], am_T0 S) rfl rfl ?_
  refine am_Rn.op _ (2, [some (.ref (TA n0)), some (.int l1), none], [.ref (TA n0), .ref (TA n0)], am_T0 S) rfl rfl ?_
  refine am_Rn.op _ (3, [some (.ref (TA n0)), some (.int l1), none], [.int l1, .ref (TA n0), .ref (TA n0)], am_T0 S) rfl rfl ?_
  obtain ⟨q2, hq2, h⟩ := l2_b h
  refine am_Rn.cl _ (some (.int q2.1)) (am_T0 q2.2) rfl (o_clv rfl rfl rfl (l2_isO n0 S)) (rfX5_takerPlace (d + 1) N n0 l1 S q2 hq2) ?_
  show am_Rn _ _ _ _ (6, [some (.ref (TA n0)), some (.int l1), none], [.int q2.1, .ref (TA n0)], am_T0 q2.2)
  refine am_Rn.op _ (7, [some (.ref (TA n0)), some (.int l1), none], [.int 1, .int q2.1, .ref (TA n0)], am_T0 q2.2) rfl rfl ?_
  refine am_Rn.op _ (8, [some (.ref (TA n0)), some (.int l1), none], [.int (q2.1 + 1), .ref (TA n0)], am_T0 q2.2) rfl rfl ?_
  obtain ⟨q3, hq3, h⟩ := l2_b h
  refine am_Rn.cl _ (some (.int q3.1)) (am_T0 q3.2) rfl (o_clv rfl rfl rfl (l2_isO n0 q2.2)) (rfX5_blockAt (d + 0) N n0 (q2.1 + 1) q2.2 q3 hq3) ?_
  show am_Rn _ _ _ _ (11, [some (.ref (TA n0)), some (.int l1), none], [.int q3.1], am_T0 q3.2)
  refine am_Rn.op _ (12, [some (.ref (TA n0)), some (.int l1), some (.int q3.1)], [], am_T0 q3.2) rfl rfl ?_
  refine am_Rn.op _ (13, [some (.ref (TA n0)), some (.int l1), some (.int q3.1)], [.ref (TA n0)], am_T0 q3.2) rfl rfl ?_
  refine am_Rn.op _ (14, [some (.ref (TA n0)), some (.int l1), some (.int q3.1)], [.int q3.1, .ref (TA n0)], am_T0 q3.2) rfl rfl ?_
  obtain ⟨q4, hq4, h⟩ := l2_b h
  refine am_Rn.cl _ (some (.int q4.1)) (am_T0 q4.2) rfl (o_clv rfl rfl rfl (l2_isO n0 q3.2)) (rfX5_firstOf (d + 0) N n0 q3.1 q3.2 q4 hq4) ?_
  show am_Rn _ _ _ _ (17, [some (.ref (TA n0)), some (.int l1), some (.int q3.1)], [.int q4.1], am_T0 q4.2)
  refine am_Rn.op _ (18, [some (.ref (TA n0)), some (.int l1), some (.int q3.1)], [.ref (TA n0), .int q4.1], am_T0 q4.2) rfl rfl ?_
  refine am_Rn.op _ (19, [some (.ref (TA n0)), some (.int l1), some (.int q3.1)], [.int q3.1, .ref (TA n0), .int q4.1], am_T0 q4.2) rfl rfl ?_
  obtain ⟨q5, hq5, h⟩ := l2_b h
  refine am_Rn.cl _ (some (.int q5.1)) (am_T0 q5.2) rfl (o_clv rfl rfl rfl (l2_isO n0 q4.2)) (rfX5_closeOf (d + 0) N n0 q3.1 q4.2 q5 hq5) ?_
  show am_Rn _ _ _ _ (22, [some (.ref (TA n0)), some (.int l1), some (.int q3.1)], [.int q5.1, .int q4.1], am_T0 q5.2)
  refine am_Rn.op _ (if q4.1 = q5.1 then 25 else 29, [some (.ref (TA n0)), some (.int l1), some (.int q3.1)], [], am_T0 q5.2) rfl rfl ?_
  rcases l2_i h with ⟨hc, h⟩ | ⟨hc, h⟩
  · refine am_Rn.ifT hc ?_
    refine am_Rn.op _ (26, [some (.ref (TA n0)), some (.int l1), some (.int q3.1)], [.int 1], am_T0 q5.2) rfl rfl ?_
    refine am_Rn.op _ (30, [some (.ref (TA n0)), some (.int l1), some (.int q3.1)], [.int 1], am_T0 q5.2) rfl rfl ?_
    exact rfX5_isEmptyTaker_30 d N 1 q5.2 _ h _ _ _
  · refine am_Rn.ifF hc ?_
    refine am_Rn.op _ (30, [some (.ref (TA n0)), some (.int l1), some (.int q3.1)], [.int 0], am_T0 q5.2) rfl rfl ?_
    exact rfX5_isEmptyTaker_30 d N 0 q5.2 _ h _ _ _
-- X5_takenKinds
def fX5_takenKinds_30 (N : Nat) (s0 : Int32) (S : St) : Option (Int32 × St) := some (s0, S)
set_option maxRecDepth 20000 in
theorem rfX5_takenKinds_30 (d N : Nat) (s0 : Int32) (S : St) (z : (Int32 × St)) (h : fX5_takenKinds_30 N s0 S = some z) (w0 : Option Value) (w1 : Option Value) (w2 : Option Value) : am_Rn (am_C (d + 2)) (am_ct 68) (am_rk 68) (some (.int z.1), am_T0 z.2) (30, [w0, w1, w2], [.int s0], am_T0 S) := by
  unfold fX5_takenKinds_30 at h
  cases h
  exact am_Rn.rt _ rfl rfl
def fX5_takenKinds (N : Nat) (n0 : Nat) (l1 : Int32) (S : St) : Option (Int32 × St) := (fX5_takerPlace N n0 l1 S).bind (fun q1 => (fX5_blockAt N n0 (q1.1 + 1) q1.2).bind (fun q2 => (fX5_isBlock N n0 q2.1 q2.2).bind (fun q3 => (if q3.1 = 0 then fX5_takenKinds_30 N 0 q3.2 else (if q2.1 < 0 ∨ 31 ≤ Int32.toNatClampNeg q2.1 then none else fX5_takenKinds_30 N (q3.2.1 (TA n0 + 7) (Int32.toNatClampNeg q2.1)) q3.2)))))
set_option maxRecDepth 20000 in
theorem rfX5_takenKinds (d N : Nat) (n0 : Nat) (l1 : Int32) (S : St) (z : (Int32 × St)) (h : fX5_takenKinds N n0 l1 S = some z) : am_C (d + 3) 68 [.ref (TA n0), .int l1] (am_T0 S) (some (.int z.1), am_T0 z.2) := by
  unfold fX5_takenKinds at h
  show am_Rn (am_C (d + 2)) (am_ct 68) (am_rk 68) (some (.int z.1), am_T0 z.2) (0, [some (.ref (TA n0)), some (.int l1), none], [], am_T0 S)
  refine am_Rn.op _ (1, [some (.ref (TA n0)), some (.int l1), none], [.ref (TA n0)], am_T0 S) rfl rfl ?_
  refine am_Rn.op _ (2, [some (.ref (TA n0)), some (.int l1), none], [.ref (TA n0), .ref (TA n0)], am_T0 S) rfl rfl ?_
  refine am_Rn.op _ (3, [some (.ref (TA n0)), some (.int l1), none], [.int l1, .ref (TA n0), .ref (TA n0)], am_T0 S) rfl rfl ?_
  obtain ⟨q1, hq1, h⟩ := l2_b h
  refine am_Rn.cl _ (some (.int q1.1)) (am_T0 q1.2) rfl (o_clv rfl rfl rfl (l2_isO n0 S)) (rfX5_takerPlace (d + 1) N n0 l1 S q1 hq1) ?_
  show am_Rn _ _ _ _ (6, [some (.ref (TA n0)), some (.int l1), none], [.int q1.1, .ref (TA n0)], am_T0 q1.2)
  refine am_Rn.op _ (7, [some (.ref (TA n0)), some (.int l1), none], [.int 1, .int q1.1, .ref (TA n0)], am_T0 q1.2) rfl rfl ?_
  refine am_Rn.op _ (8, [some (.ref (TA n0)), some (.int l1), none], [.int (q1.1 + 1), .ref (TA n0)], am_T0 q1.2) rfl rfl ?_
  obtain ⟨q2, hq2, h⟩ := l2_b h
  refine am_Rn.cl _ (some (.int q2.1)) (am_T0 q2.2) rfl (o_clv rfl rfl rfl (l2_isO n0 q1.2)) (rfX5_blockAt (d + 0) N n0 (q1.1 + 1) q1.2 q2 hq2) ?_
  show am_Rn _ _ _ _ (11, [some (.ref (TA n0)), some (.int l1), none], [.int q2.1], am_T0 q2.2)
  refine am_Rn.op _ (12, [some (.ref (TA n0)), some (.int l1), some (.int q2.1)], [], am_T0 q2.2) rfl rfl ?_
  refine am_Rn.op _ (13, [some (.ref (TA n0)), some (.int l1), some (.int q2.1)], [.ref (TA n0)], am_T0 q2.2) rfl rfl ?_
  refine am_Rn.op _ (14, [some (.ref (TA n0)), some (.int l1), some (.int q2.1)], [.int q2.1, .ref (TA n0)], am_T0 q2.2) rfl rfl ?_
  obtain ⟨q3, hq3, h⟩ := l2_b h
  refine am_Rn.cl _ (some (.int q3.1)) (am_T0 q3.2) rfl (o_clv rfl rfl rfl (l2_isO n0 q2.2)) (rfX5_isBlock (d + 1) N n0 q2.1 q2.2 q3 hq3) ?_
  show am_Rn _ _ _ _ (17, [some (.ref (TA n0)), some (.int l1), some (.int q2.1)], [.int q3.1], am_T0 q3.2)
  refine am_Rn.op _ (if q3.1 = 0 then 29 else 20, [some (.ref (TA n0)), some (.int l1), some (.int q2.1)], [], am_T0 q3.2) rfl rfl ?_
  rcases l2_i h with ⟨hc, h⟩ | ⟨hc, h⟩
  · refine am_Rn.ifT hc ?_
    refine am_Rn.op _ (30, [some (.ref (TA n0)), some (.int l1), some (.int q2.1)], [.int 0], am_T0 q3.2) rfl rfl ?_
    exact rfX5_takenKinds_30 d N 0 q3.2 _ h _ _ _
  · refine am_Rn.ifF hc ?_
    refine am_Rn.op _ (21, [some (.ref (TA n0)), some (.int l1), some (.int q2.1)], [.ref (TA n0)], am_T0 q3.2) rfl rfl ?_
    refine am_Rn.getf rfl (l2_isO n0 q3.2) (l2_ref n0 7 q3.2 (by decide) rfl) ?_
    show am_Rn _ _ _ _ (24, [some (.ref (TA n0)), some (.int l1), some (.int q2.1)], [.ref (TA n0 + 7)], am_T0 q3.2)
    refine am_Rn.op _ (25, [some (.ref (TA n0)), some (.int l1), some (.int q2.1)], [.int q2.1, .ref (TA n0 + 7)], am_T0 q3.2) rfl rfl ?_
    obtain ⟨hb4, h⟩ := l2_n h
    refine am_Rn.iald (n := 31) rfl (l2_len n0 7 q3.2 (by decide) (by decide)) hb4 ?_
    show am_Rn _ _ _ _ (26, [some (.ref (TA n0)), some (.int l1), some (.int q2.1)], [.int (q3.2.1 (TA n0 + 7) (Int32.toNatClampNeg q2.1))], am_T0 q3.2)
    refine am_Rn.op _ (30, [some (.ref (TA n0)), some (.int l1), some (.int q2.1)], [.int (q3.2.1 (TA n0 + 7) (Int32.toNatClampNeg q2.1))], am_T0 q3.2) rfl rfl ?_
    exact rfX5_takenKinds_30 d N (q3.2.1 (TA n0 + 7) (Int32.toNatClampNeg q2.1)) q3.2 _ h _ _ _
-- X5_lostKinds
def fX5_lostKinds (N : Nat) (n0 : Nat) (S : St) : Option (Int32 × St) := some ((S.1 (TA n0) 12), S)
set_option maxRecDepth 20000 in
theorem rfX5_lostKinds (d N : Nat) (n0 : Nat) (S : St) (z : (Int32 × St)) (h : fX5_lostKinds N n0 S = some z) : am_C (d + 1) 69 [.ref (TA n0)] (am_T0 S) (some (.int z.1), am_T0 z.2) := by
  unfold fX5_lostKinds at h
  show am_Rn (am_C (d + 0)) (am_ct 69) (am_rk 69) (some (.int z.1), am_T0 z.2) (0, [some (.ref (TA n0))], [], am_T0 S)
  refine am_Rn.op _ (1, [some (.ref (TA n0))], [.ref (TA n0)], am_T0 S) rfl rfl ?_
  refine am_Rn.getf rfl (l2_isO n0 S) rfl ?_
  show am_Rn _ _ _ _ (4, [some (.ref (TA n0))], [.int (S.1 (TA n0) 12)], am_T0 S)
  cases h
  exact am_Rn.rt _ rfl rfl
-- X5_clearTraces
def fX5_clearTraces (N : Nat) (n0 : Nat) (S : St) : Option St := (fJ7_fill_53178 N (TA n0 + 7) 0 S).bind (fun q1 => some (st_i q1 (TA n0) 12 0))
set_option maxRecDepth 20000 in
theorem rfX5_clearTraces (d N : Nat) (n0 : Nat) (S : St) (z : St) (h : fX5_clearTraces N n0 S = some z) : am_C (d + 2) 70 [.ref (TA n0)] (am_T0 S) (none, am_T0 z) := by
  unfold fX5_clearTraces at h
  show am_Rn (am_C (d + 1)) (am_ct 70) (am_rk 70) (none, am_T0 z) (0, [some (.ref (TA n0))], [], am_T0 S)
  refine am_Rn.op _ (1, [some (.ref (TA n0))], [.ref (TA n0)], am_T0 S) rfl rfl ?_
  refine am_Rn.getf rfl (l2_isO n0 S) (l2_ref n0 7 S (by decide) rfl) ?_
  show am_Rn _ _ _ _ (4, [some (.ref (TA n0))], [.ref (TA n0 + 7)], am_T0 S)
  refine am_Rn.op _ (5, [some (.ref (TA n0))], [.int 0, .ref (TA n0 + 7)], am_T0 S) rfl rfl ?_
  obtain ⟨q1, hq1, h⟩ := l2_b h
  refine am_Rn.cl _ none (am_T0 q1) rfl rfl (rfJ7_fill_53178 (d + 0) N (TA n0 + 7) 0 (l2_iaT n0 7 (by decide) (by decide) rfl) S q1 hq1) ?_
  show am_Rn _ _ _ _ (8, [some (.ref (TA n0))], [], am_T0 q1)
  refine am_Rn.op _ (9, [some (.ref (TA n0))], [.ref (TA n0)], am_T0 q1) rfl rfl ?_
  refine am_Rn.op _ (10, [some (.ref (TA n0))], [.int 0, .ref (TA n0)], am_T0 q1) rfl rfl ?_
  refine am_Rn.putf rfl (l2_isO n0 q1) rfl ?_
  show am_Rn _ _ _ _ (13, [some (.ref (TA n0))], [], am_T0 (st_i q1 (TA n0) 12 0))
  cases h
  exact am_Rn.rt _ rfl rfl
-- X5_addTaken
def fX5_addTaken (N : Nat) (n0 : Nat) (l1 : Int32) (l2 : Int32) (S : St) : Option St := (fX5_isBlock N n0 l1 S).bind (fun q1 => (if q1.1 = 0 then some q1.2 else (fX7_isKind N l2 q1.2).bind (fun q2 => (if q2.1 = 0 then some q2.2 else (if l1 < 0 ∨ 31 ≤ Int32.toNatClampNeg l1 then none else (if l1 < 0 ∨ 31 ≤ Int32.toNatClampNeg l1 then none else some (st_i q2.2 (TA n0 + 7) (Int32.toNatClampNeg l1) ((q2.2.1 (TA n0 + 7) (Int32.toNatClampNeg l1)) ||| (1 <<< (l2 &&& 31))))))))))
set_option maxRecDepth 20000 in
theorem rfX5_addTaken (d N : Nat) (n0 : Nat) (l1 : Int32) (l2 : Int32) (S : St) (z : St) (h : fX5_addTaken N n0 l1 l2 S = some z) : am_C (d + 2) 71 [.ref (TA n0), .int l1, .int l2] (am_T0 S) (none, am_T0 z) := by
  unfold fX5_addTaken at h
  show am_Rn (am_C (d + 1)) (am_ct 71) (am_rk 71) (none, am_T0 z) (0, [some (.ref (TA n0)), some (.int l1), some (.int l2)], [], am_T0 S)
  refine am_Rn.op _ (1, [some (.ref (TA n0)), some (.int l1), some (.int l2)], [.ref (TA n0)], am_T0 S) rfl rfl ?_
  refine am_Rn.op _ (2, [some (.ref (TA n0)), some (.int l1), some (.int l2)], [.int l1, .ref (TA n0)], am_T0 S) rfl rfl ?_
  obtain ⟨q1, hq1, h⟩ := l2_b h
  refine am_Rn.cl _ (some (.int q1.1)) (am_T0 q1.2) rfl (o_clv rfl rfl rfl (l2_isO n0 S)) (rfX5_isBlock (d + 0) N n0 l1 S q1 hq1) ?_
  show am_Rn _ _ _ _ (5, [some (.ref (TA n0)), some (.int l1), some (.int l2)], [.int q1.1], am_T0 q1.2)
  refine am_Rn.op _ (if q1.1 = 0 then 27 else 8, [some (.ref (TA n0)), some (.int l1), some (.int l2)], [], am_T0 q1.2) rfl rfl ?_
  rcases l2_i h with ⟨hc, h⟩ | ⟨hc, h⟩
  · refine am_Rn.ifT hc ?_
    cases h
    exact am_Rn.rt _ rfl rfl
  · refine am_Rn.ifF hc ?_
    refine am_Rn.op _ (9, [some (.ref (TA n0)), some (.int l1), some (.int l2)], [.int l2], am_T0 q1.2) rfl rfl ?_
    obtain ⟨q2, hq2, h⟩ := l2_b h
    refine am_Rn.cl _ (some (.int q2.1)) (am_T0 q2.2) rfl rfl (rfX7_isKind (d + 0) N l2 q1.2 q2 hq2) ?_
    show am_Rn _ _ _ _ (12, [some (.ref (TA n0)), some (.int l1), some (.int l2)], [.int q2.1], am_T0 q2.2)
    refine am_Rn.op _ (if q2.1 = 0 then 27 else 15, [some (.ref (TA n0)), some (.int l1), some (.int l2)], [], am_T0 q2.2) rfl rfl ?_
    rcases l2_i h with ⟨hc, h⟩ | ⟨hc, h⟩
    · refine am_Rn.ifT hc ?_
      cases h
      exact am_Rn.rt _ rfl rfl
    · refine am_Rn.ifF hc ?_
      refine am_Rn.op _ (16, [some (.ref (TA n0)), some (.int l1), some (.int l2)], [.ref (TA n0)], am_T0 q2.2) rfl rfl ?_
      refine am_Rn.getf rfl (l2_isO n0 q2.2) (l2_ref n0 7 q2.2 (by decide) rfl) ?_
      show am_Rn _ _ _ _ (19, [some (.ref (TA n0)), some (.int l1), some (.int l2)], [.ref (TA n0 + 7)], am_T0 q2.2)
      refine am_Rn.op _ (20, [some (.ref (TA n0)), some (.int l1), some (.int l2)], [.int l1, .ref (TA n0 + 7)], am_T0 q2.2) rfl rfl ?_
      refine am_Rn.op _ (21, [some (.ref (TA n0)), some (.int l1), some (.int l2)], [.int l1, .ref (TA n0 + 7), .int l1, .ref (TA n0 + 7)], am_T0 q2.2) rfl rfl ?_
      obtain ⟨hb3, h⟩ := l2_n h
      refine am_Rn.iald (n := 31) rfl (l2_len n0 7 q2.2 (by decide) (by decide)) hb3 ?_
      show am_Rn _ _ _ _ (22, [some (.ref (TA n0)), some (.int l1), some (.int l2)], [.int (q2.2.1 (TA n0 + 7) (Int32.toNatClampNeg l1)), .int l1, .ref (TA n0 + 7)], am_T0 q2.2)
      refine am_Rn.op _ (23, [some (.ref (TA n0)), some (.int l1), some (.int l2)], [.int 1, .int (q2.2.1 (TA n0 + 7) (Int32.toNatClampNeg l1)), .int l1, .ref (TA n0 + 7)], am_T0 q2.2) rfl rfl ?_
      refine am_Rn.op _ (24, [some (.ref (TA n0)), some (.int l1), some (.int l2)], [.int l2, .int 1, .int (q2.2.1 (TA n0 + 7) (Int32.toNatClampNeg l1)), .int l1, .ref (TA n0 + 7)], am_T0 q2.2) rfl rfl ?_
      refine am_Rn.op _ (25, [some (.ref (TA n0)), some (.int l1), some (.int l2)], [.int (1 <<< (l2 &&& 31)), .int (q2.2.1 (TA n0 + 7) (Int32.toNatClampNeg l1)), .int l1, .ref (TA n0 + 7)], am_T0 q2.2) rfl rfl ?_
      refine am_Rn.op _ (26, [some (.ref (TA n0)), some (.int l1), some (.int l2)], [.int ((q2.2.1 (TA n0 + 7) (Int32.toNatClampNeg l1)) ||| (1 <<< (l2 &&& 31))), .int l1, .ref (TA n0 + 7)], am_T0 q2.2) rfl rfl ?_
      obtain ⟨hb4, h⟩ := l2_n h
      refine am_Rn.iast (n := 31) rfl (l2_len n0 7 q2.2 (by decide) (by decide)) hb4 ?_
      show am_Rn _ _ _ _ (27, [some (.ref (TA n0)), some (.int l1), some (.int l2)], [], am_T0 (st_i q2.2 (TA n0 + 7) (Int32.toNatClampNeg l1) ((q2.2.1 (TA n0 + 7) (Int32.toNatClampNeg l1)) ||| (1 <<< (l2 &&& 31)))))
      cases h
      exact am_Rn.rt _ rfl rfl
-- X5_addLost
def fX5_addLost (N : Nat) (n0 : Nat) (l1 : Int32) (S : St) : Option St := some (st_i S (TA n0) 12 ((S.1 (TA n0) 12) ||| l1))
set_option maxRecDepth 20000 in
theorem rfX5_addLost (d N : Nat) (n0 : Nat) (l1 : Int32) (S : St) (z : St) (h : fX5_addLost N n0 l1 S = some z) : am_C (d + 1) 72 [.ref (TA n0), .int l1] (am_T0 S) (none, am_T0 z) := by
  unfold fX5_addLost at h
  show am_Rn (am_C (d + 0)) (am_ct 72) (am_rk 72) (none, am_T0 z) (0, [some (.ref (TA n0)), some (.int l1)], [], am_T0 S)
  refine am_Rn.op _ (1, [some (.ref (TA n0)), some (.int l1)], [.ref (TA n0)], am_T0 S) rfl rfl ?_
  refine am_Rn.op _ (2, [some (.ref (TA n0)), some (.int l1)], [.ref (TA n0), .ref (TA n0)], am_T0 S) rfl rfl ?_
  refine am_Rn.getf rfl (l2_isO n0 S) rfl ?_
  show am_Rn _ _ _ _ (5, [some (.ref (TA n0)), some (.int l1)], [.int (S.1 (TA n0) 12), .ref (TA n0)], am_T0 S)
  refine am_Rn.op _ (6, [some (.ref (TA n0)), some (.int l1)], [.int l1, .int (S.1 (TA n0) 12), .ref (TA n0)], am_T0 S) rfl rfl ?_
  refine am_Rn.op _ (7, [some (.ref (TA n0)), some (.int l1)], [.int ((S.1 (TA n0) 12) ||| l1), .ref (TA n0)], am_T0 S) rfl rfl ?_
  refine am_Rn.putf rfl (l2_isO n0 S) rfl ?_
  show am_Rn _ _ _ _ (10, [some (.ref (TA n0)), some (.int l1)], [], am_T0 (st_i S (TA n0) 12 ((S.1 (TA n0) 12) ||| l1)))
  cases h
  exact am_Rn.rt _ rfl rfl
-- X6_reach
def fX6_reach_35 (N : Nat) (s1 : Int32) (s2 : Int32) (s3 : Int32) (S : St) : Option St := (if s1 < 0 ∨ 31 ≤ Int32.toNatClampNeg s1 then none else some (st_i S 46 (Int32.toNatClampNeg s1) (s2 ||| s3)))
set_option maxRecDepth 20000 in
theorem rfX6_reach_35 (d N : Nat) (s1 : Int32) (s2 : Int32) (s3 : Int32) (S : St) (z : St) (h : fX6_reach_35 N s1 s2 s3 S = some z) (w0 : Option Value) (w1 : Option Value) (w2 : Option Value) : am_Rn (am_C (d + 1)) (am_ct 77) (am_rk 77) (none, am_T0 z) (35, [w0, w1, w2], [.int s3, .int s2, .int s1, .ref 46], am_T0 S) := by
  unfold fX6_reach_35 at h
  refine am_Rn.op _ (36, [w0, w1, w2], [.int (s2 ||| s3), .int s1, .ref 46], am_T0 S) rfl rfl ?_
  obtain ⟨hb1, h⟩ := l2_n h
  refine am_Rn.iast (n := 31) rfl rfl hb1 ?_
  show am_Rn _ _ _ _ (37, [w0, w1, w2], [], am_T0 (st_i S 46 (Int32.toNatClampNeg s1) (s2 ||| s3)))
  cases h
  exact am_Rn.rt _ rfl rfl
def fX6_reach (N : Nat) (l1 : Int32) (l2 : Int32) (S : St) : Option St := (if l1 < 0 then some S else (if 31 ≤ l1 then some S else (if l1 < 0 ∨ 31 ≤ Int32.toNatClampNeg l1 then none else (fX5_raisesAgain N (S.2 11) l1 S).bind (fun q3 => (if q3.1 = 0 then fX6_reach_35 N l1 (S.1 46 (Int32.toNatClampNeg l1)) 1 q3.2 else fX6_reach_35 N l1 (S.1 46 (Int32.toNatClampNeg l1)) (1 <<< (l2 &&& 31)) q3.2)))))
set_option maxRecDepth 20000 in
theorem rfX6_reach (d N : Nat) (l1 : Int32) (l2 : Int32) (S : St) (z : St) (h : fX6_reach N l1 l2 S = some z) : am_C (d + 2) 77 [.ref 36, .int l1, .int l2] (am_T0 S) (none, am_T0 z) := by
  unfold fX6_reach at h
  show am_Rn (am_C (d + 1)) (am_ct 77) (am_rk 77) (none, am_T0 z) (0, [some (.ref 36), some (.int l1), some (.int l2)], [], am_T0 S)
  refine am_Rn.op _ (1, [some (.ref 36), some (.int l1), some (.int l2)], [.int l1], am_T0 S) rfl rfl ?_
  refine am_Rn.op _ (if l1 < 0 then 37 else 4, [some (.ref 36), some (.int l1), some (.int l2)], [], am_T0 S) rfl rfl ?_
  rcases l2_i h with ⟨hc, h⟩ | ⟨hc, h⟩
  · refine am_Rn.ifT hc ?_
    cases h
    exact am_Rn.rt _ rfl rfl
  · refine am_Rn.ifF hc ?_
    refine am_Rn.op _ (5, [some (.ref 36), some (.int l1), some (.int l2)], [.int l1], am_T0 S) rfl rfl ?_
    refine am_Rn.op _ (7, [some (.ref 36), some (.int l1), some (.int l2)], [.int 31, .int l1], am_T0 S) rfl rfl ?_
    refine am_Rn.op _ (if 31 ≤ l1 then 37 else 10, [some (.ref 36), some (.int l1), some (.int l2)], [], am_T0 S) rfl rfl ?_
    rcases l2_i h with ⟨hc, h⟩ | ⟨hc, h⟩
    · refine am_Rn.ifT hc ?_
      cases h
      exact am_Rn.rt _ rfl rfl
    · refine am_Rn.ifF hc ?_
      refine am_Rn.op _ (11, [some (.ref 36), some (.int l1), some (.int l2)], [.ref 36], am_T0 S) rfl rfl ?_
      refine am_Rn.op _ (14, [some (.ref 36), some (.int l1), some (.int l2)], [.ref 46], am_T0 S) rfl rfl ?_
      refine am_Rn.op _ (15, [some (.ref 36), some (.int l1), some (.int l2)], [.int l1, .ref 46], am_T0 S) rfl rfl ?_
      refine am_Rn.op _ (16, [some (.ref 36), some (.int l1), some (.int l2)], [.int l1, .ref 46, .int l1, .ref 46], am_T0 S) rfl rfl ?_
      obtain ⟨hb2, h⟩ := l2_n h
      refine am_Rn.iald (n := 31) rfl rfl hb2 ?_
      show am_Rn _ _ _ _ (17, [some (.ref 36), some (.int l1), some (.int l2)], [.int (S.1 46 (Int32.toNatClampNeg l1)), .int l1, .ref 46], am_T0 S)
      refine am_Rn.op _ (18, [some (.ref 36), some (.int l1), some (.int l2)], [.ref 36, .int (S.1 46 (Int32.toNatClampNeg l1)), .int l1, .ref 46], am_T0 S) rfl rfl ?_
      refine am_Rn.op _ (21, [some (.ref 36), some (.int l1), some (.int l2)], [.ref (TA (S.2 11)), .int (S.1 46 (Int32.toNatClampNeg l1)), .int l1, .ref 46], am_T0 S) rfl rfl ?_
      refine am_Rn.op _ (22, [some (.ref 36), some (.int l1), some (.int l2)], [.int l1, .ref (TA (S.2 11)), .int (S.1 46 (Int32.toNatClampNeg l1)), .int l1, .ref 46], am_T0 S) rfl rfl ?_
      obtain ⟨q3, hq3, h⟩ := l2_b h
      refine am_Rn.cl _ (some (.int q3.1)) (am_T0 q3.2) rfl (o_clv rfl rfl rfl (l2_isO (S.2 11) S)) (rfX5_raisesAgain (d + 0) N (S.2 11) l1 S q3 hq3) ?_
      show am_Rn _ _ _ _ (25, [some (.ref 36), some (.int l1), some (.int l2)], [.int q3.1, .int (S.1 46 (Int32.toNatClampNeg l1)), .int l1, .ref 46], am_T0 q3.2)
      refine am_Rn.op _ (if q3.1 = 0 then 34 else 28, [some (.ref 36), some (.int l1), some (.int l2)], [.int (S.1 46 (Int32.toNatClampNeg l1)), .int l1, .ref 46], am_T0 q3.2) rfl rfl ?_
      rcases l2_i h with ⟨hc, h⟩ | ⟨hc, h⟩
      · refine am_Rn.ifT hc ?_
        refine am_Rn.op _ (35, [some (.ref 36), some (.int l1), some (.int l2)], [.int 1, .int (S.1 46 (Int32.toNatClampNeg l1)), .int l1, .ref 46], am_T0 q3.2) rfl rfl ?_
        exact rfX6_reach_35 d N l1 (S.1 46 (Int32.toNatClampNeg l1)) 1 q3.2 _ h _ _ _
      · refine am_Rn.ifF hc ?_
        refine am_Rn.op _ (29, [some (.ref 36), some (.int l1), some (.int l2)], [.int 1, .int (S.1 46 (Int32.toNatClampNeg l1)), .int l1, .ref 46], am_T0 q3.2) rfl rfl ?_
        refine am_Rn.op _ (30, [some (.ref 36), some (.int l1), some (.int l2)], [.int l2, .int 1, .int (S.1 46 (Int32.toNatClampNeg l1)), .int l1, .ref 46], am_T0 q3.2) rfl rfl ?_
        refine am_Rn.op _ (31, [some (.ref 36), some (.int l1), some (.int l2)], [.int (1 <<< (l2 &&& 31)), .int (S.1 46 (Int32.toNatClampNeg l1)), .int l1, .ref 46], am_T0 q3.2) rfl rfl ?_
        refine am_Rn.op _ (35, [some (.ref 36), some (.int l1), some (.int l2)], [.int (1 <<< (l2 &&& 31)), .int (S.1 46 (Int32.toNatClampNeg l1)), .int l1, .ref 46], am_T0 q3.2) rfl rfl ?_
        exact rfX6_reach_35 d N l1 (S.1 46 (Int32.toNatClampNeg l1)) (1 <<< (l2 &&& 31)) q3.2 _ h _ _ _
-- X6_traceChoice
def fX6_traceChoice (N : Nat) (l1 : Int32) (l2 : Int32) (S : St) : Option (Int32 × St) := (fX5_blockAt N (S.2 11) l1 S).bind (fun q1 => (fX5_closeOf N (q1.2.2 11) q1.1 q1.2).bind (fun q2 => (fX5_blockAt N (q1.2.2 11) (q2.1 + 1) q2.2).bind (fun q3 => (fX6_reach N q1.1 l2 q3.2).bind (fun q4 => (fX6_reach N q3.1 l2 q4).bind (fun q5 => (fX2_waysOf N q1.1 l2 q5).bind (fun q6 => (fX2_waysOf N q3.1 l2 q6.2).bind (fun q7 => (fX7_has N (q6.1 ||| q7.1) 0 q7.2).bind (fun q8 => (if q8.1 = 0 ∨ q8.1 = 1 then (fX5_closeOf N ((st_i q8.2 36 5 q8.1).2 11) q3.1 (st_i q8.2 36 5 q8.1)).bind (fun q10 => some ((q10.1 + 1), q10.2)) else none)))))))))
set_option maxRecDepth 20000 in
theorem rfX6_traceChoice (d N : Nat) (l1 : Int32) (l2 : Int32) (S : St) (z : (Int32 × St)) (h : fX6_traceChoice N l1 l2 S = some z) : am_C (d + 4) 79 [.ref 36, .int l1, .int l2] (am_T0 S) (some (.int z.1), am_T0 z.2) := by
  unfold fX6_traceChoice at h
  show am_Rn (am_C (d + 3)) (am_ct 79) (am_rk 79) (some (.int z.1), am_T0 z.2) (0, [some (.ref 36), some (.int l1), some (.int l2), none, none], [], am_T0 S)
  refine am_Rn.op _ (1, [some (.ref 36), some (.int l1), some (.int l2), none, none], [.ref 36], am_T0 S) rfl rfl ?_
  refine am_Rn.op _ (4, [some (.ref 36), some (.int l1), some (.int l2), none, none], [.ref (TA (S.2 11))], am_T0 S) rfl rfl ?_
  refine am_Rn.op _ (5, [some (.ref 36), some (.int l1), some (.int l2), none, none], [.int l1, .ref (TA (S.2 11))], am_T0 S) rfl rfl ?_
  obtain ⟨q1, hq1, h⟩ := l2_b h
  refine am_Rn.cl _ (some (.int q1.1)) (am_T0 q1.2) rfl (o_clv rfl rfl rfl (l2_isO (S.2 11) S)) (rfX5_blockAt (d + 1) N (S.2 11) l1 S q1 hq1) ?_
  show am_Rn _ _ _ _ (8, [some (.ref 36), some (.int l1), some (.int l2), none, none], [.int q1.1], am_T0 q1.2)
  refine am_Rn.op _ (9, [some (.ref 36), some (.int l1), some (.int l2), some (.int q1.1), none], [], am_T0 q1.2) rfl rfl ?_
  refine am_Rn.op _ (10, [some (.ref 36), some (.int l1), some (.int l2), some (.int q1.1), none], [.ref 36], am_T0 q1.2) rfl rfl ?_
  refine am_Rn.op _ (13, [some (.ref 36), some (.int l1), some (.int l2), some (.int q1.1), none], [.ref (TA (q1.2.2 11))], am_T0 q1.2) rfl rfl ?_
  refine am_Rn.op _ (14, [some (.ref 36), some (.int l1), some (.int l2), some (.int q1.1), none], [.ref 36, .ref (TA (q1.2.2 11))], am_T0 q1.2) rfl rfl ?_
  refine am_Rn.op _ (17, [some (.ref 36), some (.int l1), some (.int l2), some (.int q1.1), none], [.ref (TA (q1.2.2 11)), .ref (TA (q1.2.2 11))], am_T0 q1.2) rfl rfl ?_
  refine am_Rn.op _ (18, [some (.ref 36), some (.int l1), some (.int l2), some (.int q1.1), none], [.int q1.1, .ref (TA (q1.2.2 11)), .ref (TA (q1.2.2 11))], am_T0 q1.2) rfl rfl ?_
  obtain ⟨q2, hq2, h⟩ := l2_b h
  refine am_Rn.cl _ (some (.int q2.1)) (am_T0 q2.2) rfl (o_clv rfl rfl rfl (l2_isO (q1.2.2 11) q1.2)) (rfX5_closeOf (d + 1) N (q1.2.2 11) q1.1 q1.2 q2 hq2) ?_
  show am_Rn _ _ _ _ (21, [some (.ref 36), some (.int l1), some (.int l2), some (.int q1.1), none], [.int q2.1, .ref (TA (q1.2.2 11))], am_T0 q2.2)
  refine am_Rn.op _ (22, [some (.ref 36), some (.int l1), some (.int l2), some (.int q1.1), none], [.int 1, .int q2.1, .ref (TA (q1.2.2 11))], am_T0 q2.2) rfl rfl ?_
  refine am_Rn.op _ (23, [some (.ref 36), some (.int l1), some (.int l2), some (.int q1.1), none], [.int (q2.1 + 1), .ref (TA (q1.2.2 11))], am_T0 q2.2) rfl rfl ?_
  obtain ⟨q3, hq3, h⟩ := l2_b h
  refine am_Rn.cl _ (some (.int q3.1)) (am_T0 q3.2) rfl (o_clv rfl rfl rfl (l2_isO (q1.2.2 11) q2.2)) (rfX5_blockAt (d + 1) N (q1.2.2 11) (q2.1 + 1) q2.2 q3 hq3) ?_
  show am_Rn _ _ _ _ (26, [some (.ref 36), some (.int l1), some (.int l2), some (.int q1.1), none], [.int q3.1], am_T0 q3.2)
  refine am_Rn.op _ (28, [some (.ref 36), some (.int l1), some (.int l2), some (.int q1.1), some (.int q3.1)], [], am_T0 q3.2) rfl rfl ?_
  refine am_Rn.op _ (29, [some (.ref 36), some (.int l1), some (.int l2), some (.int q1.1), some (.int q3.1)], [.ref 36], am_T0 q3.2) rfl rfl ?_
  refine am_Rn.op _ (30, [some (.ref 36), some (.int l1), some (.int l2), some (.int q1.1), some (.int q3.1)], [.int q1.1, .ref 36], am_T0 q3.2) rfl rfl ?_
  refine am_Rn.op _ (31, [some (.ref 36), some (.int l1), some (.int l2), some (.int q1.1), some (.int q3.1)], [.int l2, .int q1.1, .ref 36], am_T0 q3.2) rfl rfl ?_
  obtain ⟨q4, hq4, h⟩ := l2_b h
  refine am_Rn.cl _ none (am_T0 q4) rfl rfl (rfX6_reach (d + 1) N q1.1 l2 q3.2 q4 hq4) ?_
  show am_Rn _ _ _ _ (34, [some (.ref 36), some (.int l1), some (.int l2), some (.int q1.1), some (.int q3.1)], [], am_T0 q4)
  refine am_Rn.op _ (35, [some (.ref 36), some (.int l1), some (.int l2), some (.int q1.1), some (.int q3.1)], [.ref 36], am_T0 q4) rfl rfl ?_
  refine am_Rn.op _ (37, [some (.ref 36), some (.int l1), some (.int l2), some (.int q1.1), some (.int q3.1)], [.int q3.1, .ref 36], am_T0 q4) rfl rfl ?_
  refine am_Rn.op _ (38, [some (.ref 36), some (.int l1), some (.int l2), some (.int q1.1), some (.int q3.1)], [.int l2, .int q3.1, .ref 36], am_T0 q4) rfl rfl ?_
  obtain ⟨q5, hq5, h⟩ := l2_b h
  refine am_Rn.cl _ none (am_T0 q5) rfl rfl (rfX6_reach (d + 1) N q3.1 l2 q4 q5 hq5) ?_
  show am_Rn _ _ _ _ (41, [some (.ref 36), some (.int l1), some (.int l2), some (.int q1.1), some (.int q3.1)], [], am_T0 q5)
  refine am_Rn.op _ (42, [some (.ref 36), some (.int l1), some (.int l2), some (.int q1.1), some (.int q3.1)], [.ref 36], am_T0 q5) rfl rfl ?_
  refine am_Rn.op _ (43, [some (.ref 36), some (.int l1), some (.int l2), some (.int q1.1), some (.int q3.1)], [.ref 36, .ref 36], am_T0 q5) rfl rfl ?_
  refine am_Rn.op _ (46, [some (.ref 36), some (.int l1), some (.int l2), some (.int q1.1), some (.int q3.1)], [.ref 20, .ref 36], am_T0 q5) rfl rfl ?_
  refine am_Rn.op _ (47, [some (.ref 36), some (.int l1), some (.int l2), some (.int q1.1), some (.int q3.1)], [.int q1.1, .ref 20, .ref 36], am_T0 q5) rfl rfl ?_
  refine am_Rn.op _ (48, [some (.ref 36), some (.int l1), some (.int l2), some (.int q1.1), some (.int q3.1)], [.int l2, .int q1.1, .ref 20, .ref 36], am_T0 q5) rfl rfl ?_
  obtain ⟨q6, hq6, h⟩ := l2_b h
  refine am_Rn.cl _ (some (.int q6.1)) (am_T0 q6.2) rfl rfl (rfX2_waysOf (d + 0) N q1.1 l2 q5 q6 hq6) ?_
  show am_Rn _ _ _ _ (51, [some (.ref 36), some (.int l1), some (.int l2), some (.int q1.1), some (.int q3.1)], [.int q6.1, .ref 36], am_T0 q6.2)
  refine am_Rn.op _ (52, [some (.ref 36), some (.int l1), some (.int l2), some (.int q1.1), some (.int q3.1)], [.ref 36, .int q6.1, .ref 36], am_T0 q6.2) rfl rfl ?_
  refine am_Rn.op _ (55, [some (.ref 36), some (.int l1), some (.int l2), some (.int q1.1), some (.int q3.1)], [.ref 20, .int q6.1, .ref 36], am_T0 q6.2) rfl rfl ?_
  refine am_Rn.op _ (57, [some (.ref 36), some (.int l1), some (.int l2), some (.int q1.1), some (.int q3.1)], [.int q3.1, .ref 20, .int q6.1, .ref 36], am_T0 q6.2) rfl rfl ?_
  refine am_Rn.op _ (58, [some (.ref 36), some (.int l1), some (.int l2), some (.int q1.1), some (.int q3.1)], [.int l2, .int q3.1, .ref 20, .int q6.1, .ref 36], am_T0 q6.2) rfl rfl ?_
  obtain ⟨q7, hq7, h⟩ := l2_b h
  refine am_Rn.cl _ (some (.int q7.1)) (am_T0 q7.2) rfl rfl (rfX2_waysOf (d + 0) N q3.1 l2 q6.2 q7 hq7) ?_
  show am_Rn _ _ _ _ (61, [some (.ref 36), some (.int l1), some (.int l2), some (.int q1.1), some (.int q3.1)], [.int q7.1, .int q6.1, .ref 36], am_T0 q7.2)
  refine am_Rn.op _ (62, [some (.ref 36), some (.int l1), some (.int l2), some (.int q1.1), some (.int q3.1)], [.int (q6.1 ||| q7.1), .ref 36], am_T0 q7.2) rfl rfl ?_
  refine am_Rn.op _ (63, [some (.ref 36), some (.int l1), some (.int l2), some (.int q1.1), some (.int q3.1)], [.int 0, .int (q6.1 ||| q7.1), .ref 36], am_T0 q7.2) rfl rfl ?_
  obtain ⟨q8, hq8, h⟩ := l2_b h
  refine am_Rn.cl _ (some (.int q8.1)) (am_T0 q8.2) rfl rfl (rfX7_has (d + 2) N (q6.1 ||| q7.1) 0 q7.2 q8 hq8) ?_
  show am_Rn _ _ _ _ (66, [some (.ref 36), some (.int l1), some (.int l2), some (.int q1.1), some (.int q3.1)], [.int q8.1, .ref 36], am_T0 q8.2)
  obtain ⟨hb9, h⟩ := l2_y h
  refine am_Rn.putf rfl rfl (l2_bool hb9) ?_
  show am_Rn _ _ _ _ (69, [some (.ref 36), some (.int l1), some (.int l2), some (.int q1.1), some (.int q3.1)], [], am_T0 (st_i q8.2 36 5 q8.1))
  refine am_Rn.op _ (70, [some (.ref 36), some (.int l1), some (.int l2), some (.int q1.1), some (.int q3.1)], [.ref 36], am_T0 (st_i q8.2 36 5 q8.1)) rfl rfl ?_
  refine am_Rn.op _ (73, [some (.ref 36), some (.int l1), some (.int l2), some (.int q1.1), some (.int q3.1)], [.ref (TA ((st_i q8.2 36 5 q8.1).2 11))], am_T0 (st_i q8.2 36 5 q8.1)) rfl rfl ?_
  refine am_Rn.op _ (75, [some (.ref 36), some (.int l1), some (.int l2), some (.int q1.1), some (.int q3.1)], [.int q3.1, .ref (TA ((st_i q8.2 36 5 q8.1).2 11))], am_T0 (st_i q8.2 36 5 q8.1)) rfl rfl ?_
  obtain ⟨q10, hq10, h⟩ := l2_b h
  refine am_Rn.cl _ (some (.int q10.1)) (am_T0 q10.2) rfl (o_clv rfl rfl rfl (l2_isO ((st_i q8.2 36 5 q8.1).2 11) (st_i q8.2 36 5 q8.1))) (rfX5_closeOf (d + 1) N ((st_i q8.2 36 5 q8.1).2 11) q3.1 (st_i q8.2 36 5 q8.1) q10 hq10) ?_
  show am_Rn _ _ _ _ (78, [some (.ref 36), some (.int l1), some (.int l2), some (.int q1.1), some (.int q3.1)], [.int q10.1], am_T0 q10.2)
  refine am_Rn.op _ (79, [some (.ref 36), some (.int l1), some (.int l2), some (.int q1.1), some (.int q3.1)], [.int 1, .int q10.1], am_T0 q10.2) rfl rfl ?_
  refine am_Rn.op _ (80, [some (.ref 36), some (.int l1), some (.int l2), some (.int q1.1), some (.int q3.1)], [.int (q10.1 + 1)], am_T0 q10.2) rfl rfl ?_
  cases h
  exact am_Rn.rt _ rfl rfl
-- X6_traceEnding
def fX6_traceEnding_38 (N : Nat) (s0 : Int32) (S : St) : Option (Int32 × St) := some (s0, S)
set_option maxRecDepth 20000 in
theorem rfX6_traceEnding_38 (d N : Nat) (s0 : Int32) (S : St) (z : (Int32 × St)) (h : fX6_traceEnding_38 N s0 S = some z) (w0 : Option Value) (w1 : Option Value) (w2 : Option Value) (w3 : Option Value) : am_Rn (am_C (d + 1)) (am_ct 81) (am_rk 81) (some (.int z.1), am_T0 z.2) (38, [w0, w1, w2, w3], [.int s0], am_T0 S) := by
  unfold fX6_traceEnding_38 at h
  cases h
  exact am_Rn.rt _ rfl rfl
def fX6_traceEnding_23 (N : Nat) (l1 : Int32) (l2 : Int32) (l3 : Int32) (S : St) : Option (Int32 × St) := (fX7_has N l1 0 S).bind (fun q1 => (if q1.1 = 0 then fX6_traceEnding_38 N l3 q1.2 else fX6_traceEnding_38 N (l2 ||| l3) q1.2))
set_option maxRecDepth 20000 in
theorem rfX6_traceEnding_23 (d N : Nat) (l1 : Int32) (l2 : Int32) (l3 : Int32) (S : St) (z : (Int32 × St)) (h : fX6_traceEnding_23 N l1 l2 l3 S = some z) (w0 : Option Value) : am_Rn (am_C (d + 1)) (am_ct 81) (am_rk 81) (some (.int z.1), am_T0 z.2) (23, [w0, some (.int l1), some (.int l2), some (.int l3)], [], am_T0 S) := by
  unfold fX6_traceEnding_23 at h
  refine am_Rn.op _ (24, [w0, some (.int l1), some (.int l2), some (.int l3)], [.int l1], am_T0 S) rfl rfl ?_
  refine am_Rn.op _ (25, [w0, some (.int l1), some (.int l2), some (.int l3)], [.int 0, .int l1], am_T0 S) rfl rfl ?_
  obtain ⟨q1, hq1, h⟩ := l2_b h
  refine am_Rn.cl _ (some (.int q1.1)) (am_T0 q1.2) rfl rfl (rfX7_has (d + 0) N l1 0 S q1 hq1) ?_
  show am_Rn _ _ _ _ (28, [w0, some (.int l1), some (.int l2), some (.int l3)], [.int q1.1], am_T0 q1.2)
  refine am_Rn.op _ (if q1.1 = 0 then 37 else 31, [w0, some (.int l1), some (.int l2), some (.int l3)], [], am_T0 q1.2) rfl rfl ?_
  rcases l2_i h with ⟨hc, h⟩ | ⟨hc, h⟩
  · refine am_Rn.ifT hc ?_
    refine am_Rn.op _ (38, [w0, some (.int l1), some (.int l2), some (.int l3)], [.int l3], am_T0 q1.2) rfl rfl ?_
    exact rfX6_traceEnding_38 d N l3 q1.2 _ h _ _ _ _
  · refine am_Rn.ifF hc ?_
    refine am_Rn.op _ (32, [w0, some (.int l1), some (.int l2), some (.int l3)], [.int l2], am_T0 q1.2) rfl rfl ?_
    refine am_Rn.op _ (33, [w0, some (.int l1), some (.int l2), some (.int l3)], [.int l3, .int l2], am_T0 q1.2) rfl rfl ?_
    refine am_Rn.op _ (34, [w0, some (.int l1), some (.int l2), some (.int l3)], [.int (l2 ||| l3)], am_T0 q1.2) rfl rfl ?_
    refine am_Rn.op _ (38, [w0, some (.int l1), some (.int l2), some (.int l3)], [.int (l2 ||| l3)], am_T0 q1.2) rfl rfl ?_
    exact rfX6_traceEnding_38 d N (l2 ||| l3) q1.2 _ h _ _ _ _
def fX6_traceEnding (N : Nat) (l1 : Int32) (l2 : Int32) (S : St) : Option (Int32 × St) := (if (l1 &&& (-2)) = 0 then fX6_traceEnding_23 N l1 l2 (l1 &&& (-2)) S else (fX5_addLost N (S.2 11) ((l2 &&& (-129)) >>> (1 &&& 31)) S).bind (fun q2 => fX6_traceEnding_23 N l1 l2 (l1 &&& (-2)) q2))
set_option maxRecDepth 20000 in
theorem rfX6_traceEnding (d N : Nat) (l1 : Int32) (l2 : Int32) (S : St) (z : (Int32 × St)) (h : fX6_traceEnding N l1 l2 S = some z) : am_C (d + 2) 81 [.ref 36, .int l1, .int l2] (am_T0 S) (some (.int z.1), am_T0 z.2) := by
  unfold fX6_traceEnding at h
  show am_Rn (am_C (d + 1)) (am_ct 81) (am_rk 81) (some (.int z.1), am_T0 z.2) (0, [some (.ref 36), some (.int l1), some (.int l2), none], [], am_T0 S)
  refine am_Rn.op _ (1, [some (.ref 36), some (.int l1), some (.int l2), none], [.int l1], am_T0 S) rfl rfl ?_
  refine am_Rn.op _ (3, [some (.ref 36), some (.int l1), some (.int l2), none], [.int (-2), .int l1], am_T0 S) rfl rfl ?_
  refine am_Rn.op _ (4, [some (.ref 36), some (.int l1), some (.int l2), none], [.int (l1 &&& (-2))], am_T0 S) rfl rfl ?_
  refine am_Rn.op _ (5, [some (.ref 36), some (.int l1), some (.int l2), some (.int (l1 &&& (-2)))], [], am_T0 S) rfl rfl ?_
  refine am_Rn.op _ (6, [some (.ref 36), some (.int l1), some (.int l2), some (.int (l1 &&& (-2)))], [.int (l1 &&& (-2))], am_T0 S) rfl rfl ?_
  refine am_Rn.op _ (if (l1 &&& (-2)) = 0 then 23 else 9, [some (.ref 36), some (.int l1), some (.int l2), some (.int (l1 &&& (-2)))], [], am_T0 S) rfl rfl ?_
  rcases l2_i h with ⟨hc, h⟩ | ⟨hc, h⟩
  · refine am_Rn.ifT hc ?_
    exact rfX6_traceEnding_23 d N l1 l2 (l1 &&& (-2)) S _ h _
  · refine am_Rn.ifF hc ?_
    refine am_Rn.op _ (10, [some (.ref 36), some (.int l1), some (.int l2), some (.int (l1 &&& (-2)))], [.ref 36], am_T0 S) rfl rfl ?_
    refine am_Rn.op _ (13, [some (.ref 36), some (.int l1), some (.int l2), some (.int (l1 &&& (-2)))], [.ref (TA (S.2 11))], am_T0 S) rfl rfl ?_
    refine am_Rn.op _ (14, [some (.ref 36), some (.int l1), some (.int l2), some (.int (l1 &&& (-2)))], [.int l2, .ref (TA (S.2 11))], am_T0 S) rfl rfl ?_
    refine am_Rn.op _ (17, [some (.ref 36), some (.int l1), some (.int l2), some (.int (l1 &&& (-2)))], [.int (-129), .int l2, .ref (TA (S.2 11))], am_T0 S) rfl rfl ?_
    refine am_Rn.op _ (18, [some (.ref 36), some (.int l1), some (.int l2), some (.int (l1 &&& (-2)))], [.int (l2 &&& (-129)), .ref (TA (S.2 11))], am_T0 S) rfl rfl ?_
    refine am_Rn.op _ (19, [some (.ref 36), some (.int l1), some (.int l2), some (.int (l1 &&& (-2)))], [.int 1, .int (l2 &&& (-129)), .ref (TA (S.2 11))], am_T0 S) rfl rfl ?_
    refine am_Rn.op _ (20, [some (.ref 36), some (.int l1), some (.int l2), some (.int (l1 &&& (-2)))], [.int ((l2 &&& (-129)) >>> (1 &&& 31)), .ref (TA (S.2 11))], am_T0 S) rfl rfl ?_
    obtain ⟨q2, hq2, h⟩ := l2_b h
    refine am_Rn.cl _ none (am_T0 q2) rfl (o_clv rfl rfl rfl (l2_isO (S.2 11) S)) (rfX5_addLost (d + 0) N (S.2 11) ((l2 &&& (-129)) >>> (1 &&& 31)) S q2 hq2) ?_
    show am_Rn _ _ _ _ (23, [some (.ref 36), some (.int l1), some (.int l2), some (.int (l1 &&& (-2)))], [], am_T0 q2)
    exact rfX6_traceEnding_23 d N l1 l2 (l1 &&& (-2)) q2 _ h _
-- X6_traceTaking
def PfX6_traceTaking_49 (d : Nat) (res : Option Value × am_S) (l2 : Int32) (l4 : Int32) (l5 : Int32) (x : Int32 × Int32 × St) : Prop := ∀ (w1 w3 w8 : Option Value), am_Rn (am_C d) (am_ct 80) (am_rk 80) res (49, [some (.ref 36), w1, some (.int l2), w3, some (.int l4), some (.int l5), some (.int x.1), some (.int x.2.1), w8], [], am_T0 x.2.2)
def QfX6_traceTaking_49 (d : Nat) (res : Option Value × am_S) (l2 : Int32) (l4 : Int32) (l5 : Int32) (y : Int32 × St) : Prop := ∀ (w1 w3 w5 w7 w8 : Option Value), am_Rn (am_C d) (am_ct 80) (am_rk 80) res (149, [some (.ref 36), w1, some (.int l2), w3, some (.int l4), w5, some (.int y.1), w7, w8], [], am_T0 y.2)
def fX6_traceTaking_230 (N : Nat) (l6 : Int32) (l7 : Int32) (S : St) : Option (Int32 × St) := (fX7_has N l6 0 S).bind (fun q1 => (if q1.1 = 0 ∨ q1.1 = 1 then some (l7, (st_i q1.2 36 5 q1.1)) else none))
set_option maxRecDepth 20000 in
theorem rfX6_traceTaking_230 (d N : Nat) (l6 : Int32) (l7 : Int32) (S : St) (z : (Int32 × St)) (h : fX6_traceTaking_230 N l6 l7 S = some z) (w1 : Option Value) (w2 : Option Value) (w3 : Option Value) (w4 : Option Value) (w5 : Option Value) (w8 : Option Value) : am_Rn (am_C (d + 3)) (am_ct 80) (am_rk 80) (some (.int z.1), am_T0 z.2) (230, [some (.ref 36), w1, w2, w3, w4, w5, some (.int l6), some (.int l7), w8], [], am_T0 S) := by
  unfold fX6_traceTaking_230 at h
  refine am_Rn.op _ (231, [some (.ref 36), w1, w2, w3, w4, w5, some (.int l6), some (.int l7), w8], [.ref 36], am_T0 S) rfl rfl ?_
  refine am_Rn.op _ (233, [some (.ref 36), w1, w2, w3, w4, w5, some (.int l6), some (.int l7), w8], [.int l6, .ref 36], am_T0 S) rfl rfl ?_
  refine am_Rn.op _ (234, [some (.ref 36), w1, w2, w3, w4, w5, some (.int l6), some (.int l7), w8], [.int 0, .int l6, .ref 36], am_T0 S) rfl rfl ?_
  obtain ⟨q1, hq1, h⟩ := l2_b h
  refine am_Rn.cl _ (some (.int q1.1)) (am_T0 q1.2) rfl rfl (rfX7_has (d + 2) N l6 0 S q1 hq1) ?_
  show am_Rn _ _ _ _ (237, [some (.ref 36), w1, w2, w3, w4, w5, some (.int l6), some (.int l7), w8], [.int q1.1, .ref 36], am_T0 q1.2)
  obtain ⟨hb2, h⟩ := l2_y h
  refine am_Rn.putf rfl rfl (l2_bool hb2) ?_
  show am_Rn _ _ _ _ (240, [some (.ref 36), w1, w2, w3, w4, w5, some (.int l6), some (.int l7), w8], [], am_T0 (st_i q1.2 36 5 q1.1))
  refine am_Rn.op _ (242, [some (.ref 36), w1, w2, w3, w4, w5, some (.int l6), some (.int l7), w8], [.int l7], am_T0 (st_i q1.2 36 5 q1.1)) rfl rfl ?_
  cases h
  exact am_Rn.rt _ rfl rfl
def fX6_traceTaking_143 (N : Nat) (l2 : Int32) (l4 : Int32) (l5 : Int32) (l6 : Int32) (l7 : Int32) (S : St) : Option ((Int32 × Int32 × St) ⊕ (Int32 × St)) := some (.inl (l6, (l7 + 1), S))
set_option maxRecDepth 20000 in
theorem rfX6_traceTaking_143 (d N : Nat) (res : Option Value × am_S) (l2 : Int32) (l4 : Int32) (l5 : Int32) (l6 : Int32) (l7 : Int32) (S : St) (z : (Int32 × Int32 × St) ⊕ (Int32 × St)) (h : fX6_traceTaking_143 N l2 l4 l5 l6 l7 S = some z) (hz : Sum.elim (PfX6_traceTaking_49 (d + 3) res l2 l4 l5 ) (QfX6_traceTaking_49 (d + 3) res l2 l4 l5 ) z) (w1 : Option Value) (w3 : Option Value) (w8 : Option Value) : am_Rn (am_C (d + 3)) (am_ct 80) (am_rk 80) res (143, [some (.ref 36), w1, some (.int l2), w3, some (.int l4), some (.int l5), some (.int l6), some (.int l7), w8], [], am_T0 S) := by
  unfold fX6_traceTaking_143 at h
  refine am_Rn.op _ (146, [some (.ref 36), w1, some (.int l2), w3, some (.int l4), some (.int l5), some (.int l6), some (.int (l7 + 1)), w8], [], am_T0 S) rfl rfl ?_
  refine am_Rn.op _ (49, [some (.ref 36), w1, some (.int l2), w3, some (.int l4), some (.int l5), some (.int l6), some (.int (l7 + 1)), w8], [], am_T0 S) rfl rfl ?_
  cases h
  exact hz _ _ _
def bfX6_traceTaking_49 (N : Nat) (l2 : Int32) (l4 : Int32) (l5 : Int32) (x : Int32 × Int32 × St) : Option ((Int32 × Int32 × St) ⊕ (Int32 × St)) := (if 6 ≤ x.2.1 then some (.inr (x.1, x.2.2)) else (fX7_has N l5 (1 + x.2.1) x.2.2).bind (fun q3 => (if q3.1 = 0 then fX6_traceTaking_143 N l2 l4 l5 x.1 x.2.1 q3.2 else (fX1_above N x.2.1 q3.2).bind (fun q4 => (fX5_takerOf N (q3.2.2 11) l4 q4.1 q4.2).bind (fun q5 => (if q5.1 = (-1) then fX6_traceTaking_143 N l2 l4 l5 (x.1 ||| (1 <<< ((1 + x.2.1) &&& 31))) x.2.1 q5.2 else (fX5_addTaken N (q5.2.2 11) q5.1 x.2.1 q5.2).bind (fun q6 => (fX6_reach N q5.1 x.2.1 q6).bind (fun q7 => (fX2_waysOf N q5.1 x.2.1 q7).bind (fun q8 => fX6_traceTaking_143 N l2 l4 l5 (x.1 ||| q8.1) x.2.1 q8.2)))))))))
def fX6_traceTaking_49 (N : Nat) (l2 : Int32) (l4 : Int32) (l5 : Int32) (x : Int32 × Int32 × St) : Option (Int32 × St) := whl N (bfX6_traceTaking_49 N l2 l4 l5 ) x
set_option maxRecDepth 20000 in
theorem rbfX6_traceTaking_49 (d N : Nat) (res : Option Value × am_S) (l2 : Int32) (l4 : Int32) (l5 : Int32) (x : Int32 × Int32 × St) (z : (Int32 × Int32 × St) ⊕ (Int32 × St)) (h : bfX6_traceTaking_49 N l2 l4 l5 x = some z) (hz : Sum.elim (PfX6_traceTaking_49 (d + 3) res l2 l4 l5 ) (QfX6_traceTaking_49 (d + 3) res l2 l4 l5 ) z) : PfX6_traceTaking_49 (d + 3) res l2 l4 l5 x := by
  unfold bfX6_traceTaking_49 at h
  show ∀ (w1 w3 w8 : Option Value), am_Rn (am_C (d + 3)) (am_ct 80) (am_rk 80) res (49, [some (.ref 36), w1, some (.int l2), w3, some (.int l4), some (.int l5), some (.int x.1), some (.int x.2.1), w8], [], am_T0 x.2.2)
  intro w1 w3 w8
  refine am_Rn.op _ (51, [some (.ref 36), w1, some (.int l2), w3, some (.int l4), some (.int l5), some (.int x.1), some (.int x.2.1), w8], [.int x.2.1], am_T0 x.2.2) rfl rfl ?_
  refine am_Rn.op _ (53, [some (.ref 36), w1, some (.int l2), w3, some (.int l4), some (.int l5), some (.int x.1), some (.int x.2.1), w8], [.int 6, .int x.2.1], am_T0 x.2.2) rfl rfl ?_
  refine am_Rn.op _ (if 6 ≤ x.2.1 then 149 else 56, [some (.ref 36), w1, some (.int l2), w3, some (.int l4), some (.int l5), some (.int x.1), some (.int x.2.1), w8], [], am_T0 x.2.2) rfl rfl ?_
  rcases l2_i h with ⟨hc, h⟩ | ⟨hc, h⟩
  · refine am_Rn.ifT hc ?_
    cases h
    exact hz _ _ _ _ _
  · refine am_Rn.ifF hc ?_
    refine am_Rn.op _ (58, [some (.ref 36), w1, some (.int l2), w3, some (.int l4), some (.int l5), some (.int x.1), some (.int x.2.1), w8], [.int l5], am_T0 x.2.2) rfl rfl ?_
    refine am_Rn.op _ (59, [some (.ref 36), w1, some (.int l2), w3, some (.int l4), some (.int l5), some (.int x.1), some (.int x.2.1), w8], [.int 1, .int l5], am_T0 x.2.2) rfl rfl ?_
    refine am_Rn.op _ (61, [some (.ref 36), w1, some (.int l2), w3, some (.int l4), some (.int l5), some (.int x.1), some (.int x.2.1), w8], [.int x.2.1, .int 1, .int l5], am_T0 x.2.2) rfl rfl ?_
    refine am_Rn.op _ (62, [some (.ref 36), w1, some (.int l2), w3, some (.int l4), some (.int l5), some (.int x.1), some (.int x.2.1), w8], [.int (1 + x.2.1), .int l5], am_T0 x.2.2) rfl rfl ?_
    obtain ⟨q3, hq3, h⟩ := l2_b h
    refine am_Rn.cl _ (some (.int q3.1)) (am_T0 q3.2) rfl rfl (rfX7_has (d + 2) N l5 (1 + x.2.1) x.2.2 q3 hq3) ?_
    show am_Rn _ _ _ _ (65, [some (.ref 36), w1, some (.int l2), w3, some (.int l4), some (.int l5), some (.int x.1), some (.int x.2.1), w8], [.int q3.1], am_T0 q3.2)
    refine am_Rn.op _ (if q3.1 = 0 then 143 else 68, [some (.ref 36), w1, some (.int l2), w3, some (.int l4), some (.int l5), some (.int x.1), some (.int x.2.1), w8], [], am_T0 q3.2) rfl rfl ?_
    rcases l2_i h with ⟨hc, h⟩ | ⟨hc, h⟩
    · refine am_Rn.ifT hc ?_
      exact rfX6_traceTaking_143 d N _ l2 l4 l5 x.1 x.2.1 q3.2 _ h hz _ _ _
    · refine am_Rn.ifF hc ?_
      refine am_Rn.op _ (69, [some (.ref 36), w1, some (.int l2), w3, some (.int l4), some (.int l5), some (.int x.1), some (.int x.2.1), w8], [.ref 36], am_T0 q3.2) rfl rfl ?_
      refine am_Rn.op _ (72, [some (.ref 36), w1, some (.int l2), w3, some (.int l4), some (.int l5), some (.int x.1), some (.int x.2.1), w8], [.ref (TA (q3.2.2 11))], am_T0 q3.2) rfl rfl ?_
      refine am_Rn.op _ (74, [some (.ref 36), w1, some (.int l2), w3, some (.int l4), some (.int l5), some (.int x.1), some (.int x.2.1), w8], [.int l4, .ref (TA (q3.2.2 11))], am_T0 q3.2) rfl rfl ?_
      refine am_Rn.op _ (75, [some (.ref 36), w1, some (.int l2), w3, some (.int l4), some (.int l5), some (.int x.1), some (.int x.2.1), w8], [.ref 36, .int l4, .ref (TA (q3.2.2 11))], am_T0 q3.2) rfl rfl ?_
      refine am_Rn.op _ (78, [some (.ref 36), w1, some (.int l2), w3, some (.int l4), some (.int l5), some (.int x.1), some (.int x.2.1), w8], [.ref 13, .int l4, .ref (TA (q3.2.2 11))], am_T0 q3.2) rfl rfl ?_
      refine am_Rn.op _ (80, [some (.ref 36), w1, some (.int l2), w3, some (.int l4), some (.int l5), some (.int x.1), some (.int x.2.1), w8], [.int x.2.1, .ref 13, .int l4, .ref (TA (q3.2.2 11))], am_T0 q3.2) rfl rfl ?_
      obtain ⟨q4, hq4, h⟩ := l2_b h
      refine am_Rn.cl _ (some (.int q4.1)) (am_T0 q4.2) rfl rfl (rfX1_above (d + 1) N x.2.1 q3.2 q4 hq4) ?_
      show am_Rn _ _ _ _ (83, [some (.ref 36), w1, some (.int l2), w3, some (.int l4), some (.int l5), some (.int x.1), some (.int x.2.1), w8], [.int q4.1, .int l4, .ref (TA (q3.2.2 11))], am_T0 q4.2)
      obtain ⟨q5, hq5, h⟩ := l2_b h
      refine am_Rn.cl _ (some (.int q5.1)) (am_T0 q5.2) rfl (o_clv rfl rfl rfl (l2_isO (q3.2.2 11) q4.2)) (rfX5_takerOf (d + 0) N (q3.2.2 11) l4 q4.1 q4.2 q5 hq5) ?_
      show am_Rn _ _ _ _ (86, [some (.ref 36), w1, some (.int l2), w3, some (.int l4), some (.int l5), some (.int x.1), some (.int x.2.1), w8], [.int q5.1], am_T0 q5.2)
      refine am_Rn.op _ (88, [some (.ref 36), w1, some (.int l2), w3, some (.int l4), some (.int l5), some (.int x.1), some (.int x.2.1), some (.int q5.1)], [], am_T0 q5.2) rfl rfl ?_
      refine am_Rn.op _ (90, [some (.ref 36), w1, some (.int l2), w3, some (.int l4), some (.int l5), some (.int x.1), some (.int x.2.1), some (.int q5.1)], [.int q5.1], am_T0 q5.2) rfl rfl ?_
      refine am_Rn.op _ (91, [some (.ref 36), w1, some (.int l2), w3, some (.int l4), some (.int l5), some (.int x.1), some (.int x.2.1), some (.int q5.1)], [.int (-1), .int q5.1], am_T0 q5.2) rfl rfl ?_
      refine am_Rn.op _ (if q5.1 = (-1) then 94 else 108, [some (.ref 36), w1, some (.int l2), w3, some (.int l4), some (.int l5), some (.int x.1), some (.int x.2.1), some (.int q5.1)], [], am_T0 q5.2) rfl rfl ?_
      rcases l2_i h with ⟨hc, h⟩ | ⟨hc, h⟩
      · refine am_Rn.ifT hc ?_
        refine am_Rn.op _ (96, [some (.ref 36), w1, some (.int l2), w3, some (.int l4), some (.int l5), some (.int x.1), some (.int x.2.1), some (.int q5.1)], [.int x.1], am_T0 q5.2) rfl rfl ?_
        refine am_Rn.op _ (97, [some (.ref 36), w1, some (.int l2), w3, some (.int l4), some (.int l5), some (.int x.1), some (.int x.2.1), some (.int q5.1)], [.int 1, .int x.1], am_T0 q5.2) rfl rfl ?_
        refine am_Rn.op _ (98, [some (.ref 36), w1, some (.int l2), w3, some (.int l4), some (.int l5), some (.int x.1), some (.int x.2.1), some (.int q5.1)], [.int 1, .int 1, .int x.1], am_T0 q5.2) rfl rfl ?_
        refine am_Rn.op _ (100, [some (.ref 36), w1, some (.int l2), w3, some (.int l4), some (.int l5), some (.int x.1), some (.int x.2.1), some (.int q5.1)], [.int x.2.1, .int 1, .int 1, .int x.1], am_T0 q5.2) rfl rfl ?_
        refine am_Rn.op _ (101, [some (.ref 36), w1, some (.int l2), w3, some (.int l4), some (.int l5), some (.int x.1), some (.int x.2.1), some (.int q5.1)], [.int (1 + x.2.1), .int 1, .int x.1], am_T0 q5.2) rfl rfl ?_
        refine am_Rn.op _ (102, [some (.ref 36), w1, some (.int l2), w3, some (.int l4), some (.int l5), some (.int x.1), some (.int x.2.1), some (.int q5.1)], [.int (1 <<< ((1 + x.2.1) &&& 31)), .int x.1], am_T0 q5.2) rfl rfl ?_
        refine am_Rn.op _ (103, [some (.ref 36), w1, some (.int l2), w3, some (.int l4), some (.int l5), some (.int x.1), some (.int x.2.1), some (.int q5.1)], [.int (x.1 ||| (1 <<< ((1 + x.2.1) &&& 31)))], am_T0 q5.2) rfl rfl ?_
        refine am_Rn.op _ (105, [some (.ref 36), w1, some (.int l2), w3, some (.int l4), some (.int l5), some (.int (x.1 ||| (1 <<< ((1 + x.2.1) &&& 31)))), some (.int x.2.1), some (.int q5.1)], [], am_T0 q5.2) rfl rfl ?_
        refine am_Rn.op _ (143, [some (.ref 36), w1, some (.int l2), w3, some (.int l4), some (.int l5), some (.int (x.1 ||| (1 <<< ((1 + x.2.1) &&& 31)))), some (.int x.2.1), some (.int q5.1)], [], am_T0 q5.2) rfl rfl ?_
        exact rfX6_traceTaking_143 d N _ l2 l4 l5 (x.1 ||| (1 <<< ((1 + x.2.1) &&& 31))) x.2.1 q5.2 _ h hz _ _ _
      · refine am_Rn.ifF hc ?_
        refine am_Rn.op _ (109, [some (.ref 36), w1, some (.int l2), w3, some (.int l4), some (.int l5), some (.int x.1), some (.int x.2.1), some (.int q5.1)], [.ref 36], am_T0 q5.2) rfl rfl ?_
        refine am_Rn.op _ (112, [some (.ref 36), w1, some (.int l2), w3, some (.int l4), some (.int l5), some (.int x.1), some (.int x.2.1), some (.int q5.1)], [.ref (TA (q5.2.2 11))], am_T0 q5.2) rfl rfl ?_
        refine am_Rn.op _ (114, [some (.ref 36), w1, some (.int l2), w3, some (.int l4), some (.int l5), some (.int x.1), some (.int x.2.1), some (.int q5.1)], [.int q5.1, .ref (TA (q5.2.2 11))], am_T0 q5.2) rfl rfl ?_
        refine am_Rn.op _ (116, [some (.ref 36), w1, some (.int l2), w3, some (.int l4), some (.int l5), some (.int x.1), some (.int x.2.1), some (.int q5.1)], [.int x.2.1, .int q5.1, .ref (TA (q5.2.2 11))], am_T0 q5.2) rfl rfl ?_
        obtain ⟨q6, hq6, h⟩ := l2_b h
        refine am_Rn.cl _ none (am_T0 q6) rfl (o_clv rfl rfl rfl (l2_isO (q5.2.2 11) q5.2)) (rfX5_addTaken (d + 1) N (q5.2.2 11) q5.1 x.2.1 q5.2 q6 hq6) ?_
        show am_Rn _ _ _ _ (119, [some (.ref 36), w1, some (.int l2), w3, some (.int l4), some (.int l5), some (.int x.1), some (.int x.2.1), some (.int q5.1)], [], am_T0 q6)
        refine am_Rn.op _ (120, [some (.ref 36), w1, some (.int l2), w3, some (.int l4), some (.int l5), some (.int x.1), some (.int x.2.1), some (.int q5.1)], [.ref 36], am_T0 q6) rfl rfl ?_
        refine am_Rn.op _ (122, [some (.ref 36), w1, some (.int l2), w3, some (.int l4), some (.int l5), some (.int x.1), some (.int x.2.1), some (.int q5.1)], [.int q5.1, .ref 36], am_T0 q6) rfl rfl ?_
        refine am_Rn.op _ (124, [some (.ref 36), w1, some (.int l2), w3, some (.int l4), some (.int l5), some (.int x.1), some (.int x.2.1), some (.int q5.1)], [.int x.2.1, .int q5.1, .ref 36], am_T0 q6) rfl rfl ?_
        obtain ⟨q7, hq7, h⟩ := l2_b h
        refine am_Rn.cl _ none (am_T0 q7) rfl rfl (rfX6_reach (d + 1) N q5.1 x.2.1 q6 q7 hq7) ?_
        show am_Rn _ _ _ _ (127, [some (.ref 36), w1, some (.int l2), w3, some (.int l4), some (.int l5), some (.int x.1), some (.int x.2.1), some (.int q5.1)], [], am_T0 q7)
        refine am_Rn.op _ (129, [some (.ref 36), w1, some (.int l2), w3, some (.int l4), some (.int l5), some (.int x.1), some (.int x.2.1), some (.int q5.1)], [.int x.1], am_T0 q7) rfl rfl ?_
        refine am_Rn.op _ (130, [some (.ref 36), w1, some (.int l2), w3, some (.int l4), some (.int l5), some (.int x.1), some (.int x.2.1), some (.int q5.1)], [.ref 36, .int x.1], am_T0 q7) rfl rfl ?_
        refine am_Rn.op _ (133, [some (.ref 36), w1, some (.int l2), w3, some (.int l4), some (.int l5), some (.int x.1), some (.int x.2.1), some (.int q5.1)], [.ref 20, .int x.1], am_T0 q7) rfl rfl ?_
        refine am_Rn.op _ (135, [some (.ref 36), w1, some (.int l2), w3, some (.int l4), some (.int l5), some (.int x.1), some (.int x.2.1), some (.int q5.1)], [.int q5.1, .ref 20, .int x.1], am_T0 q7) rfl rfl ?_
        refine am_Rn.op _ (137, [some (.ref 36), w1, some (.int l2), w3, some (.int l4), some (.int l5), some (.int x.1), some (.int x.2.1), some (.int q5.1)], [.int x.2.1, .int q5.1, .ref 20, .int x.1], am_T0 q7) rfl rfl ?_
        obtain ⟨q8, hq8, h⟩ := l2_b h
        refine am_Rn.cl _ (some (.int q8.1)) (am_T0 q8.2) rfl rfl (rfX2_waysOf (d + 0) N q5.1 x.2.1 q7 q8 hq8) ?_
        show am_Rn _ _ _ _ (140, [some (.ref 36), w1, some (.int l2), w3, some (.int l4), some (.int l5), some (.int x.1), some (.int x.2.1), some (.int q5.1)], [.int q8.1, .int x.1], am_T0 q8.2)
        refine am_Rn.op _ (141, [some (.ref 36), w1, some (.int l2), w3, some (.int l4), some (.int l5), some (.int x.1), some (.int x.2.1), some (.int q5.1)], [.int (x.1 ||| q8.1)], am_T0 q8.2) rfl rfl ?_
        refine am_Rn.op _ (143, [some (.ref 36), w1, some (.int l2), w3, some (.int l4), some (.int l5), some (.int (x.1 ||| q8.1)), some (.int x.2.1), some (.int q5.1)], [], am_T0 q8.2) rfl rfl ?_
        exact rfX6_traceTaking_143 d N _ l2 l4 l5 (x.1 ||| q8.1) x.2.1 q8.2 _ h hz _ _ _
theorem rfX6_traceTaking_49 (d N : Nat) (res : Option Value × am_S) (l2 : Int32) (l4 : Int32) (l5 : Int32) (x : Int32 × Int32 × St) (y : Int32 × St) (h : fX6_traceTaking_49 N l2 l4 l5 x = some y) (hq : QfX6_traceTaking_49 (d + 3) res l2 l4 l5 y) : PfX6_traceTaking_49 (d + 3) res l2 l4 l5 x := whl_ind _ _ (fun x z => rbfX6_traceTaking_49 d N res l2 l4 l5 x z) N x y h hq
def fX6_traceTaking (N : Nat) (l1 : Int32) (l2 : Int32) (S : St) : Option (Int32 × St) := (fX5_blockAt N (S.2 11) l1 S).bind (fun q9 => (fX6_reach N q9.1 l2 q9.2).bind (fun q10 => (fX5_closeOf N (q10.2 11) q9.1 q10).bind (fun q11 => (fX2_waysOf N q9.1 l2 q11.2).bind (fun q12 => (fX6_traceTaking_49 N l2 (q11.1 + 1) q12.1 ((q12.1 &&& 129), 0, q12.2)).bind (fun y13 => (fX5_behindTakers N (y13.2.2 11) (q11.1 + 1) y13.2).bind (fun q19 => (if y13.1 = 0 then fX6_traceTaking_230 N y13.1 q19.1 q19.2 else (fX5_at N (q19.2.2 11) q19.1 q19.2).bind (fun q20 => (if q20.1 = 90 then (fX5_blockAt N (q20.2.2 11) (q19.1 + 1) q20.2).bind (fun q21 => (fX6_reach N q21.1 l2 q21.2).bind (fun q22 => (fX2_waysOf N q21.1 l2 q22).bind (fun q23 => (fX6_traceEnding N q23.1 y13.1 q23.2).bind (fun q24 => (fX5_closeOf N (q24.2.2 11) q21.1 q24.2).bind (fun q25 => fX6_traceTaking_230 N q24.1 (q25.1 + 1) q25.2))))) else fX6_traceTaking_230 N y13.1 q19.1 q20.2)))))))))
set_option maxRecDepth 20000 in
theorem rfX6_traceTaking (d N : Nat) (l1 : Int32) (l2 : Int32) (S : St) (z : (Int32 × St)) (h : fX6_traceTaking N l1 l2 S = some z) : am_C (d + 4) 80 [.ref 36, .int l1, .int l2] (am_T0 S) (some (.int z.1), am_T0 z.2) := by
  unfold fX6_traceTaking at h
  show am_Rn (am_C (d + 3)) (am_ct 80) (am_rk 80) (some (.int z.1), am_T0 z.2) (0, [some (.ref 36), some (.int l1), some (.int l2), none, none, none, none, none, none], [], am_T0 S)
  refine am_Rn.op _ (1, [some (.ref 36), some (.int l1), some (.int l2), none, none, none, none, none, none], [.ref 36], am_T0 S) rfl rfl ?_
  refine am_Rn.op _ (4, [some (.ref 36), some (.int l1), some (.int l2), none, none, none, none, none, none], [.ref (TA (S.2 11))], am_T0 S) rfl rfl ?_
  refine am_Rn.op _ (5, [some (.ref 36), some (.int l1), some (.int l2), none, none, none, none, none, none], [.int l1, .ref (TA (S.2 11))], am_T0 S) rfl rfl ?_
  obtain ⟨q9, hq9, h⟩ := l2_b h
  refine am_Rn.cl _ (some (.int q9.1)) (am_T0 q9.2) rfl (o_clv rfl rfl rfl (l2_isO (S.2 11) S)) (rfX5_blockAt (d + 1) N (S.2 11) l1 S q9 hq9) ?_
  show am_Rn _ _ _ _ (8, [some (.ref 36), some (.int l1), some (.int l2), none, none, none, none, none, none], [.int q9.1], am_T0 q9.2)
  refine am_Rn.op _ (9, [some (.ref 36), some (.int l1), some (.int l2), some (.int q9.1), none, none, none, none, none], [], am_T0 q9.2) rfl rfl ?_
  refine am_Rn.op _ (10, [some (.ref 36), some (.int l1), some (.int l2), some (.int q9.1), none, none, none, none, none], [.ref 36], am_T0 q9.2) rfl rfl ?_
  refine am_Rn.op _ (11, [some (.ref 36), some (.int l1), some (.int l2), some (.int q9.1), none, none, none, none, none], [.int q9.1, .ref 36], am_T0 q9.2) rfl rfl ?_
  refine am_Rn.op _ (12, [some (.ref 36), some (.int l1), some (.int l2), some (.int q9.1), none, none, none, none, none], [.int l2, .int q9.1, .ref 36], am_T0 q9.2) rfl rfl ?_
  obtain ⟨q10, hq10, h⟩ := l2_b h
  refine am_Rn.cl _ none (am_T0 q10) rfl rfl (rfX6_reach (d + 1) N q9.1 l2 q9.2 q10 hq10) ?_
  show am_Rn _ _ _ _ (15, [some (.ref 36), some (.int l1), some (.int l2), some (.int q9.1), none, none, none, none, none], [], am_T0 q10)
  refine am_Rn.op _ (16, [some (.ref 36), some (.int l1), some (.int l2), some (.int q9.1), none, none, none, none, none], [.ref 36], am_T0 q10) rfl rfl ?_
  refine am_Rn.op _ (19, [some (.ref 36), some (.int l1), some (.int l2), some (.int q9.1), none, none, none, none, none], [.ref (TA (q10.2 11))], am_T0 q10) rfl rfl ?_
  refine am_Rn.op _ (20, [some (.ref 36), some (.int l1), some (.int l2), some (.int q9.1), none, none, none, none, none], [.int q9.1, .ref (TA (q10.2 11))], am_T0 q10) rfl rfl ?_
  obtain ⟨q11, hq11, h⟩ := l2_b h
  refine am_Rn.cl _ (some (.int q11.1)) (am_T0 q11.2) rfl (o_clv rfl rfl rfl (l2_isO (q10.2 11) q10)) (rfX5_closeOf (d + 1) N (q10.2 11) q9.1 q10 q11 hq11) ?_
  show am_Rn _ _ _ _ (23, [some (.ref 36), some (.int l1), some (.int l2), some (.int q9.1), none, none, none, none, none], [.int q11.1], am_T0 q11.2)
  refine am_Rn.op _ (24, [some (.ref 36), some (.int l1), some (.int l2), some (.int q9.1), none, none, none, none, none], [.int 1, .int q11.1], am_T0 q11.2) rfl rfl ?_
  refine am_Rn.op _ (25, [some (.ref 36), some (.int l1), some (.int l2), some (.int q9.1), none, none, none, none, none], [.int (q11.1 + 1)], am_T0 q11.2) rfl rfl ?_
  refine am_Rn.op _ (27, [some (.ref 36), some (.int l1), some (.int l2), some (.int q9.1), some (.int (q11.1 + 1)), none, none, none, none], [], am_T0 q11.2) rfl rfl ?_
  refine am_Rn.op _ (28, [some (.ref 36), some (.int l1), some (.int l2), some (.int q9.1), some (.int (q11.1 + 1)), none, none, none, none], [.ref 36], am_T0 q11.2) rfl rfl ?_
  refine am_Rn.op _ (31, [some (.ref 36), some (.int l1), some (.int l2), some (.int q9.1), some (.int (q11.1 + 1)), none, none, none, none], [.ref 20], am_T0 q11.2) rfl rfl ?_
  refine am_Rn.op _ (32, [some (.ref 36), some (.int l1), some (.int l2), some (.int q9.1), some (.int (q11.1 + 1)), none, none, none, none], [.int q9.1, .ref 20], am_T0 q11.2) rfl rfl ?_
  refine am_Rn.op _ (33, [some (.ref 36), some (.int l1), some (.int l2), some (.int q9.1), some (.int (q11.1 + 1)), none, none, none, none], [.int l2, .int q9.1, .ref 20], am_T0 q11.2) rfl rfl ?_
  obtain ⟨q12, hq12, h⟩ := l2_b h
  refine am_Rn.cl _ (some (.int q12.1)) (am_T0 q12.2) rfl rfl (rfX2_waysOf (d + 0) N q9.1 l2 q11.2 q12 hq12) ?_
  show am_Rn _ _ _ _ (36, [some (.ref 36), some (.int l1), some (.int l2), some (.int q9.1), some (.int (q11.1 + 1)), none, none, none, none], [.int q12.1], am_T0 q12.2)
  refine am_Rn.op _ (38, [some (.ref 36), some (.int l1), some (.int l2), some (.int q9.1), some (.int (q11.1 + 1)), some (.int q12.1), none, none, none], [], am_T0 q12.2) rfl rfl ?_
  refine am_Rn.op _ (40, [some (.ref 36), some (.int l1), some (.int l2), some (.int q9.1), some (.int (q11.1 + 1)), some (.int q12.1), none, none, none], [.int q12.1], am_T0 q12.2) rfl rfl ?_
  refine am_Rn.op _ (43, [some (.ref 36), some (.int l1), some (.int l2), some (.int q9.1), some (.int (q11.1 + 1)), some (.int q12.1), none, none, none], [.int 129, .int q12.1], am_T0 q12.2) rfl rfl ?_
  refine am_Rn.op _ (44, [some (.ref 36), some (.int l1), some (.int l2), some (.int q9.1), some (.int (q11.1 + 1)), some (.int q12.1), none, none, none], [.int (q12.1 &&& 129)], am_T0 q12.2) rfl rfl ?_
  refine am_Rn.op _ (46, [some (.ref 36), some (.int l1), some (.int l2), some (.int q9.1), some (.int (q11.1 + 1)), some (.int q12.1), some (.int (q12.1 &&& 129)), none, none], [], am_T0 q12.2) rfl rfl ?_
  refine am_Rn.op _ (47, [some (.ref 36), some (.int l1), some (.int l2), some (.int q9.1), some (.int (q11.1 + 1)), some (.int q12.1), some (.int (q12.1 &&& 129)), none, none], [.int 0], am_T0 q12.2) rfl rfl ?_
  refine am_Rn.op _ (49, [some (.ref 36), some (.int l1), some (.int l2), some (.int q9.1), some (.int (q11.1 + 1)), some (.int q12.1), some (.int (q12.1 &&& 129)), some (.int 0), none], [], am_T0 q12.2) rfl rfl ?_
  obtain ⟨y13, hy13, h⟩ := l2_b h
  refine rfX6_traceTaking_49 d N _ l2 (q11.1 + 1) q12.1 ((q12.1 &&& 129), 0, q12.2) y13 hy13 ?_ _ _ _
  intro w14 w15 w16 w17 w18
  show am_Rn _ _ _ _ (149, [some (.ref 36), w14, some (.int l2), w15, some (.int (q11.1 + 1)), w16, some (.int y13.1), w17, w18], [], am_T0 y13.2)
  refine am_Rn.op _ (150, [some (.ref 36), w14, some (.int l2), w15, some (.int (q11.1 + 1)), w16, some (.int y13.1), w17, w18], [.ref 36], am_T0 y13.2) rfl rfl ?_
  refine am_Rn.op _ (153, [some (.ref 36), w14, some (.int l2), w15, some (.int (q11.1 + 1)), w16, some (.int y13.1), w17, w18], [.ref (TA (y13.2.2 11))], am_T0 y13.2) rfl rfl ?_
  refine am_Rn.op _ (155, [some (.ref 36), w14, some (.int l2), w15, some (.int (q11.1 + 1)), w16, some (.int y13.1), w17, w18], [.int (q11.1 + 1), .ref (TA (y13.2.2 11))], am_T0 y13.2) rfl rfl ?_
  obtain ⟨q19, hq19, h⟩ := l2_b h
  refine am_Rn.cl _ (some (.int q19.1)) (am_T0 q19.2) rfl (o_clv rfl rfl rfl (l2_isO (y13.2.2 11) y13.2)) (rfX5_behindTakers (d + 0) N (y13.2.2 11) (q11.1 + 1) y13.2 q19 hq19) ?_
  show am_Rn _ _ _ _ (158, [some (.ref 36), w14, some (.int l2), w15, some (.int (q11.1 + 1)), w16, some (.int y13.1), w17, w18], [.int q19.1], am_T0 q19.2)
  refine am_Rn.op _ (160, [some (.ref 36), w14, some (.int l2), w15, some (.int (q11.1 + 1)), w16, some (.int y13.1), some (.int q19.1), w18], [], am_T0 q19.2) rfl rfl ?_
  refine am_Rn.op _ (162, [some (.ref 36), w14, some (.int l2), w15, some (.int (q11.1 + 1)), w16, some (.int y13.1), some (.int q19.1), w18], [.int y13.1], am_T0 q19.2) rfl rfl ?_
  refine am_Rn.op _ (if y13.1 = 0 then 230 else 165, [some (.ref 36), w14, some (.int l2), w15, some (.int (q11.1 + 1)), w16, some (.int y13.1), some (.int q19.1), w18], [], am_T0 q19.2) rfl rfl ?_
  rcases l2_i h with ⟨hc, h⟩ | ⟨hc, h⟩
  · refine am_Rn.ifT hc ?_
    exact rfX6_traceTaking_230 d N y13.1 q19.1 q19.2 _ h _ _ _ _ _ _
  · refine am_Rn.ifF hc ?_
    refine am_Rn.op _ (166, [some (.ref 36), w14, some (.int l2), w15, some (.int (q11.1 + 1)), w16, some (.int y13.1), some (.int q19.1), w18], [.ref 36], am_T0 q19.2) rfl rfl ?_
    refine am_Rn.op _ (169, [some (.ref 36), w14, some (.int l2), w15, some (.int (q11.1 + 1)), w16, some (.int y13.1), some (.int q19.1), w18], [.ref (TA (q19.2.2 11))], am_T0 q19.2) rfl rfl ?_
    refine am_Rn.op _ (171, [some (.ref 36), w14, some (.int l2), w15, some (.int (q11.1 + 1)), w16, some (.int y13.1), some (.int q19.1), w18], [.int q19.1, .ref (TA (q19.2.2 11))], am_T0 q19.2) rfl rfl ?_
    obtain ⟨q20, hq20, h⟩ := l2_b h
    refine am_Rn.cl _ (some (.int q20.1)) (am_T0 q20.2) rfl (o_clv rfl rfl rfl (l2_isO (q19.2.2 11) q19.2)) (rfX5_at (d + 2) N (q19.2.2 11) q19.1 q19.2 q20 hq20) ?_
    show am_Rn _ _ _ _ (174, [some (.ref 36), w14, some (.int l2), w15, some (.int (q11.1 + 1)), w16, some (.int y13.1), some (.int q19.1), w18], [.int q20.1], am_T0 q20.2)
    refine am_Rn.op _ (176, [some (.ref 36), w14, some (.int l2), w15, some (.int (q11.1 + 1)), w16, some (.int y13.1), some (.int q19.1), w18], [.int 90, .int q20.1], am_T0 q20.2) rfl rfl ?_
    refine am_Rn.op _ (if q20.1 = 90 then 179 else 230, [some (.ref 36), w14, some (.int l2), w15, some (.int (q11.1 + 1)), w16, some (.int y13.1), some (.int q19.1), w18], [], am_T0 q20.2) rfl rfl ?_
    rcases l2_i h with ⟨hc, h⟩ | ⟨hc, h⟩
    · refine am_Rn.ifT hc ?_
      refine am_Rn.op _ (180, [some (.ref 36), w14, some (.int l2), w15, some (.int (q11.1 + 1)), w16, some (.int y13.1), some (.int q19.1), w18], [.ref 36], am_T0 q20.2) rfl rfl ?_
      refine am_Rn.op _ (183, [some (.ref 36), w14, some (.int l2), w15, some (.int (q11.1 + 1)), w16, some (.int y13.1), some (.int q19.1), w18], [.ref (TA (q20.2.2 11))], am_T0 q20.2) rfl rfl ?_
      refine am_Rn.op _ (185, [some (.ref 36), w14, some (.int l2), w15, some (.int (q11.1 + 1)), w16, some (.int y13.1), some (.int q19.1), w18], [.int q19.1, .ref (TA (q20.2.2 11))], am_T0 q20.2) rfl rfl ?_
      refine am_Rn.op _ (186, [some (.ref 36), w14, some (.int l2), w15, some (.int (q11.1 + 1)), w16, some (.int y13.1), some (.int q19.1), w18], [.int 1, .int q19.1, .ref (TA (q20.2.2 11))], am_T0 q20.2) rfl rfl ?_
      refine am_Rn.op _ (187, [some (.ref 36), w14, some (.int l2), w15, some (.int (q11.1 + 1)), w16, some (.int y13.1), some (.int q19.1), w18], [.int (q19.1 + 1), .ref (TA (q20.2.2 11))], am_T0 q20.2) rfl rfl ?_
      obtain ⟨q21, hq21, h⟩ := l2_b h
      refine am_Rn.cl _ (some (.int q21.1)) (am_T0 q21.2) rfl (o_clv rfl rfl rfl (l2_isO (q20.2.2 11) q20.2)) (rfX5_blockAt (d + 1) N (q20.2.2 11) (q19.1 + 1) q20.2 q21 hq21) ?_
      show am_Rn _ _ _ _ (190, [some (.ref 36), w14, some (.int l2), w15, some (.int (q11.1 + 1)), w16, some (.int y13.1), some (.int q19.1), w18], [.int q21.1], am_T0 q21.2)
      refine am_Rn.op _ (192, [some (.ref 36), w14, some (.int l2), w15, some (.int (q11.1 + 1)), w16, some (.int y13.1), some (.int q19.1), some (.int q21.1)], [], am_T0 q21.2) rfl rfl ?_
      refine am_Rn.op _ (193, [some (.ref 36), w14, some (.int l2), w15, some (.int (q11.1 + 1)), w16, some (.int y13.1), some (.int q19.1), some (.int q21.1)], [.ref 36], am_T0 q21.2) rfl rfl ?_
      refine am_Rn.op _ (195, [some (.ref 36), w14, some (.int l2), w15, some (.int (q11.1 + 1)), w16, some (.int y13.1), some (.int q19.1), some (.int q21.1)], [.int q21.1, .ref 36], am_T0 q21.2) rfl rfl ?_
      refine am_Rn.op _ (196, [some (.ref 36), w14, some (.int l2), w15, some (.int (q11.1 + 1)), w16, some (.int y13.1), some (.int q19.1), some (.int q21.1)], [.int l2, .int q21.1, .ref 36], am_T0 q21.2) rfl rfl ?_
      obtain ⟨q22, hq22, h⟩ := l2_b h
      refine am_Rn.cl _ none (am_T0 q22) rfl rfl (rfX6_reach (d + 1) N q21.1 l2 q21.2 q22 hq22) ?_
      show am_Rn _ _ _ _ (199, [some (.ref 36), w14, some (.int l2), w15, some (.int (q11.1 + 1)), w16, some (.int y13.1), some (.int q19.1), some (.int q21.1)], [], am_T0 q22)
      refine am_Rn.op _ (200, [some (.ref 36), w14, some (.int l2), w15, some (.int (q11.1 + 1)), w16, some (.int y13.1), some (.int q19.1), some (.int q21.1)], [.ref 36], am_T0 q22) rfl rfl ?_
      refine am_Rn.op _ (201, [some (.ref 36), w14, some (.int l2), w15, some (.int (q11.1 + 1)), w16, some (.int y13.1), some (.int q19.1), some (.int q21.1)], [.ref 36, .ref 36], am_T0 q22) rfl rfl ?_
      refine am_Rn.op _ (204, [some (.ref 36), w14, some (.int l2), w15, some (.int (q11.1 + 1)), w16, some (.int y13.1), some (.int q19.1), some (.int q21.1)], [.ref 20, .ref 36], am_T0 q22) rfl rfl ?_
      refine am_Rn.op _ (206, [some (.ref 36), w14, some (.int l2), w15, some (.int (q11.1 + 1)), w16, some (.int y13.1), some (.int q19.1), some (.int q21.1)], [.int q21.1, .ref 20, .ref 36], am_T0 q22) rfl rfl ?_
      refine am_Rn.op _ (207, [some (.ref 36), w14, some (.int l2), w15, some (.int (q11.1 + 1)), w16, some (.int y13.1), some (.int q19.1), some (.int q21.1)], [.int l2, .int q21.1, .ref 20, .ref 36], am_T0 q22) rfl rfl ?_
      obtain ⟨q23, hq23, h⟩ := l2_b h
      refine am_Rn.cl _ (some (.int q23.1)) (am_T0 q23.2) rfl rfl (rfX2_waysOf (d + 0) N q21.1 l2 q22 q23 hq23) ?_
      show am_Rn _ _ _ _ (210, [some (.ref 36), w14, some (.int l2), w15, some (.int (q11.1 + 1)), w16, some (.int y13.1), some (.int q19.1), some (.int q21.1)], [.int q23.1, .ref 36], am_T0 q23.2)
      refine am_Rn.op _ (212, [some (.ref 36), w14, some (.int l2), w15, some (.int (q11.1 + 1)), w16, some (.int y13.1), some (.int q19.1), some (.int q21.1)], [.int y13.1, .int q23.1, .ref 36], am_T0 q23.2) rfl rfl ?_
      obtain ⟨q24, hq24, h⟩ := l2_b h
      refine am_Rn.cl _ (some (.int q24.1)) (am_T0 q24.2) rfl rfl (rfX6_traceEnding (d + 1) N q23.1 y13.1 q23.2 q24 hq24) ?_
      show am_Rn _ _ _ _ (215, [some (.ref 36), w14, some (.int l2), w15, some (.int (q11.1 + 1)), w16, some (.int y13.1), some (.int q19.1), some (.int q21.1)], [.int q24.1], am_T0 q24.2)
      refine am_Rn.op _ (217, [some (.ref 36), w14, some (.int l2), w15, some (.int (q11.1 + 1)), w16, some (.int q24.1), some (.int q19.1), some (.int q21.1)], [], am_T0 q24.2) rfl rfl ?_
      refine am_Rn.op _ (218, [some (.ref 36), w14, some (.int l2), w15, some (.int (q11.1 + 1)), w16, some (.int q24.1), some (.int q19.1), some (.int q21.1)], [.ref 36], am_T0 q24.2) rfl rfl ?_
      refine am_Rn.op _ (221, [some (.ref 36), w14, some (.int l2), w15, some (.int (q11.1 + 1)), w16, some (.int q24.1), some (.int q19.1), some (.int q21.1)], [.ref (TA (q24.2.2 11))], am_T0 q24.2) rfl rfl ?_
      refine am_Rn.op _ (223, [some (.ref 36), w14, some (.int l2), w15, some (.int (q11.1 + 1)), w16, some (.int q24.1), some (.int q19.1), some (.int q21.1)], [.int q21.1, .ref (TA (q24.2.2 11))], am_T0 q24.2) rfl rfl ?_
      obtain ⟨q25, hq25, h⟩ := l2_b h
      refine am_Rn.cl _ (some (.int q25.1)) (am_T0 q25.2) rfl (o_clv rfl rfl rfl (l2_isO (q24.2.2 11) q24.2)) (rfX5_closeOf (d + 1) N (q24.2.2 11) q21.1 q24.2 q25 hq25) ?_
      show am_Rn _ _ _ _ (226, [some (.ref 36), w14, some (.int l2), w15, some (.int (q11.1 + 1)), w16, some (.int q24.1), some (.int q19.1), some (.int q21.1)], [.int q25.1], am_T0 q25.2)
      refine am_Rn.op _ (227, [some (.ref 36), w14, some (.int l2), w15, some (.int (q11.1 + 1)), w16, some (.int q24.1), some (.int q19.1), some (.int q21.1)], [.int 1, .int q25.1], am_T0 q25.2) rfl rfl ?_
      refine am_Rn.op _ (228, [some (.ref 36), w14, some (.int l2), w15, some (.int (q11.1 + 1)), w16, some (.int q24.1), some (.int q19.1), some (.int q21.1)], [.int (q25.1 + 1)], am_T0 q25.2) rfl rfl ?_
      refine am_Rn.op _ (230, [some (.ref 36), w14, some (.int l2), w15, some (.int (q11.1 + 1)), w16, some (.int q24.1), some (.int (q25.1 + 1)), some (.int q21.1)], [], am_T0 q25.2) rfl rfl ?_
      exact rfX6_traceTaking_230 d N q24.1 (q25.1 + 1) q25.2 _ h _ _ _ _ _ _
    · refine am_Rn.ifF hc ?_
      exact rfX6_traceTaking_230 d N y13.1 q19.1 q20.2 _ h _ _ _ _ _ _
