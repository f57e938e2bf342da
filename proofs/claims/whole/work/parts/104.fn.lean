-- X3_behindPair
def fX3_behindPair_18 (N : Nat) (s0 : Int32) (S : St) : Option (Int32 × St) := some (s0, S)
set_option maxRecDepth 20000 in
theorem rfX3_behindPair_18 (d N : Nat) (s0 : Int32) (S : St) (z : (Int32 × St)) (h : fX3_behindPair_18 N s0 S = some z) (w0 : Option Value) (w1 : Option Value) (w2 : Option Value) : am_Rn (am_C (d + 1)) (am_ct 38) (am_rk 38) (some (.int z.1), am_T0 z.2) (18, [w0, w1, w2], [.int s0], am_T0 S) := by
  unfold fX3_behindPair_18 at h
  cases h
  exact am_Rn.rt _ rfl rfl
def fX3_behindPair (N : Nat) (l1 : Int32) (l2 : Int32) (S : St) : Option (Int32 × St) := (if l2 = 0 then (fX3_refuse N 1 (l1 + 1) S).bind (fun q1 => fX3_behindPair_18 N q1.1 q1.2) else fX3_behindPair_18 N (l1 + 2) S)
set_option maxRecDepth 20000 in
theorem rfX3_behindPair (d N : Nat) (l1 : Int32) (l2 : Int32) (S : St) (z : (Int32 × St)) (h : fX3_behindPair N l1 l2 S = some z) : am_C (d + 2) 38 [.ref 3, .int l1, .int l2] (am_T0 S) (some (.int z.1), am_T0 z.2) := by
  unfold fX3_behindPair at h
  show am_Rn (am_C (d + 1)) (am_ct 38) (am_rk 38) (some (.int z.1), am_T0 z.2) (0, [some (.ref 3), some (.int l1), some (.int l2)], [], am_T0 S)
  refine am_Rn.op _ (1, [some (.ref 3), some (.int l1), some (.int l2)], [.int l2], am_T0 S) rfl rfl ?_
  refine am_Rn.op _ (if l2 = 0 then 10 else 4, [some (.ref 3), some (.int l1), some (.int l2)], [], am_T0 S) rfl rfl ?_
  rcases l2_i h with ⟨hc, h⟩ | ⟨hc, h⟩
  · refine am_Rn.ifT hc ?_
    refine am_Rn.op _ (11, [some (.ref 3), some (.int l1), some (.int l2)], [.ref 3], am_T0 S) rfl rfl ?_
    refine am_Rn.op _ (12, [some (.ref 3), some (.int l1), some (.int l2)], [.int 1, .ref 3], am_T0 S) rfl rfl ?_
    refine am_Rn.op _ (13, [some (.ref 3), some (.int l1), some (.int l2)], [.int l1, .int 1, .ref 3], am_T0 S) rfl rfl ?_
    refine am_Rn.op _ (14, [some (.ref 3), some (.int l1), some (.int l2)], [.int 1, .int l1, .int 1, .ref 3], am_T0 S) rfl rfl ?_
    refine am_Rn.op _ (15, [some (.ref 3), some (.int l1), some (.int l2)], [.int (l1 + 1), .int 1, .ref 3], am_T0 S) rfl rfl ?_
    obtain ⟨q1, hq1, h⟩ := l2_b h
    refine am_Rn.cl _ (some (.int q1.1)) (am_T0 q1.2) rfl rfl (rfX3_refuse (d + 0) N 1 (l1 + 1) S q1 hq1) ?_
    show am_Rn _ _ _ _ (18, [some (.ref 3), some (.int l1), some (.int l2)], [.int q1.1], am_T0 q1.2)
    exact rfX3_behindPair_18 d N q1.1 q1.2 _ h _ _ _
  · refine am_Rn.ifF hc ?_
    refine am_Rn.op _ (5, [some (.ref 3), some (.int l1), some (.int l2)], [.int l1], am_T0 S) rfl rfl ?_
    refine am_Rn.op _ (6, [some (.ref 3), some (.int l1), some (.int l2)], [.int 2, .int l1], am_T0 S) rfl rfl ?_
    refine am_Rn.op _ (7, [some (.ref 3), some (.int l1), some (.int l2)], [.int (l1 + 2)], am_T0 S) rfl rfl ?_
    refine am_Rn.op _ (18, [some (.ref 3), some (.int l1), some (.int l2)], [.int (l1 + 2)], am_T0 S) rfl rfl ?_
    exact rfX3_behindPair_18 d N (l1 + 2) S _ h _ _ _
-- X5_addCall
def fX5_addCall_19 (N : Nat) (m0 : Nat) (s1 : Int32) (s2 : Int32) (S : St) : Option St := some (st_i S (TA m0) 11 (s1 ||| s2))
set_option maxRecDepth 20000 in
theorem rfX5_addCall_19 (d N : Nat) (m0 : Nat) (s1 : Int32) (s2 : Int32) (S : St) (z : St) (h : fX5_addCall_19 N m0 s1 s2 S = some z) (w0 : Option Value) (w1 : Option Value) : am_Rn (am_C (d + 1)) (am_ct 62) (am_rk 62) (none, am_T0 z) (19, [w0, w1], [.int s2, .int s1, .ref (TA m0)], am_T0 S) := by
  unfold fX5_addCall_19 at h
  refine am_Rn.op _ (20, [w0, w1], [.int (s1 ||| s2), .ref (TA m0)], am_T0 S) rfl rfl ?_
  refine am_Rn.putf rfl (l2_isO m0 S) rfl ?_
  show am_Rn _ _ _ _ (23, [w0, w1], [], am_T0 (st_i S (TA m0) 11 (s1 ||| s2)))
  cases h
  exact am_Rn.rt _ rfl rfl
def fX5_addCall (N : Nat) (n0 : Nat) (l1 : Int32) (S : St) : Option St := (fX7_isRoutine N l1 S).bind (fun q1 => (if q1.1 = 0 then fX5_addCall_19 N n0 (S.1 (TA n0) 11) 0 q1.2 else fX5_addCall_19 N n0 (S.1 (TA n0) 11) (1 <<< (l1 &&& 31)) q1.2))
set_option maxRecDepth 20000 in
theorem rfX5_addCall (d N : Nat) (n0 : Nat) (l1 : Int32) (S : St) (z : St) (h : fX5_addCall N n0 l1 S = some z) : am_C (d + 2) 62 [.ref (TA n0), .int l1] (am_T0 S) (none, am_T0 z) := by
  unfold fX5_addCall at h
  show am_Rn (am_C (d + 1)) (am_ct 62) (am_rk 62) (none, am_T0 z) (0, [some (.ref (TA n0)), some (.int l1)], [], am_T0 S)
  refine am_Rn.op _ (1, [some (.ref (TA n0)), some (.int l1)], [.ref (TA n0)], am_T0 S) rfl rfl ?_
  refine am_Rn.op _ (2, [some (.ref (TA n0)), some (.int l1)], [.ref (TA n0), .ref (TA n0)], am_T0 S) rfl rfl ?_
  refine am_Rn.getf rfl (l2_isO n0 S) rfl ?_
  show am_Rn _ _ _ _ (5, [some (.ref (TA n0)), some (.int l1)], [.int (S.1 (TA n0) 11), .ref (TA n0)], am_T0 S)
  refine am_Rn.op _ (6, [some (.ref (TA n0)), some (.int l1)], [.int l1, .int (S.1 (TA n0) 11), .ref (TA n0)], am_T0 S) rfl rfl ?_
  obtain ⟨q1, hq1, h⟩ := l2_b h
  refine am_Rn.cl _ (some (.int q1.1)) (am_T0 q1.2) rfl rfl (rfX7_isRoutine (d + 0) N l1 S q1 hq1) ?_
  show am_Rn _ _ _ _ (9, [some (.ref (TA n0)), some (.int l1)], [.int q1.1, .int (S.1 (TA n0) 11), .ref (TA n0)], am_T0 q1.2)
  refine am_Rn.op _ (if q1.1 = 0 then 18 else 12, [some (.ref (TA n0)), some (.int l1)], [.int (S.1 (TA n0) 11), .ref (TA n0)], am_T0 q1.2) rfl rfl ?_
  rcases l2_i h with ⟨hc, h⟩ | ⟨hc, h⟩
  · refine am_Rn.ifT hc ?_
    refine am_Rn.op _ (19, [some (.ref (TA n0)), some (.int l1)], [.int 0, .int (S.1 (TA n0) 11), .ref (TA n0)], am_T0 q1.2) rfl rfl ?_
    exact rfX5_addCall_19 d N n0 (S.1 (TA n0) 11) 0 q1.2 _ h _ _
  · refine am_Rn.ifF hc ?_
    refine am_Rn.op _ (13, [some (.ref (TA n0)), some (.int l1)], [.int 1, .int (S.1 (TA n0) 11), .ref (TA n0)], am_T0 q1.2) rfl rfl ?_
    refine am_Rn.op _ (14, [some (.ref (TA n0)), some (.int l1)], [.int l1, .int 1, .int (S.1 (TA n0) 11), .ref (TA n0)], am_T0 q1.2) rfl rfl ?_
    refine am_Rn.op _ (15, [some (.ref (TA n0)), some (.int l1)], [.int (1 <<< (l1 &&& 31)), .int (S.1 (TA n0) 11), .ref (TA n0)], am_T0 q1.2) rfl rfl ?_
    refine am_Rn.op _ (19, [some (.ref (TA n0)), some (.int l1)], [.int (1 <<< (l1 &&& 31)), .int (S.1 (TA n0) 11), .ref (TA n0)], am_T0 q1.2) rfl rfl ?_
    exact rfX5_addCall_19 d N n0 (S.1 (TA n0) 11) (1 <<< (l1 &&& 31)) q1.2 _ h _ _
-- X5_markAgain
def fX5_markAgain (N : Nat) (n0 : Nat) (l1 : Int32) (S : St) : Option St := (fX5_isBlock N n0 l1 S).bind (fun q1 => (if q1.1 = 0 then some q1.2 else (if l1 < 0 ∨ 31 ≤ Int32.toNatClampNeg l1 then none else some (st_i q1.2 (TA n0 + 6) (Int32.toNatClampNeg l1) (1 &&& 1)))))
set_option maxRecDepth 20000 in
theorem rfX5_markAgain (d N : Nat) (n0 : Nat) (l1 : Int32) (S : St) (z : St) (h : fX5_markAgain N n0 l1 S = some z) : am_C (d + 2) 60 [.ref (TA n0), .int l1] (am_T0 S) (none, am_T0 z) := by
  unfold fX5_markAgain at h
  show am_Rn (am_C (d + 1)) (am_ct 60) (am_rk 60) (none, am_T0 z) (0, [some (.ref (TA n0)), some (.int l1)], [], am_T0 S)
  refine am_Rn.op _ (1, [some (.ref (TA n0)), some (.int l1)], [.ref (TA n0)], am_T0 S) rfl rfl ?_
  refine am_Rn.op _ (2, [some (.ref (TA n0)), some (.int l1)], [.int l1, .ref (TA n0)], am_T0 S) rfl rfl ?_
  obtain ⟨q1, hq1, h⟩ := l2_b h
  refine am_Rn.cl _ (some (.int q1.1)) (am_T0 q1.2) rfl (o_clv rfl rfl rfl (l2_isO n0 S)) (rfX5_isBlock (d + 0) N n0 l1 S q1 hq1) ?_
  show am_Rn _ _ _ _ (5, [some (.ref (TA n0)), some (.int l1)], [.int q1.1], am_T0 q1.2)
  refine am_Rn.op _ (if q1.1 = 0 then 15 else 8, [some (.ref (TA n0)), some (.int l1)], [], am_T0 q1.2) rfl rfl ?_
  rcases l2_i h with ⟨hc, h⟩ | ⟨hc, h⟩
  · refine am_Rn.ifT hc ?_
    cases h
    exact am_Rn.rt _ rfl rfl
  · refine am_Rn.ifF hc ?_
    refine am_Rn.op _ (9, [some (.ref (TA n0)), some (.int l1)], [.ref (TA n0)], am_T0 q1.2) rfl rfl ?_
    refine am_Rn.getf rfl (l2_isO n0 q1.2) (l2_ref n0 6 q1.2 (by decide) rfl) ?_
    show am_Rn _ _ _ _ (12, [some (.ref (TA n0)), some (.int l1)], [.ref (TA n0 + 6)], am_T0 q1.2)
    refine am_Rn.op _ (13, [some (.ref (TA n0)), some (.int l1)], [.int l1, .ref (TA n0 + 6)], am_T0 q1.2) rfl rfl ?_
    refine am_Rn.op _ (14, [some (.ref (TA n0)), some (.int l1)], [.int 1, .int l1, .ref (TA n0 + 6)], am_T0 q1.2) rfl rfl ?_
    obtain ⟨hb2, h⟩ := l2_n h
    refine am_Rn.bast2 (n := 31) rfl (l2_len n0 6 q1.2 (by decide) (by decide)) hb2 ?_
    show am_Rn _ _ _ _ (15, [some (.ref (TA n0)), some (.int l1)], [], am_T0 (st_i q1.2 (TA n0 + 6) (Int32.toNatClampNeg l1) (1 &&& 1)))
    cases h
    exact am_Rn.rt _ rfl rfl
-- X5_closeBlock
def fX5_closeBlock (N : Nat) (n0 : Nat) (l1 : Int32) (l2 : Int32) (S : St) : Option St := (fX5_isBlock N n0 l1 S).bind (fun q1 => (if q1.1 = 0 then some q1.2 else (if l1 < 0 ∨ 31 ≤ Int32.toNatClampNeg l1 then none else some (st_i q1.2 (TA n0 + 4) (Int32.toNatClampNeg l1) l2))))
set_option maxRecDepth 20000 in
theorem rfX5_closeBlock (d N : Nat) (n0 : Nat) (l1 : Int32) (l2 : Int32) (S : St) (z : St) (h : fX5_closeBlock N n0 l1 l2 S = some z) : am_C (d + 2) 52 [.ref (TA n0), .int l1, .int l2] (am_T0 S) (none, am_T0 z) := by
  unfold fX5_closeBlock at h
  show am_Rn (am_C (d + 1)) (am_ct 52) (am_rk 52) (none, am_T0 z) (0, [some (.ref (TA n0)), some (.int l1), some (.int l2)], [], am_T0 S)
  refine am_Rn.op _ (1, [some (.ref (TA n0)), some (.int l1), some (.int l2)], [.ref (TA n0)], am_T0 S) rfl rfl ?_
  refine am_Rn.op _ (2, [some (.ref (TA n0)), some (.int l1), some (.int l2)], [.int l1, .ref (TA n0)], am_T0 S) rfl rfl ?_
  obtain ⟨q1, hq1, h⟩ := l2_b h
  refine am_Rn.cl _ (some (.int q1.1)) (am_T0 q1.2) rfl (o_clv rfl rfl rfl (l2_isO n0 S)) (rfX5_isBlock (d + 0) N n0 l1 S q1 hq1) ?_
  show am_Rn _ _ _ _ (5, [some (.ref (TA n0)), some (.int l1), some (.int l2)], [.int q1.1], am_T0 q1.2)
  refine am_Rn.op _ (if q1.1 = 0 then 15 else 8, [some (.ref (TA n0)), some (.int l1), some (.int l2)], [], am_T0 q1.2) rfl rfl ?_
  rcases l2_i h with ⟨hc, h⟩ | ⟨hc, h⟩
  · refine am_Rn.ifT hc ?_
    cases h
    exact am_Rn.rt _ rfl rfl
  · refine am_Rn.ifF hc ?_
    refine am_Rn.op _ (9, [some (.ref (TA n0)), some (.int l1), some (.int l2)], [.ref (TA n0)], am_T0 q1.2) rfl rfl ?_
    refine am_Rn.getf rfl (l2_isO n0 q1.2) (l2_ref n0 4 q1.2 (by decide) rfl) ?_
    show am_Rn _ _ _ _ (12, [some (.ref (TA n0)), some (.int l1), some (.int l2)], [.ref (TA n0 + 4)], am_T0 q1.2)
    refine am_Rn.op _ (13, [some (.ref (TA n0)), some (.int l1), some (.int l2)], [.int l1, .ref (TA n0 + 4)], am_T0 q1.2) rfl rfl ?_
    refine am_Rn.op _ (14, [some (.ref (TA n0)), some (.int l1), some (.int l2)], [.int l2, .int l1, .ref (TA n0 + 4)], am_T0 q1.2) rfl rfl ?_
    obtain ⟨hb2, h⟩ := l2_n h
    refine am_Rn.iast (n := 31) rfl (l2_len n0 4 q1.2 (by decide) (by decide)) hb2 ?_
    show am_Rn _ _ _ _ (15, [some (.ref (TA n0)), some (.int l1), some (.int l2)], [], am_T0 (st_i q1.2 (TA n0 + 4) (Int32.toNatClampNeg l1) l2))
    cases h
    exact am_Rn.rt _ rfl rfl
-- X5_addTaker
def fX5_addTaker (N : Nat) (n0 : Nat) (l1 : Int32) (S : St) : Option St := (if 20 ≤ (S.1 (TA n0) 10) then some S else (if (S.1 (TA n0) 10) < 0 ∨ 20 ≤ Int32.toNatClampNeg (S.1 (TA n0) 10) then none else some (st_i (st_i S (TA n0 + 8) (Int32.toNatClampNeg (S.1 (TA n0) 10)) l1) (TA n0) 10 (((st_i S (TA n0 + 8) (Int32.toNatClampNeg (S.1 (TA n0) 10)) l1).1 (TA n0) 10) + 1))))
set_option maxRecDepth 20000 in
theorem rfX5_addTaker (d N : Nat) (n0 : Nat) (l1 : Int32) (S : St) (z : St) (h : fX5_addTaker N n0 l1 S = some z) : am_C (d + 1) 63 [.ref (TA n0), .int l1] (am_T0 S) (none, am_T0 z) := by
  unfold fX5_addTaker at h
  show am_Rn (am_C (d + 0)) (am_ct 63) (am_rk 63) (none, am_T0 z) (0, [some (.ref (TA n0)), some (.int l1)], [], am_T0 S)
  refine am_Rn.op _ (1, [some (.ref (TA n0)), some (.int l1)], [.ref (TA n0)], am_T0 S) rfl rfl ?_
  refine am_Rn.getf rfl (l2_isO n0 S) rfl ?_
  show am_Rn _ _ _ _ (4, [some (.ref (TA n0)), some (.int l1)], [.int (S.1 (TA n0) 10)], am_T0 S)
  refine am_Rn.op _ (5, [some (.ref (TA n0)), some (.int l1)], [.ref (TA n0), .int (S.1 (TA n0) 10)], am_T0 S) rfl rfl ?_
  refine am_Rn.getf rfl (l2_isO n0 S) (l2_ref n0 9 S (by decide) rfl) ?_
  show am_Rn _ _ _ _ (8, [some (.ref (TA n0)), some (.int l1)], [.ref (TA n0 + 8), .int (S.1 (TA n0) 10)], am_T0 S)
  refine am_Rn.alen (n := 20) rfl (l2_alen n0 8 S (by decide) (by decide) (by decide)) ?_
  show am_Rn _ _ _ _ (9, [some (.ref (TA n0)), some (.int l1)], [.int 20, .int (S.1 (TA n0) 10)], am_T0 S)
  refine am_Rn.op _ (if 20 ≤ (S.1 (TA n0) 10) then 32 else 12, [some (.ref (TA n0)), some (.int l1)], [], am_T0 S) rfl rfl ?_
  rcases l2_i h with ⟨hc, h⟩ | ⟨hc, h⟩
  · refine am_Rn.ifT hc ?_
    cases h
    exact am_Rn.rt _ rfl rfl
  · refine am_Rn.ifF hc ?_
    refine am_Rn.op _ (13, [some (.ref (TA n0)), some (.int l1)], [.ref (TA n0)], am_T0 S) rfl rfl ?_
    refine am_Rn.getf rfl (l2_isO n0 S) (l2_ref n0 9 S (by decide) rfl) ?_
    show am_Rn _ _ _ _ (16, [some (.ref (TA n0)), some (.int l1)], [.ref (TA n0 + 8)], am_T0 S)
    refine am_Rn.op _ (17, [some (.ref (TA n0)), some (.int l1)], [.ref (TA n0), .ref (TA n0 + 8)], am_T0 S) rfl rfl ?_
    refine am_Rn.getf rfl (l2_isO n0 S) rfl ?_
    show am_Rn _ _ _ _ (20, [some (.ref (TA n0)), some (.int l1)], [.int (S.1 (TA n0) 10), .ref (TA n0 + 8)], am_T0 S)
    refine am_Rn.op _ (21, [some (.ref (TA n0)), some (.int l1)], [.int l1, .int (S.1 (TA n0) 10), .ref (TA n0 + 8)], am_T0 S) rfl rfl ?_
    obtain ⟨hb1, h⟩ := l2_n h
    refine am_Rn.iast (n := 20) rfl (l2_len n0 8 S (by decide) (by decide)) hb1 ?_
    show am_Rn _ _ _ _ (22, [some (.ref (TA n0)), some (.int l1)], [], am_T0 (st_i S (TA n0 + 8) (Int32.toNatClampNeg (S.1 (TA n0) 10)) l1))
    refine am_Rn.op _ (23, [some (.ref (TA n0)), some (.int l1)], [.ref (TA n0)], am_T0 (st_i S (TA n0 + 8) (Int32.toNatClampNeg (S.1 (TA n0) 10)) l1)) rfl rfl ?_
    refine am_Rn.op _ (24, [some (.ref (TA n0)), some (.int l1)], [.ref (TA n0), .ref (TA n0)], am_T0 (st_i S (TA n0 + 8) (Int32.toNatClampNeg (S.1 (TA n0) 10)) l1)) rfl rfl ?_
    refine am_Rn.getf rfl (l2_isO n0 (st_i S (TA n0 + 8) (Int32.toNatClampNeg (S.1 (TA n0) 10)) l1)) rfl ?_
    show am_Rn _ _ _ _ (27, [some (.ref (TA n0)), some (.int l1)], [.int ((st_i S (TA n0 + 8) (Int32.toNatClampNeg (S.1 (TA n0) 10)) l1).1 (TA n0) 10), .ref (TA n0)], am_T0 (st_i S (TA n0 + 8) (Int32.toNatClampNeg (S.1 (TA n0) 10)) l1))
    refine am_Rn.op _ (28, [some (.ref (TA n0)), some (.int l1)], [.int 1, .int ((st_i S (TA n0 + 8) (Int32.toNatClampNeg (S.1 (TA n0) 10)) l1).1 (TA n0) 10), .ref (TA n0)], am_T0 (st_i S (TA n0 + 8) (Int32.toNatClampNeg (S.1 (TA n0) 10)) l1)) rfl rfl ?_
    refine am_Rn.op _ (29, [some (.ref (TA n0)), some (.int l1)], [.int (((st_i S (TA n0 + 8) (Int32.toNatClampNeg (S.1 (TA n0) 10)) l1).1 (TA n0) 10) + 1), .ref (TA n0)], am_T0 (st_i S (TA n0 + 8) (Int32.toNatClampNeg (S.1 (TA n0) 10)) l1)) rfl rfl ?_
    refine am_Rn.putf rfl (l2_isO n0 (st_i S (TA n0 + 8) (Int32.toNatClampNeg (S.1 (TA n0) 10)) l1)) rfl ?_
    show am_Rn _ _ _ _ (32, [some (.ref (TA n0)), some (.int l1)], [], am_T0 (st_i (st_i S (TA n0 + 8) (Int32.toNatClampNeg (S.1 (TA n0) 10)) l1) (TA n0) 10 (((st_i S (TA n0 + 8) (Int32.toNatClampNeg (S.1 (TA n0) 10)) l1).1 (TA n0) 10) + 1)))
    cases h
    exact am_Rn.rt _ rfl rfl
-- rdgroup
def l2_rd (s dd : Nat) (a b c e : Int32) (S : St) (z : Int32 × St) : Prop := match s with
  | 0 => am_C dd 36 [.ref 3, .int a, .int b, .int c] (am_T0 S) (some (.int z.1), am_T0 z.2)
  | 1 => am_C dd 37 [.ref 3, .int a, .int b, .int c] (am_T0 S) (some (.int z.1), am_T0 z.2)
  | 2 => am_C dd 39 [.ref 3, .int a, .int b, .int c, .int e] (am_T0 S) (some (.int z.1), am_T0 z.2)
  | _ => am_C dd 40 [.ref 3, .int a, .int b, .int c] (am_T0 S) (some (.int z.1), am_T0 z.2)
def PfX3_readStatements_6 (d : Nat) (res : Option Value × am_S) (l2 : Int32) (l3 : Int32) (x : Int32 × Int32 × St) : Prop := ∀ (w1 : Option Value), am_Rn (am_C d) (am_ct 36) (am_rk 36) res (6, [some (.ref 3), w1, some (.int l2), some (.int l3), some (.int x.1), some (.int x.2.1)], [], am_T0 x.2.2)
def QfX3_readStatements_6 (d : Nat) (res : Option Value × am_S) (l2 : Int32) (l3 : Int32) (y : (Int32 × St)) : Prop := res = (some (.int y.1), am_T0 y.2)
def bfX3_readStatements_6 (F : Nat → Int32 → Int32 → Int32 → Int32 → St → Option (Int32 × St)) (N : Nat) (l2 : Int32) (l3 : Int32) (x : Int32 × Int32 × St) : Option ((Int32 × Int32 × St) ⊕ ((Int32 × St))) := (if 60 ≤ x.2.1 then some (.inr (x.1, x.2.2)) else (if x.1 = (-1) then some (.inr (x.1, x.2.2)) else (fX5_length N (x.2.2.2 9) x.2.2).bind (fun q1 => (if q1.1 ≤ x.1 then some (.inr (x.1, q1.2)) else (fX5_at N (q1.2.2 9) x.1 q1.2).bind (fun q2 => (if q2.1 = 125 then some (.inr (x.1, q2.2)) else (F 1 x.1 l2 l3 0 q2.2).bind (fun q3 => some (.inl (q3.1, (x.2.1 + 1), q3.2)))))))))
def fX3_readStatements_6 (F : Nat → Int32 → Int32 → Int32 → Int32 → St → Option (Int32 × St)) (N : Nat) (l2 : Int32) (l3 : Int32) (x : Int32 × Int32 × St) : Option ((Int32 × St)) := whl N (bfX3_readStatements_6 F N l2 l3 ) x
set_option maxRecDepth 20000 in
theorem rbfX3_readStatements_6 (F : Nat → Int32 → Int32 → Int32 → Int32 → St → Option (Int32 × St)) (d N : Nat) (hF : ∀ (s : Nat) (a b c e : Int32) (S : St) (z : Int32 × St), F s a b c e S = some z → l2_rd s (d + 3) a b c e S z) (res : Option Value × am_S) (l2 : Int32) (l3 : Int32) (x : Int32 × Int32 × St) (z : (Int32 × Int32 × St) ⊕ ((Int32 × St))) (h : bfX3_readStatements_6 F N l2 l3 x = some z) (hz : Sum.elim (PfX3_readStatements_6 (d + 3) res l2 l3 ) (QfX3_readStatements_6 (d + 3) res l2 l3 ) z) : PfX3_readStatements_6 (d + 3) res l2 l3 x := by
  unfold bfX3_readStatements_6 at h
  show ∀ (w1 : Option Value), am_Rn (am_C (d + 3)) (am_ct 36) (am_rk 36) res (6, [some (.ref 3), w1, some (.int l2), some (.int l3), some (.int x.1), some (.int x.2.1)], [], am_T0 x.2.2)
  intro w1
  refine am_Rn.op _ (8, [some (.ref 3), w1, some (.int l2), some (.int l3), some (.int x.1), some (.int x.2.1)], [.int x.2.1], am_T0 x.2.2) rfl rfl ?_
  refine am_Rn.op _ (10, [some (.ref 3), w1, some (.int l2), some (.int l3), some (.int x.1), some (.int x.2.1)], [.int 60, .int x.2.1], am_T0 x.2.2) rfl rfl ?_
  refine am_Rn.op _ (if 60 ≤ x.2.1 then 61 else 13, [some (.ref 3), w1, some (.int l2), some (.int l3), some (.int x.1), some (.int x.2.1)], [], am_T0 x.2.2) rfl rfl ?_
  rcases l2_i h with ⟨hc, h⟩ | ⟨hc, h⟩
  · refine am_Rn.ifT hc ?_
    refine am_Rn.op _ (63, [some (.ref 3), w1, some (.int l2), some (.int l3), some (.int x.1), some (.int x.2.1)], [.int x.1], am_T0 x.2.2) rfl rfl ?_
    cases h
    exact am_Rn.rt2 _ rfl rfl hz
  · refine am_Rn.ifF hc ?_
    refine am_Rn.op _ (15, [some (.ref 3), w1, some (.int l2), some (.int l3), some (.int x.1), some (.int x.2.1)], [.int x.1], am_T0 x.2.2) rfl rfl ?_
    refine am_Rn.op _ (16, [some (.ref 3), w1, some (.int l2), some (.int l3), some (.int x.1), some (.int x.2.1)], [.int (-1), .int x.1], am_T0 x.2.2) rfl rfl ?_
    refine am_Rn.op _ (if x.1 = (-1) then 61 else 19, [some (.ref 3), w1, some (.int l2), some (.int l3), some (.int x.1), some (.int x.2.1)], [], am_T0 x.2.2) rfl rfl ?_
    rcases l2_i h with ⟨hc, h⟩ | ⟨hc, h⟩
    · refine am_Rn.ifT hc ?_
      refine am_Rn.op _ (63, [some (.ref 3), w1, some (.int l2), some (.int l3), some (.int x.1), some (.int x.2.1)], [.int x.1], am_T0 x.2.2) rfl rfl ?_
      cases h
      exact am_Rn.rt2 _ rfl rfl hz
    · refine am_Rn.ifF hc ?_
      refine am_Rn.op _ (21, [some (.ref 3), w1, some (.int l2), some (.int l3), some (.int x.1), some (.int x.2.1)], [.int x.1], am_T0 x.2.2) rfl rfl ?_
      refine am_Rn.op _ (22, [some (.ref 3), w1, some (.int l2), some (.int l3), some (.int x.1), some (.int x.2.1)], [.ref 3, .int x.1], am_T0 x.2.2) rfl rfl ?_
      refine am_Rn.op _ (25, [some (.ref 3), w1, some (.int l2), some (.int l3), some (.int x.1), some (.int x.2.1)], [.ref (TA (x.2.2.2 9)), .int x.1], am_T0 x.2.2) rfl rfl ?_
      obtain ⟨q1, hq1, h⟩ := l2_b h
      refine am_Rn.cl _ (some (.int q1.1)) (am_T0 q1.2) rfl (o_clv rfl rfl rfl (l2_isO (x.2.2.2 9) x.2.2)) (rfX5_length (d + 2) N (x.2.2.2 9) x.2.2 q1 hq1) ?_
      show am_Rn _ _ _ _ (28, [some (.ref 3), w1, some (.int l2), some (.int l3), some (.int x.1), some (.int x.2.1)], [.int q1.1, .int x.1], am_T0 q1.2)
      refine am_Rn.op _ (if q1.1 ≤ x.1 then 61 else 31, [some (.ref 3), w1, some (.int l2), some (.int l3), some (.int x.1), some (.int x.2.1)], [], am_T0 q1.2) rfl rfl ?_
      rcases l2_i h with ⟨hc, h⟩ | ⟨hc, h⟩
      · refine am_Rn.ifT hc ?_
        refine am_Rn.op _ (63, [some (.ref 3), w1, some (.int l2), some (.int l3), some (.int x.1), some (.int x.2.1)], [.int x.1], am_T0 q1.2) rfl rfl ?_
        cases h
        exact am_Rn.rt2 _ rfl rfl hz
      · refine am_Rn.ifF hc ?_
        refine am_Rn.op _ (32, [some (.ref 3), w1, some (.int l2), some (.int l3), some (.int x.1), some (.int x.2.1)], [.ref 3], am_T0 q1.2) rfl rfl ?_
        refine am_Rn.op _ (35, [some (.ref 3), w1, some (.int l2), some (.int l3), some (.int x.1), some (.int x.2.1)], [.ref (TA (q1.2.2 9))], am_T0 q1.2) rfl rfl ?_
        refine am_Rn.op _ (37, [some (.ref 3), w1, some (.int l2), some (.int l3), some (.int x.1), some (.int x.2.1)], [.int x.1, .ref (TA (q1.2.2 9))], am_T0 q1.2) rfl rfl ?_
        obtain ⟨q2, hq2, h⟩ := l2_b h
        refine am_Rn.cl _ (some (.int q2.1)) (am_T0 q2.2) rfl (o_clv rfl rfl rfl (l2_isO (q1.2.2 9) q1.2)) (rfX5_at (d + 2) N (q1.2.2 9) x.1 q1.2 q2 hq2) ?_
        show am_Rn _ _ _ _ (40, [some (.ref 3), w1, some (.int l2), some (.int l3), some (.int x.1), some (.int x.2.1)], [.int q2.1], am_T0 q2.2)
        refine am_Rn.op _ (42, [some (.ref 3), w1, some (.int l2), some (.int l3), some (.int x.1), some (.int x.2.1)], [.int 125, .int q2.1], am_T0 q2.2) rfl rfl ?_
        refine am_Rn.op _ (if q2.1 = 125 then 61 else 45, [some (.ref 3), w1, some (.int l2), some (.int l3), some (.int x.1), some (.int x.2.1)], [], am_T0 q2.2) rfl rfl ?_
        rcases l2_i h with ⟨hc, h⟩ | ⟨hc, h⟩
        · refine am_Rn.ifT hc ?_
          refine am_Rn.op _ (63, [some (.ref 3), w1, some (.int l2), some (.int l3), some (.int x.1), some (.int x.2.1)], [.int x.1], am_T0 q2.2) rfl rfl ?_
          cases h
          exact am_Rn.rt2 _ rfl rfl hz
        · refine am_Rn.ifF hc ?_
          refine am_Rn.op _ (46, [some (.ref 3), w1, some (.int l2), some (.int l3), some (.int x.1), some (.int x.2.1)], [.ref 3], am_T0 q2.2) rfl rfl ?_
          refine am_Rn.op _ (48, [some (.ref 3), w1, some (.int l2), some (.int l3), some (.int x.1), some (.int x.2.1)], [.int x.1, .ref 3], am_T0 q2.2) rfl rfl ?_
          refine am_Rn.op _ (49, [some (.ref 3), w1, some (.int l2), some (.int l3), some (.int x.1), some (.int x.2.1)], [.int l2, .int x.1, .ref 3], am_T0 q2.2) rfl rfl ?_
          refine am_Rn.op _ (50, [some (.ref 3), w1, some (.int l2), some (.int l3), some (.int x.1), some (.int x.2.1)], [.int l3, .int l2, .int x.1, .ref 3], am_T0 q2.2) rfl rfl ?_
          obtain ⟨q3, hq3, h⟩ := l2_b h
          refine am_Rn.cl _ (some (.int q3.1)) (am_T0 q3.2) rfl rfl (hF 1 x.1 l2 l3 0 q2.2 q3 hq3) ?_
          show am_Rn _ _ _ _ (53, [some (.ref 3), w1, some (.int l2), some (.int l3), some (.int x.1), some (.int x.2.1)], [.int q3.1], am_T0 q3.2)
          refine am_Rn.op _ (55, [some (.ref 3), w1, some (.int l2), some (.int l3), some (.int q3.1), some (.int x.2.1)], [], am_T0 q3.2) rfl rfl ?_
          refine am_Rn.op _ (58, [some (.ref 3), w1, some (.int l2), some (.int l3), some (.int q3.1), some (.int (x.2.1 + 1))], [], am_T0 q3.2) rfl rfl ?_
          refine am_Rn.op _ (6, [some (.ref 3), w1, some (.int l2), some (.int l3), some (.int q3.1), some (.int (x.2.1 + 1))], [], am_T0 q3.2) rfl rfl ?_
          cases h
          exact hz _
theorem rfX3_readStatements_6 (F : Nat → Int32 → Int32 → Int32 → Int32 → St → Option (Int32 × St)) (d N : Nat) (hF : ∀ (s : Nat) (a b c e : Int32) (S : St) (z : Int32 × St), F s a b c e S = some z → l2_rd s (d + 3) a b c e S z) (res : Option Value × am_S) (l2 : Int32) (l3 : Int32) (x : Int32 × Int32 × St) (y : (Int32 × St)) (h : fX3_readStatements_6 F N l2 l3 x = some y) (hq : QfX3_readStatements_6 (d + 3) res l2 l3 y) : PfX3_readStatements_6 (d + 3) res l2 l3 x := whl_ind _ _ (fun x z => rbfX3_readStatements_6 F d N hF res l2 l3 x z) N x y h hq
def fX3_readStatements (F : Nat → Int32 → Int32 → Int32 → Int32 → St → Option (Int32 × St)) (N : Nat) (l1 : Int32) (l2 : Int32) (l3 : Int32) (S : St) : Option (Int32 × St) := (fX3_readStatements_6 F N l2 l3 (l1, 0, S)).bind (fun y4 => some (y4.1, y4.2))
set_option maxRecDepth 20000 in
theorem rfX3_readStatements (F : Nat → Int32 → Int32 → Int32 → Int32 → St → Option (Int32 × St)) (d N : Nat) (hF : ∀ (s : Nat) (a b c e : Int32) (S : St) (z : Int32 × St), F s a b c e S = some z → l2_rd s (d + 3) a b c e S z) (l1 : Int32) (l2 : Int32) (l3 : Int32) (S : St) (z : (Int32 × St)) (h : fX3_readStatements F N l1 l2 l3 S = some z) : am_C (d + 3 + 1) 36 [.ref 3, .int l1, .int l2, .int l3] (am_T0 S) (some (.int z.1), am_T0 z.2) := by
  unfold fX3_readStatements at h
  show am_Rn (am_C (d + 3)) (am_ct 36) (am_rk 36) (some (.int z.1), am_T0 z.2) (0, [some (.ref 3), some (.int l1), some (.int l2), some (.int l3), none, none], [], am_T0 S)
  refine am_Rn.op _ (1, [some (.ref 3), some (.int l1), some (.int l2), some (.int l3), none, none], [.int l1], am_T0 S) rfl rfl ?_
  refine am_Rn.op _ (3, [some (.ref 3), some (.int l1), some (.int l2), some (.int l3), some (.int l1), none], [], am_T0 S) rfl rfl ?_
  refine am_Rn.op _ (4, [some (.ref 3), some (.int l1), some (.int l2), some (.int l3), some (.int l1), none], [.int 0], am_T0 S) rfl rfl ?_
  refine am_Rn.op _ (6, [some (.ref 3), some (.int l1), some (.int l2), some (.int l3), some (.int l1), some (.int 0)], [], am_T0 S) rfl rfl ?_
  obtain ⟨y4, hy4, h⟩ := l2_b h
  refine rfX3_readStatements_6 F d N hF _ l2 l3 (l1, 0, S) y4 hy4 ?_ _
  cases h
  exact rfl
def fX3_readStatement_248 (F : Nat → Int32 → Int32 → Int32 → Int32 → St → Option (Int32 × St)) (N : Nat) (s0 : Int32) (S : St) : Option (Int32 × St) := some (s0, S)
set_option maxRecDepth 20000 in
theorem rfX3_readStatement_248 (F : Nat → Int32 → Int32 → Int32 → Int32 → St → Option (Int32 × St)) (d N : Nat) (hF : ∀ (s : Nat) (a b c e : Int32) (S : St) (z : Int32 × St), F s a b c e S = some z → l2_rd s (d + 3) a b c e S z) (s0 : Int32) (S : St) (z : (Int32 × St)) (h : fX3_readStatement_248 F N s0 S = some z) (w0 : Option Value) (w1 : Option Value) (w2 : Option Value) (w3 : Option Value) (w4 : Option Value) (w5 : Option Value) : am_Rn (am_C (d + 3)) (am_ct 37) (am_rk 37) (some (.int z.1), am_T0 z.2) (248, [w0, w1, w2, w3, w4, w5], [.int s0], am_T0 S) := by
  unfold fX3_readStatement_248 at h
  cases h
  exact am_Rn.rt _ rfl rfl
def fX3_readStatement_216 (F : Nat → Int32 → Int32 → Int32 → Int32 → St → Option (Int32 × St)) (N : Nat) (s0 : Int32) (S : St) : Option (Int32 × St) := some (s0, S)
set_option maxRecDepth 20000 in
theorem rfX3_readStatement_216 (F : Nat → Int32 → Int32 → Int32 → Int32 → St → Option (Int32 × St)) (d N : Nat) (hF : ∀ (s : Nat) (a b c e : Int32) (S : St) (z : Int32 × St), F s a b c e S = some z → l2_rd s (d + 3) a b c e S z) (s0 : Int32) (S : St) (z : (Int32 × St)) (h : fX3_readStatement_216 F N s0 S = some z) (w0 : Option Value) (w1 : Option Value) (w2 : Option Value) (w3 : Option Value) (w4 : Option Value) (w5 : Option Value) : am_Rn (am_C (d + 3)) (am_ct 37) (am_rk 37) (some (.int z.1), am_T0 z.2) (216, [w0, w1, w2, w3, w4, w5], [.int s0], am_T0 S) := by
  unfold fX3_readStatement_216 at h
  cases h
  exact am_Rn.rt _ rfl rfl
def fX3_readStatement_176 (F : Nat → Int32 → Int32 → Int32 → Int32 → St → Option (Int32 × St)) (N : Nat) (s1 : Int32) (s2 : Int32) (S : St) : Option (Int32 × St) := (fX3_behindPair N s1 s2 S).bind (fun q1 => some (q1.1, q1.2))
set_option maxRecDepth 20000 in
theorem rfX3_readStatement_176 (F : Nat → Int32 → Int32 → Int32 → Int32 → St → Option (Int32 × St)) (d N : Nat) (hF : ∀ (s : Nat) (a b c e : Int32) (S : St) (z : Int32 × St), F s a b c e S = some z → l2_rd s (d + 3) a b c e S z) (s1 : Int32) (s2 : Int32) (S : St) (z : (Int32 × St)) (h : fX3_readStatement_176 F N s1 s2 S = some z) (w0 : Option Value) (w1 : Option Value) (w2 : Option Value) (w3 : Option Value) (w4 : Option Value) (w5 : Option Value) : am_Rn (am_C (d + 3)) (am_ct 37) (am_rk 37) (some (.int z.1), am_T0 z.2) (176, [w0, w1, w2, w3, w4, w5], [.int s2, .int s1, .ref 3], am_T0 S) := by
  unfold fX3_readStatement_176 at h
  obtain ⟨q1, hq1, h⟩ := l2_b h
  refine am_Rn.cl _ (some (.int q1.1)) (am_T0 q1.2) rfl rfl (rfX3_behindPair (d + 1) N s1 s2 S q1 hq1) ?_
  show am_Rn _ _ _ _ (179, [w0, w1, w2, w3, w4, w5], [.int q1.1], am_T0 q1.2)
  cases h
  exact am_Rn.rt _ rfl rfl
def fX3_readStatement_171 (F : Nat → Int32 → Int32 → Int32 → Int32 → St → Option (Int32 × St)) (N : Nat) (s1 : Int32) (S : St) : Option (Int32 × St) := fX3_readStatement_176 F N s1 1 S
set_option maxRecDepth 20000 in
theorem rfX3_readStatement_171 (F : Nat → Int32 → Int32 → Int32 → Int32 → St → Option (Int32 × St)) (d N : Nat) (hF : ∀ (s : Nat) (a b c e : Int32) (S : St) (z : Int32 × St), F s a b c e S = some z → l2_rd s (d + 3) a b c e S z) (s1 : Int32) (S : St) (z : (Int32 × St)) (h : fX3_readStatement_171 F N s1 S = some z) (w0 : Option Value) (w1 : Option Value) (w2 : Option Value) (w3 : Option Value) (w4 : Option Value) (w5 : Option Value) : am_Rn (am_C (d + 3)) (am_ct 37) (am_rk 37) (some (.int z.1), am_T0 z.2) (171, [w0, w1, w2, w3, w4, w5], [.int s1, .ref 3], am_T0 S) := by
  unfold fX3_readStatement_171 at h
  refine am_Rn.op _ (172, [w0, w1, w2, w3, w4, w5], [.int 1, .int s1, .ref 3], am_T0 S) rfl rfl ?_
  refine am_Rn.op _ (176, [w0, w1, w2, w3, w4, w5], [.int 1, .int s1, .ref 3], am_T0 S) rfl rfl ?_
  exact rfX3_readStatement_176 F d N hF s1 1 S _ h _ _ _ _ _ _
def fX3_readStatement_125 (F : Nat → Int32 → Int32 → Int32 → Int32 → St → Option (Int32 × St)) (N : Nat) (s1 : Int32) (s2 : Int32) (S : St) : Option (Int32 × St) := (fX3_behindPair N s1 s2 S).bind (fun q2 => some (q2.1, q2.2))
set_option maxRecDepth 20000 in
theorem rfX3_readStatement_125 (F : Nat → Int32 → Int32 → Int32 → Int32 → St → Option (Int32 × St)) (d N : Nat) (hF : ∀ (s : Nat) (a b c e : Int32) (S : St) (z : Int32 × St), F s a b c e S = some z → l2_rd s (d + 3) a b c e S z) (s1 : Int32) (s2 : Int32) (S : St) (z : (Int32 × St)) (h : fX3_readStatement_125 F N s1 s2 S = some z) (w0 : Option Value) (w1 : Option Value) (w2 : Option Value) (w3 : Option Value) (w4 : Option Value) (w5 : Option Value) : am_Rn (am_C (d + 3)) (am_ct 37) (am_rk 37) (some (.int z.1), am_T0 z.2) (125, [w0, w1, w2, w3, w4, w5], [.int s2, .int s1, .ref 3], am_T0 S) := by
  unfold fX3_readStatement_125 at h
  obtain ⟨q2, hq2, h⟩ := l2_b h
  refine am_Rn.cl _ (some (.int q2.1)) (am_T0 q2.2) rfl rfl (rfX3_behindPair (d + 1) N s1 s2 S q2 hq2) ?_
  show am_Rn _ _ _ _ (128, [w0, w1, w2, w3, w4, w5], [.int q2.1], am_T0 q2.2)
  cases h
  exact am_Rn.rt _ rfl rfl
def fX3_readStatement (F : Nat → Int32 → Int32 → Int32 → Int32 → St → Option (Int32 × St)) (N : Nat) (l1 : Int32) (l2 : Int32) (l3 : Int32) (S : St) : Option (Int32 × St) := (fX5_at N (S.2 9) (l1 + 1) S).bind (fun q3 => (fX5_at N (q3.2.2 9) l1 q3.2).bind (fun q4 => (if q4.1 = 33 then (fX5_kindAt N (q4.2.2 9) (l1 + 1) q4.2).bind (fun q5 => (if q5.1 = (-1) then fX3_readStatement_125 F N l1 0 q5.2 else fX3_readStatement_125 F N l1 1 q5.2)) else (if q4.1 = 42 then (F 2 (l1 + 1) l2 l3 (-1) q4.2).bind (fun q6 => some (q6.1, q6.2)) else (if q4.1 = 43 then (if q3.1 = 48 then fX3_readStatement_171 F N l1 q4.2 else (if q3.1 = 49 then fX3_readStatement_171 F N l1 q4.2 else fX3_readStatement_176 F N l1 0 q4.2)) else (if q4.1 = 45 then (if q3.1 = 48 then fX3_readStatement_171 F N l1 q4.2 else (if q3.1 = 49 then fX3_readStatement_171 F N l1 q4.2 else fX3_readStatement_176 F N l1 0 q4.2)) else (if q4.1 = 46 then some ((l1 + 1), q4.2) else (if q4.1 = 63 then (F 2 (l1 + 1) l2 l3 (-1) q4.2).bind (fun q7 => (if q7.1 = (-1) then fX3_readStatement_248 F N (-1) q7.2 else (F 2 q7.1 l2 l3 (-1) q7.2).bind (fun q8 => fX3_readStatement_248 F N q8.1 q8.2))) else (if q4.1 = 64 then (fX5_addCall N (q4.2.2 9) (q3.1 - 97) q4.2).bind (fun q9 => (fX7_isRoutine N (q3.1 - 97) q9).bind (fun q10 => (fX3_behindPair N l1 q10.1 q10.2).bind (fun q11 => some (q11.1, q11.2)))) else (if q4.1 = 84 then (F 3 (l1 + 1) l2 l3 0 q4.2).bind (fun q12 => some (q12.1, q12.2)) else (if q4.1 = 94 then (fX5_markAgain N (q4.2.2 9) l3 q4.2).bind (fun q13 => (fX5_keeperOf N (q13.2 9) l3 q13).bind (fun q14 => (if q14.1 = (-1) then (fX3_refuse N 1 l1 q14.2).bind (fun q15 => fX3_readStatement_216 F N q15.1 q15.2) else fX3_readStatement_216 F N (l1 + 1) q14.2))) else (fX3_refuse N 1 l1 q4.2).bind (fun q16 => some (q16.1, q16.2)))))))))))))
set_option maxRecDepth 20000 in
theorem rfX3_readStatement (F : Nat → Int32 → Int32 → Int32 → Int32 → St → Option (Int32 × St)) (d N : Nat) (hF : ∀ (s : Nat) (a b c e : Int32) (S : St) (z : Int32 × St), F s a b c e S = some z → l2_rd s (d + 3) a b c e S z) (l1 : Int32) (l2 : Int32) (l3 : Int32) (S : St) (z : (Int32 × St)) (h : fX3_readStatement F N l1 l2 l3 S = some z) : am_C (d + 3 + 1) 37 [.ref 3, .int l1, .int l2, .int l3] (am_T0 S) (some (.int z.1), am_T0 z.2) := by
  unfold fX3_readStatement at h
  show am_Rn (am_C (d + 3)) (am_ct 37) (am_rk 37) (some (.int z.1), am_T0 z.2) (0, [some (.ref 3), some (.int l1), some (.int l2), some (.int l3), none, none], [], am_T0 S)
  refine am_Rn.op _ (1, [some (.ref 3), some (.int l1), some (.int l2), some (.int l3), none, none], [.ref 3], am_T0 S) rfl rfl ?_
  refine am_Rn.op _ (4, [some (.ref 3), some (.int l1), some (.int l2), some (.int l3), none, none], [.ref (TA (S.2 9))], am_T0 S) rfl rfl ?_
  refine am_Rn.op _ (5, [some (.ref 3), some (.int l1), some (.int l2), some (.int l3), none, none], [.int l1, .ref (TA (S.2 9))], am_T0 S) rfl rfl ?_
  refine am_Rn.op _ (6, [some (.ref 3), some (.int l1), some (.int l2), some (.int l3), none, none], [.int 1, .int l1, .ref (TA (S.2 9))], am_T0 S) rfl rfl ?_
  refine am_Rn.op _ (7, [some (.ref 3), some (.int l1), some (.int l2), some (.int l3), none, none], [.int (l1 + 1), .ref (TA (S.2 9))], am_T0 S) rfl rfl ?_
  obtain ⟨q3, hq3, h⟩ := l2_b h
  refine am_Rn.cl _ (some (.int q3.1)) (am_T0 q3.2) rfl (o_clv rfl rfl rfl (l2_isO (S.2 9) S)) (rfX5_at (d + 2) N (S.2 9) (l1 + 1) S q3 hq3) ?_
  show am_Rn _ _ _ _ (10, [some (.ref 3), some (.int l1), some (.int l2), some (.int l3), none, none], [.int q3.1], am_T0 q3.2)
  refine am_Rn.op _ (12, [some (.ref 3), some (.int l1), some (.int l2), some (.int l3), some (.int q3.1), none], [], am_T0 q3.2) rfl rfl ?_
  refine am_Rn.op _ (13, [some (.ref 3), some (.int l1), some (.int l2), some (.int l3), some (.int q3.1), none], [.ref 3], am_T0 q3.2) rfl rfl ?_
  refine am_Rn.op _ (16, [some (.ref 3), some (.int l1), some (.int l2), some (.int l3), some (.int q3.1), none], [.ref (TA (q3.2.2 9))], am_T0 q3.2) rfl rfl ?_
  refine am_Rn.op _ (17, [some (.ref 3), some (.int l1), some (.int l2), some (.int l3), some (.int q3.1), none], [.int l1, .ref (TA (q3.2.2 9))], am_T0 q3.2) rfl rfl ?_
  obtain ⟨q4, hq4, h⟩ := l2_b h
  refine am_Rn.cl _ (some (.int q4.1)) (am_T0 q4.2) rfl (o_clv rfl rfl rfl (l2_isO (q3.2.2 9) q3.2)) (rfX5_at (d + 2) N (q3.2.2 9) l1 q3.2 q4 hq4) ?_
  show am_Rn _ _ _ _ (20, [some (.ref 3), some (.int l1), some (.int l2), some (.int l3), some (.int q3.1), none], [.int q4.1], am_T0 q4.2)
  refine am_Rn.op _ ((if q4.1 = 33 then 104 else (if q4.1 = 42 then 249 else (if q4.1 = 43 then 155 else (if q4.1 = 45 then 155 else (if q4.1 = 46 then 180 else (if q4.1 = 63 then 217 else (if q4.1 = 64 then 129 else (if q4.1 = 84 then 260 else (if q4.1 = 94 then 184 else 270))))))))), [some (.ref 3), some (.int l1), some (.int l2), some (.int l3), some (.int q3.1), none], [], am_T0 q4.2) rfl rfl ?_
  rcases l2_i h with ⟨hc, h⟩ | ⟨hc, h⟩
  · refine am_Rn.ifT hc ?_
    refine am_Rn.op _ (105, [some (.ref 3), some (.int l1), some (.int l2), some (.int l3), some (.int q3.1), none], [.ref 3], am_T0 q4.2) rfl rfl ?_
    refine am_Rn.op _ (106, [some (.ref 3), some (.int l1), some (.int l2), some (.int l3), some (.int q3.1), none], [.int l1, .ref 3], am_T0 q4.2) rfl rfl ?_
    refine am_Rn.op _ (107, [some (.ref 3), some (.int l1), some (.int l2), some (.int l3), some (.int q3.1), none], [.ref 3, .int l1, .ref 3], am_T0 q4.2) rfl rfl ?_
    refine am_Rn.op _ (110, [some (.ref 3), some (.int l1), some (.int l2), some (.int l3), some (.int q3.1), none], [.ref (TA (q4.2.2 9)), .int l1, .ref 3], am_T0 q4.2) rfl rfl ?_
    refine am_Rn.op _ (111, [some (.ref 3), some (.int l1), some (.int l2), some (.int l3), some (.int q3.1), none], [.int l1, .ref (TA (q4.2.2 9)), .int l1, .ref 3], am_T0 q4.2) rfl rfl ?_
    refine am_Rn.op _ (112, [some (.ref 3), some (.int l1), some (.int l2), some (.int l3), some (.int q3.1), none], [.int 1, .int l1, .ref (TA (q4.2.2 9)), .int l1, .ref 3], am_T0 q4.2) rfl rfl ?_
    refine am_Rn.op _ (113, [some (.ref 3), some (.int l1), some (.int l2), some (.int l3), some (.int q3.1), none], [.int (l1 + 1), .ref (TA (q4.2.2 9)), .int l1, .ref 3], am_T0 q4.2) rfl rfl ?_
    obtain ⟨q5, hq5, h⟩ := l2_b h
    refine am_Rn.cl _ (some (.int q5.1)) (am_T0 q5.2) rfl (o_clv rfl rfl rfl (l2_isO (q4.2.2 9) q4.2)) (rfX5_kindAt (d + 1) N (q4.2.2 9) (l1 + 1) q4.2 q5 hq5) ?_
    show am_Rn _ _ _ _ (116, [some (.ref 3), some (.int l1), some (.int l2), some (.int l3), some (.int q3.1), none], [.int q5.1, .int l1, .ref 3], am_T0 q5.2)
    refine am_Rn.op _ (117, [some (.ref 3), some (.int l1), some (.int l2), some (.int l3), some (.int q3.1), none], [.int (-1), .int q5.1, .int l1, .ref 3], am_T0 q5.2) rfl rfl ?_
    refine am_Rn.op _ (if q5.1 = (-1) then 124 else 120, [some (.ref 3), some (.int l1), some (.int l2), some (.int l3), some (.int q3.1), none], [.int l1, .ref 3], am_T0 q5.2) rfl rfl ?_
    rcases l2_i h with ⟨hc, h⟩ | ⟨hc, h⟩
    · refine am_Rn.ifT hc ?_
      refine am_Rn.op _ (125, [some (.ref 3), some (.int l1), some (.int l2), some (.int l3), some (.int q3.1), none], [.int 0, .int l1, .ref 3], am_T0 q5.2) rfl rfl ?_
      exact rfX3_readStatement_125 F d N hF l1 0 q5.2 _ h _ _ _ _ _ _
    · refine am_Rn.ifF hc ?_
      refine am_Rn.op _ (121, [some (.ref 3), some (.int l1), some (.int l2), some (.int l3), some (.int q3.1), none], [.int 1, .int l1, .ref 3], am_T0 q5.2) rfl rfl ?_
      refine am_Rn.op _ (125, [some (.ref 3), some (.int l1), some (.int l2), some (.int l3), some (.int q3.1), none], [.int 1, .int l1, .ref 3], am_T0 q5.2) rfl rfl ?_
      exact rfX3_readStatement_125 F d N hF l1 1 q5.2 _ h _ _ _ _ _ _
  · refine am_Rn.ifF hc ?_
    rcases l2_i h with ⟨hc, h⟩ | ⟨hc, h⟩
    · refine am_Rn.ifT hc ?_
      refine am_Rn.op _ (250, [some (.ref 3), some (.int l1), some (.int l2), some (.int l3), some (.int q3.1), none], [.ref 3], am_T0 q4.2) rfl rfl ?_
      refine am_Rn.op _ (251, [some (.ref 3), some (.int l1), some (.int l2), some (.int l3), some (.int q3.1), none], [.int l1, .ref 3], am_T0 q4.2) rfl rfl ?_
      refine am_Rn.op _ (252, [some (.ref 3), some (.int l1), some (.int l2), some (.int l3), some (.int q3.1), none], [.int 1, .int l1, .ref 3], am_T0 q4.2) rfl rfl ?_
      refine am_Rn.op _ (253, [some (.ref 3), some (.int l1), some (.int l2), some (.int l3), some (.int q3.1), none], [.int (l1 + 1), .ref 3], am_T0 q4.2) rfl rfl ?_
      refine am_Rn.op _ (254, [some (.ref 3), some (.int l1), some (.int l2), some (.int l3), some (.int q3.1), none], [.int l2, .int (l1 + 1), .ref 3], am_T0 q4.2) rfl rfl ?_
      refine am_Rn.op _ (255, [some (.ref 3), some (.int l1), some (.int l2), some (.int l3), some (.int q3.1), none], [.int l3, .int l2, .int (l1 + 1), .ref 3], am_T0 q4.2) rfl rfl ?_
      refine am_Rn.op _ (256, [some (.ref 3), some (.int l1), some (.int l2), some (.int l3), some (.int q3.1), none], [.int (-1), .int l3, .int l2, .int (l1 + 1), .ref 3], am_T0 q4.2) rfl rfl ?_
      obtain ⟨q6, hq6, h⟩ := l2_b h
      refine am_Rn.cl _ (some (.int q6.1)) (am_T0 q6.2) rfl rfl (hF 2 (l1 + 1) l2 l3 (-1) q4.2 q6 hq6) ?_
      show am_Rn _ _ _ _ (259, [some (.ref 3), some (.int l1), some (.int l2), some (.int l3), some (.int q3.1), none], [.int q6.1], am_T0 q6.2)
      cases h
      exact am_Rn.rt _ rfl rfl
    · refine am_Rn.ifF hc ?_
      rcases l2_i h with ⟨hc, h⟩ | ⟨hc, h⟩
      · refine am_Rn.ifT hc ?_
        refine am_Rn.op _ (156, [some (.ref 3), some (.int l1), some (.int l2), some (.int l3), some (.int q3.1), none], [.ref 3], am_T0 q4.2) rfl rfl ?_
        refine am_Rn.op _ (157, [some (.ref 3), some (.int l1), some (.int l2), some (.int l3), some (.int q3.1), none], [.int l1, .ref 3], am_T0 q4.2) rfl rfl ?_
        refine am_Rn.op _ (159, [some (.ref 3), some (.int l1), some (.int l2), some (.int l3), some (.int q3.1), none], [.int q3.1, .int l1, .ref 3], am_T0 q4.2) rfl rfl ?_
        refine am_Rn.op _ (161, [some (.ref 3), some (.int l1), some (.int l2), some (.int l3), some (.int q3.1), none], [.int 48, .int q3.1, .int l1, .ref 3], am_T0 q4.2) rfl rfl ?_
        refine am_Rn.op _ (if q3.1 = 48 then 171 else 164, [some (.ref 3), some (.int l1), some (.int l2), some (.int l3), some (.int q3.1), none], [.int l1, .ref 3], am_T0 q4.2) rfl rfl ?_
        rcases l2_i h with ⟨hc, h⟩ | ⟨hc, h⟩
        · refine am_Rn.ifT hc ?_
          exact rfX3_readStatement_171 F d N hF l1 q4.2 _ h _ _ _ _ _ _
        · refine am_Rn.ifF hc ?_
          refine am_Rn.op _ (166, [some (.ref 3), some (.int l1), some (.int l2), some (.int l3), some (.int q3.1), none], [.int q3.1, .int l1, .ref 3], am_T0 q4.2) rfl rfl ?_
          refine am_Rn.op _ (168, [some (.ref 3), some (.int l1), some (.int l2), some (.int l3), some (.int q3.1), none], [.int 49, .int q3.1, .int l1, .ref 3], am_T0 q4.2) rfl rfl ?_
          refine am_Rn.op _ (if q3.1 = 49 then 171 else 175, [some (.ref 3), some (.int l1), some (.int l2), some (.int l3), some (.int q3.1), none], [.int l1, .ref 3], am_T0 q4.2) rfl rfl ?_
          rcases l2_i h with ⟨hc, h⟩ | ⟨hc, h⟩
          · refine am_Rn.ifT hc ?_
            exact rfX3_readStatement_171 F d N hF l1 q4.2 _ h _ _ _ _ _ _
          · refine am_Rn.ifF hc ?_
            refine am_Rn.op _ (176, [some (.ref 3), some (.int l1), some (.int l2), some (.int l3), some (.int q3.1), none], [.int 0, .int l1, .ref 3], am_T0 q4.2) rfl rfl ?_
            exact rfX3_readStatement_176 F d N hF l1 0 q4.2 _ h _ _ _ _ _ _
      · refine am_Rn.ifF hc ?_
        rcases l2_i h with ⟨hc, h⟩ | ⟨hc, h⟩
        · refine am_Rn.ifT hc ?_
          refine am_Rn.op _ (156, [some (.ref 3), some (.int l1), some (.int l2), some (.int l3), some (.int q3.1), none], [.ref 3], am_T0 q4.2) rfl rfl ?_
          refine am_Rn.op _ (157, [some (.ref 3), some (.int l1), some (.int l2), some (.int l3), some (.int q3.1), none], [.int l1, .ref 3], am_T0 q4.2) rfl rfl ?_
          refine am_Rn.op _ (159, [some (.ref 3), some (.int l1), some (.int l2), some (.int l3), some (.int q3.1), none], [.int q3.1, .int l1, .ref 3], am_T0 q4.2) rfl rfl ?_
          refine am_Rn.op _ (161, [some (.ref 3), some (.int l1), some (.int l2), some (.int l3), some (.int q3.1), none], [.int 48, .int q3.1, .int l1, .ref 3], am_T0 q4.2) rfl rfl ?_
          refine am_Rn.op _ (if q3.1 = 48 then 171 else 164, [some (.ref 3), some (.int l1), some (.int l2), some (.int l3), some (.int q3.1), none], [.int l1, .ref 3], am_T0 q4.2) rfl rfl ?_
          rcases l2_i h with ⟨hc, h⟩ | ⟨hc, h⟩
          · refine am_Rn.ifT hc ?_
            exact rfX3_readStatement_171 F d N hF l1 q4.2 _ h _ _ _ _ _ _
          · refine am_Rn.ifF hc ?_
            refine am_Rn.op _ (166, [some (.ref 3), some (.int l1), some (.int l2), some (.int l3), some (.int q3.1), none], [.int q3.1, .int l1, .ref 3], am_T0 q4.2) rfl rfl ?_
            refine am_Rn.op _ (168, [some (.ref 3), some (.int l1), some (.int l2), some (.int l3), some (.int q3.1), none], [.int 49, .int q3.1, .int l1, .ref 3], am_T0 q4.2) rfl rfl ?_
            refine am_Rn.op _ (if q3.1 = 49 then 171 else 175, [some (.ref 3), some (.int l1), some (.int l2), some (.int l3), some (.int q3.1), none], [.int l1, .ref 3], am_T0 q4.2) rfl rfl ?_
            rcases l2_i h with ⟨hc, h⟩ | ⟨hc, h⟩
            · refine am_Rn.ifT hc ?_
              exact rfX3_readStatement_171 F d N hF l1 q4.2 _ h _ _ _ _ _ _
            · refine am_Rn.ifF hc ?_
              refine am_Rn.op _ (176, [some (.ref 3), some (.int l1), some (.int l2), some (.int l3), some (.int q3.1), none], [.int 0, .int l1, .ref 3], am_T0 q4.2) rfl rfl ?_
              exact rfX3_readStatement_176 F d N hF l1 0 q4.2 _ h _ _ _ _ _ _
        · refine am_Rn.ifF hc ?_
          rcases l2_i h with ⟨hc, h⟩ | ⟨hc, h⟩
          · refine am_Rn.ifT hc ?_
            refine am_Rn.op _ (181, [some (.ref 3), some (.int l1), some (.int l2), some (.int l3), some (.int q3.1), none], [.int l1], am_T0 q4.2) rfl rfl ?_
            refine am_Rn.op _ (182, [some (.ref 3), some (.int l1), some (.int l2), some (.int l3), some (.int q3.1), none], [.int 1, .int l1], am_T0 q4.2) rfl rfl ?_
            refine am_Rn.op _ (183, [some (.ref 3), some (.int l1), some (.int l2), some (.int l3), some (.int q3.1), none], [.int (l1 + 1)], am_T0 q4.2) rfl rfl ?_
            cases h
            exact am_Rn.rt _ rfl rfl
          · refine am_Rn.ifF hc ?_
            rcases l2_i h with ⟨hc, h⟩ | ⟨hc, h⟩
            · refine am_Rn.ifT hc ?_
              refine am_Rn.op _ (218, [some (.ref 3), some (.int l1), some (.int l2), some (.int l3), some (.int q3.1), none], [.ref 3], am_T0 q4.2) rfl rfl ?_
              refine am_Rn.op _ (219, [some (.ref 3), some (.int l1), some (.int l2), some (.int l3), some (.int q3.1), none], [.int l1, .ref 3], am_T0 q4.2) rfl rfl ?_
              refine am_Rn.op _ (220, [some (.ref 3), some (.int l1), some (.int l2), some (.int l3), some (.int q3.1), none], [.int 1, .int l1, .ref 3], am_T0 q4.2) rfl rfl ?_
              refine am_Rn.op _ (221, [some (.ref 3), some (.int l1), some (.int l2), some (.int l3), some (.int q3.1), none], [.int (l1 + 1), .ref 3], am_T0 q4.2) rfl rfl ?_
              refine am_Rn.op _ (222, [some (.ref 3), some (.int l1), some (.int l2), some (.int l3), some (.int q3.1), none], [.int l2, .int (l1 + 1), .ref 3], am_T0 q4.2) rfl rfl ?_
              refine am_Rn.op _ (223, [some (.ref 3), some (.int l1), some (.int l2), some (.int l3), some (.int q3.1), none], [.int l3, .int l2, .int (l1 + 1), .ref 3], am_T0 q4.2) rfl rfl ?_
              refine am_Rn.op _ (224, [some (.ref 3), some (.int l1), some (.int l2), some (.int l3), some (.int q3.1), none], [.int (-1), .int l3, .int l2, .int (l1 + 1), .ref 3], am_T0 q4.2) rfl rfl ?_
              obtain ⟨q7, hq7, h⟩ := l2_b h
              refine am_Rn.cl _ (some (.int q7.1)) (am_T0 q7.2) rfl rfl (hF 2 (l1 + 1) l2 l3 (-1) q4.2 q7 hq7) ?_
              show am_Rn _ _ _ _ (227, [some (.ref 3), some (.int l1), some (.int l2), some (.int l3), some (.int q3.1), none], [.int q7.1], am_T0 q7.2)
              refine am_Rn.op _ (229, [some (.ref 3), some (.int l1), some (.int l2), some (.int l3), some (.int q3.1), some (.int q7.1)], [], am_T0 q7.2) rfl rfl ?_
              refine am_Rn.op _ (231, [some (.ref 3), some (.int l1), some (.int l2), some (.int l3), some (.int q3.1), some (.int q7.1)], [.int q7.1], am_T0 q7.2) rfl rfl ?_
              refine am_Rn.op _ (232, [some (.ref 3), some (.int l1), some (.int l2), some (.int l3), some (.int q3.1), some (.int q7.1)], [.int (-1), .int q7.1], am_T0 q7.2) rfl rfl ?_
              refine am_Rn.op _ (if q7.1 = (-1) then 235 else 239, [some (.ref 3), some (.int l1), some (.int l2), some (.int l3), some (.int q3.1), some (.int q7.1)], [], am_T0 q7.2) rfl rfl ?_
              rcases l2_i h with ⟨hc, h⟩ | ⟨hc, h⟩
              · refine am_Rn.ifT hc ?_
                refine am_Rn.op _ (236, [some (.ref 3), some (.int l1), some (.int l2), some (.int l3), some (.int q3.1), some (.int q7.1)], [.int (-1)], am_T0 q7.2) rfl rfl ?_
                refine am_Rn.op _ (248, [some (.ref 3), some (.int l1), some (.int l2), some (.int l3), some (.int q3.1), some (.int q7.1)], [.int (-1)], am_T0 q7.2) rfl rfl ?_
                exact rfX3_readStatement_248 F d N hF (-1) q7.2 _ h _ _ _ _ _ _
              · refine am_Rn.ifF hc ?_
                refine am_Rn.op _ (240, [some (.ref 3), some (.int l1), some (.int l2), some (.int l3), some (.int q3.1), some (.int q7.1)], [.ref 3], am_T0 q7.2) rfl rfl ?_
                refine am_Rn.op _ (242, [some (.ref 3), some (.int l1), some (.int l2), some (.int l3), some (.int q3.1), some (.int q7.1)], [.int q7.1, .ref 3], am_T0 q7.2) rfl rfl ?_
                refine am_Rn.op _ (243, [some (.ref 3), some (.int l1), some (.int l2), some (.int l3), some (.int q3.1), some (.int q7.1)], [.int l2, .int q7.1, .ref 3], am_T0 q7.2) rfl rfl ?_
                refine am_Rn.op _ (244, [some (.ref 3), some (.int l1), some (.int l2), some (.int l3), some (.int q3.1), some (.int q7.1)], [.int l3, .int l2, .int q7.1, .ref 3], am_T0 q7.2) rfl rfl ?_
                refine am_Rn.op _ (245, [some (.ref 3), some (.int l1), some (.int l2), some (.int l3), some (.int q3.1), some (.int q7.1)], [.int (-1), .int l3, .int l2, .int q7.1, .ref 3], am_T0 q7.2) rfl rfl ?_
                obtain ⟨q8, hq8, h⟩ := l2_b h
                refine am_Rn.cl _ (some (.int q8.1)) (am_T0 q8.2) rfl rfl (hF 2 q7.1 l2 l3 (-1) q7.2 q8 hq8) ?_
                show am_Rn _ _ _ _ (248, [some (.ref 3), some (.int l1), some (.int l2), some (.int l3), some (.int q3.1), some (.int q7.1)], [.int q8.1], am_T0 q8.2)
                exact rfX3_readStatement_248 F d N hF q8.1 q8.2 _ h _ _ _ _ _ _
            · refine am_Rn.ifF hc ?_
              rcases l2_i h with ⟨hc, h⟩ | ⟨hc, h⟩
              · refine am_Rn.ifT hc ?_
                refine am_Rn.op _ (130, [some (.ref 3), some (.int l1), some (.int l2), some (.int l3), some (.int q3.1), none], [.ref 3], am_T0 q4.2) rfl rfl ?_
                refine am_Rn.op _ (133, [some (.ref 3), some (.int l1), some (.int l2), some (.int l3), some (.int q3.1), none], [.ref (TA (q4.2.2 9))], am_T0 q4.2) rfl rfl ?_
                refine am_Rn.op _ (135, [some (.ref 3), some (.int l1), some (.int l2), some (.int l3), some (.int q3.1), none], [.int q3.1, .ref (TA (q4.2.2 9))], am_T0 q4.2) rfl rfl ?_
                refine am_Rn.op _ (137, [some (.ref 3), some (.int l1), some (.int l2), some (.int l3), some (.int q3.1), none], [.int 97, .int q3.1, .ref (TA (q4.2.2 9))], am_T0 q4.2) rfl rfl ?_
                refine am_Rn.op _ (138, [some (.ref 3), some (.int l1), some (.int l2), some (.int l3), some (.int q3.1), none], [.int (q3.1 - 97), .ref (TA (q4.2.2 9))], am_T0 q4.2) rfl rfl ?_
                obtain ⟨q9, hq9, h⟩ := l2_b h
                refine am_Rn.cl _ none (am_T0 q9) rfl (o_clv rfl rfl rfl (l2_isO (q4.2.2 9) q4.2)) (rfX5_addCall (d + 1) N (q4.2.2 9) (q3.1 - 97) q4.2 q9 hq9) ?_
                show am_Rn _ _ _ _ (141, [some (.ref 3), some (.int l1), some (.int l2), some (.int l3), some (.int q3.1), none], [], am_T0 q9)
                refine am_Rn.op _ (142, [some (.ref 3), some (.int l1), some (.int l2), some (.int l3), some (.int q3.1), none], [.ref 3], am_T0 q9) rfl rfl ?_
                refine am_Rn.op _ (143, [some (.ref 3), some (.int l1), some (.int l2), some (.int l3), some (.int q3.1), none], [.int l1, .ref 3], am_T0 q9) rfl rfl ?_
                refine am_Rn.op _ (145, [some (.ref 3), some (.int l1), some (.int l2), some (.int l3), some (.int q3.1), none], [.int q3.1, .int l1, .ref 3], am_T0 q9) rfl rfl ?_
                refine am_Rn.op _ (147, [some (.ref 3), some (.int l1), some (.int l2), some (.int l3), some (.int q3.1), none], [.int 97, .int q3.1, .int l1, .ref 3], am_T0 q9) rfl rfl ?_
                refine am_Rn.op _ (148, [some (.ref 3), some (.int l1), some (.int l2), some (.int l3), some (.int q3.1), none], [.int (q3.1 - 97), .int l1, .ref 3], am_T0 q9) rfl rfl ?_
                obtain ⟨q10, hq10, h⟩ := l2_b h
                refine am_Rn.cl _ (some (.int q10.1)) (am_T0 q10.2) rfl rfl (rfX7_isRoutine (d + 2) N (q3.1 - 97) q9 q10 hq10) ?_
                show am_Rn _ _ _ _ (151, [some (.ref 3), some (.int l1), some (.int l2), some (.int l3), some (.int q3.1), none], [.int q10.1, .int l1, .ref 3], am_T0 q10.2)
                obtain ⟨q11, hq11, h⟩ := l2_b h
                refine am_Rn.cl _ (some (.int q11.1)) (am_T0 q11.2) rfl rfl (rfX3_behindPair (d + 1) N l1 q10.1 q10.2 q11 hq11) ?_
                show am_Rn _ _ _ _ (154, [some (.ref 3), some (.int l1), some (.int l2), some (.int l3), some (.int q3.1), none], [.int q11.1], am_T0 q11.2)
                cases h
                exact am_Rn.rt _ rfl rfl
              · refine am_Rn.ifF hc ?_
                rcases l2_i h with ⟨hc, h⟩ | ⟨hc, h⟩
                · refine am_Rn.ifT hc ?_
                  refine am_Rn.op _ (261, [some (.ref 3), some (.int l1), some (.int l2), some (.int l3), some (.int q3.1), none], [.ref 3], am_T0 q4.2) rfl rfl ?_
                  refine am_Rn.op _ (262, [some (.ref 3), some (.int l1), some (.int l2), some (.int l3), some (.int q3.1), none], [.int l1, .ref 3], am_T0 q4.2) rfl rfl ?_
                  refine am_Rn.op _ (263, [some (.ref 3), some (.int l1), some (.int l2), some (.int l3), some (.int q3.1), none], [.int 1, .int l1, .ref 3], am_T0 q4.2) rfl rfl ?_
                  refine am_Rn.op _ (264, [some (.ref 3), some (.int l1), some (.int l2), some (.int l3), some (.int q3.1), none], [.int (l1 + 1), .ref 3], am_T0 q4.2) rfl rfl ?_
                  refine am_Rn.op _ (265, [some (.ref 3), some (.int l1), some (.int l2), some (.int l3), some (.int q3.1), none], [.int l2, .int (l1 + 1), .ref 3], am_T0 q4.2) rfl rfl ?_
                  refine am_Rn.op _ (266, [some (.ref 3), some (.int l1), some (.int l2), some (.int l3), some (.int q3.1), none], [.int l3, .int l2, .int (l1 + 1), .ref 3], am_T0 q4.2) rfl rfl ?_
                  obtain ⟨q12, hq12, h⟩ := l2_b h
                  refine am_Rn.cl _ (some (.int q12.1)) (am_T0 q12.2) rfl rfl (hF 3 (l1 + 1) l2 l3 0 q4.2 q12 hq12) ?_
                  show am_Rn _ _ _ _ (269, [some (.ref 3), some (.int l1), some (.int l2), some (.int l3), some (.int q3.1), none], [.int q12.1], am_T0 q12.2)
                  cases h
                  exact am_Rn.rt _ rfl rfl
                · refine am_Rn.ifF hc ?_
                  rcases l2_i h with ⟨hc, h⟩ | ⟨hc, h⟩
                  · refine am_Rn.ifT hc ?_
                    refine am_Rn.op _ (185, [some (.ref 3), some (.int l1), some (.int l2), some (.int l3), some (.int q3.1), none], [.ref 3], am_T0 q4.2) rfl rfl ?_
                    refine am_Rn.op _ (188, [some (.ref 3), some (.int l1), some (.int l2), some (.int l3), some (.int q3.1), none], [.ref (TA (q4.2.2 9))], am_T0 q4.2) rfl rfl ?_
                    refine am_Rn.op _ (189, [some (.ref 3), some (.int l1), some (.int l2), some (.int l3), some (.int q3.1), none], [.int l3, .ref (TA (q4.2.2 9))], am_T0 q4.2) rfl rfl ?_
                    obtain ⟨q13, hq13, h⟩ := l2_b h
                    refine am_Rn.cl _ none (am_T0 q13) rfl (o_clv rfl rfl rfl (l2_isO (q4.2.2 9) q4.2)) (rfX5_markAgain (d + 1) N (q4.2.2 9) l3 q4.2 q13 hq13) ?_
                    show am_Rn _ _ _ _ (192, [some (.ref 3), some (.int l1), some (.int l2), some (.int l3), some (.int q3.1), none], [], am_T0 q13)
                    refine am_Rn.op _ (193, [some (.ref 3), some (.int l1), some (.int l2), some (.int l3), some (.int q3.1), none], [.ref 3], am_T0 q13) rfl rfl ?_
                    refine am_Rn.op _ (196, [some (.ref 3), some (.int l1), some (.int l2), some (.int l3), some (.int q3.1), none], [.ref (TA (q13.2 9))], am_T0 q13) rfl rfl ?_
                    refine am_Rn.op _ (197, [some (.ref 3), some (.int l1), some (.int l2), some (.int l3), some (.int q3.1), none], [.int l3, .ref (TA (q13.2 9))], am_T0 q13) rfl rfl ?_
                    obtain ⟨q14, hq14, h⟩ := l2_b h
                    refine am_Rn.cl _ (some (.int q14.1)) (am_T0 q14.2) rfl (o_clv rfl rfl rfl (l2_isO (q13.2 9) q13)) (rfX5_keeperOf (d + 1) N (q13.2 9) l3 q13 q14 hq14) ?_
                    show am_Rn _ _ _ _ (200, [some (.ref 3), some (.int l1), some (.int l2), some (.int l3), some (.int q3.1), none], [.int q14.1], am_T0 q14.2)
                    refine am_Rn.op _ (201, [some (.ref 3), some (.int l1), some (.int l2), some (.int l3), some (.int q3.1), none], [.int (-1), .int q14.1], am_T0 q14.2) rfl rfl ?_
                    refine am_Rn.op _ (if q14.1 = (-1) then 204 else 213, [some (.ref 3), some (.int l1), some (.int l2), some (.int l3), some (.int q3.1), none], [], am_T0 q14.2) rfl rfl ?_
                    rcases l2_i h with ⟨hc, h⟩ | ⟨hc, h⟩
                    · refine am_Rn.ifT hc ?_
                      refine am_Rn.op _ (205, [some (.ref 3), some (.int l1), some (.int l2), some (.int l3), some (.int q3.1), none], [.ref 3], am_T0 q14.2) rfl rfl ?_
                      refine am_Rn.op _ (206, [some (.ref 3), some (.int l1), some (.int l2), some (.int l3), some (.int q3.1), none], [.int 1, .ref 3], am_T0 q14.2) rfl rfl ?_
                      refine am_Rn.op _ (207, [some (.ref 3), some (.int l1), some (.int l2), some (.int l3), some (.int q3.1), none], [.int l1, .int 1, .ref 3], am_T0 q14.2) rfl rfl ?_
                      obtain ⟨q15, hq15, h⟩ := l2_b h
                      refine am_Rn.cl _ (some (.int q15.1)) (am_T0 q15.2) rfl rfl (rfX3_refuse (d + 2) N 1 l1 q14.2 q15 hq15) ?_
                      show am_Rn _ _ _ _ (210, [some (.ref 3), some (.int l1), some (.int l2), some (.int l3), some (.int q3.1), none], [.int q15.1], am_T0 q15.2)
                      refine am_Rn.op _ (216, [some (.ref 3), some (.int l1), some (.int l2), some (.int l3), some (.int q3.1), none], [.int q15.1], am_T0 q15.2) rfl rfl ?_
                      exact rfX3_readStatement_216 F d N hF q15.1 q15.2 _ h _ _ _ _ _ _
                    · refine am_Rn.ifF hc ?_
                      refine am_Rn.op _ (214, [some (.ref 3), some (.int l1), some (.int l2), some (.int l3), some (.int q3.1), none], [.int l1], am_T0 q14.2) rfl rfl ?_
                      refine am_Rn.op _ (215, [some (.ref 3), some (.int l1), some (.int l2), some (.int l3), some (.int q3.1), none], [.int 1, .int l1], am_T0 q14.2) rfl rfl ?_
                      refine am_Rn.op _ (216, [some (.ref 3), some (.int l1), some (.int l2), some (.int l3), some (.int q3.1), none], [.int (l1 + 1)], am_T0 q14.2) rfl rfl ?_
                      exact rfX3_readStatement_216 F d N hF (l1 + 1) q14.2 _ h _ _ _ _ _ _
                  · refine am_Rn.ifF hc ?_
                    refine am_Rn.op _ (271, [some (.ref 3), some (.int l1), some (.int l2), some (.int l3), some (.int q3.1), none], [.ref 3], am_T0 q4.2) rfl rfl ?_
                    refine am_Rn.op _ (272, [some (.ref 3), some (.int l1), some (.int l2), some (.int l3), some (.int q3.1), none], [.int 1, .ref 3], am_T0 q4.2) rfl rfl ?_
                    refine am_Rn.op _ (273, [some (.ref 3), some (.int l1), some (.int l2), some (.int l3), some (.int q3.1), none], [.int l1, .int 1, .ref 3], am_T0 q4.2) rfl rfl ?_
                    obtain ⟨q16, hq16, h⟩ := l2_b h
                    refine am_Rn.cl _ (some (.int q16.1)) (am_T0 q16.2) rfl rfl (rfX3_refuse (d + 2) N 1 l1 q4.2 q16 hq16) ?_
                    show am_Rn _ _ _ _ (276, [some (.ref 3), some (.int l1), some (.int l2), some (.int l3), some (.int q3.1), none], [.int q16.1], am_T0 q16.2)
                    cases h
                    exact am_Rn.rt _ rfl rfl
def fX3_readBlock_145 (F : Nat → Int32 → Int32 → Int32 → Int32 → St → Option (Int32 × St)) (N : Nat) (l6 : Int32) (S : St) : Option (Int32 × St) := some ((l6 + 1), S)
set_option maxRecDepth 20000 in
theorem rfX3_readBlock_145 (F : Nat → Int32 → Int32 → Int32 → Int32 → St → Option (Int32 × St)) (d N : Nat) (hF : ∀ (s : Nat) (a b c e : Int32) (S : St) (z : Int32 × St), F s a b c e S = some z → l2_rd s (d + 3) a b c e S z) (l6 : Int32) (S : St) (z : (Int32 × St)) (h : fX3_readBlock_145 F N l6 S = some z) (w0 : Option Value) (w1 : Option Value) (w2 : Option Value) (w3 : Option Value) (w4 : Option Value) (w5 : Option Value) : am_Rn (am_C (d + 3)) (am_ct 39) (am_rk 39) (some (.int z.1), am_T0 z.2) (145, [w0, w1, w2, w3, w4, w5, some (.int l6)], [], am_T0 S) := by
  unfold fX3_readBlock_145 at h
  refine am_Rn.op _ (147, [w0, w1, w2, w3, w4, w5, some (.int l6)], [.int l6], am_T0 S) rfl rfl ?_
  refine am_Rn.op _ (148, [w0, w1, w2, w3, w4, w5, some (.int l6)], [.int 1, .int l6], am_T0 S) rfl rfl ?_
  refine am_Rn.op _ (149, [w0, w1, w2, w3, w4, w5, some (.int l6)], [.int (l6 + 1)], am_T0 S) rfl rfl ?_
  cases h
  exact am_Rn.rt _ rfl rfl
def fX3_readBlock_59 (F : Nat → Int32 → Int32 → Int32 → Int32 → St → Option (Int32 × St)) (N : Nat) (l1 : Int32) (l2 : Int32) (l3 : Int32) (l4 : Int32) (m0 : Nat) (s1 : Int32) (s2 : Int32) (S : St) : Option (Int32 × St) := (fX5_openBlock N m0 s1 s2 S).bind (fun q1 => (F 0 (l1 + 1) (l2 + 1) q1.1 0 q1.2).bind (fun q2 => (if q2.1 = (-1) then some ((-1), q2.2) else (fX5_at N (q2.2.2 9) q2.1 q2.2).bind (fun q3 => (if q3.1 = 125 then (fX5_closeBlock N (q3.2.2 9) q1.1 q2.1 q3.2).bind (fun q4 => (if l4 = (-1) then (fX5_raisesAgain N (q4.2 9) q1.1 q4).bind (fun q5 => (if q5.1 = 0 then fX3_readBlock_145 F N q2.1 q5.2 else (fX5_markAgain N (q5.2.2 9) l3 q5.2).bind (fun q6 => fX3_readBlock_145 F N q2.1 q6))) else fX3_readBlock_145 F N q2.1 q4)) else (fX3_refuse N 1 q2.1 q3.2).bind (fun q7 => some (q7.1, q7.2)))))))
set_option maxRecDepth 20000 in
theorem rfX3_readBlock_59 (F : Nat → Int32 → Int32 → Int32 → Int32 → St → Option (Int32 × St)) (d N : Nat) (hF : ∀ (s : Nat) (a b c e : Int32) (S : St) (z : Int32 × St), F s a b c e S = some z → l2_rd s (d + 3) a b c e S z) (l1 : Int32) (l2 : Int32) (l3 : Int32) (l4 : Int32) (m0 : Nat) (s1 : Int32) (s2 : Int32) (S : St) (z : (Int32 × St)) (h : fX3_readBlock_59 F N l1 l2 l3 l4 m0 s1 s2 S = some z) (w5 : Option Value) (w6 : Option Value) : am_Rn (am_C (d + 3)) (am_ct 39) (am_rk 39) (some (.int z.1), am_T0 z.2) (59, [some (.ref 3), some (.int l1), some (.int l2), some (.int l3), some (.int l4), w5, w6], [.int s2, .int s1, .ref (TA m0)], am_T0 S) := by
  unfold fX3_readBlock_59 at h
  obtain ⟨q1, hq1, h⟩ := l2_b h
  refine am_Rn.cl _ (some (.int q1.1)) (am_T0 q1.2) rfl (o_clv rfl rfl rfl (l2_isO m0 S)) (rfX5_openBlock (d + 2) N m0 s1 s2 S q1 hq1) ?_
  show am_Rn _ _ _ _ (62, [some (.ref 3), some (.int l1), some (.int l2), some (.int l3), some (.int l4), w5, w6], [.int q1.1], am_T0 q1.2)
  refine am_Rn.op _ (64, [some (.ref 3), some (.int l1), some (.int l2), some (.int l3), some (.int l4), some (.int q1.1), w6], [], am_T0 q1.2) rfl rfl ?_
  refine am_Rn.op _ (65, [some (.ref 3), some (.int l1), some (.int l2), some (.int l3), some (.int l4), some (.int q1.1), w6], [.ref 3], am_T0 q1.2) rfl rfl ?_
  refine am_Rn.op _ (66, [some (.ref 3), some (.int l1), some (.int l2), some (.int l3), some (.int l4), some (.int q1.1), w6], [.int l1, .ref 3], am_T0 q1.2) rfl rfl ?_
  refine am_Rn.op _ (67, [some (.ref 3), some (.int l1), some (.int l2), some (.int l3), some (.int l4), some (.int q1.1), w6], [.int 1, .int l1, .ref 3], am_T0 q1.2) rfl rfl ?_
  refine am_Rn.op _ (68, [some (.ref 3), some (.int l1), some (.int l2), some (.int l3), some (.int l4), some (.int q1.1), w6], [.int (l1 + 1), .ref 3], am_T0 q1.2) rfl rfl ?_
  refine am_Rn.op _ (69, [some (.ref 3), some (.int l1), some (.int l2), some (.int l3), some (.int l4), some (.int q1.1), w6], [.int l2, .int (l1 + 1), .ref 3], am_T0 q1.2) rfl rfl ?_
  refine am_Rn.op _ (70, [some (.ref 3), some (.int l1), some (.int l2), some (.int l3), some (.int l4), some (.int q1.1), w6], [.int 1, .int l2, .int (l1 + 1), .ref 3], am_T0 q1.2) rfl rfl ?_
  refine am_Rn.op _ (71, [some (.ref 3), some (.int l1), some (.int l2), some (.int l3), some (.int l4), some (.int q1.1), w6], [.int (l2 + 1), .int (l1 + 1), .ref 3], am_T0 q1.2) rfl rfl ?_
  refine am_Rn.op _ (73, [some (.ref 3), some (.int l1), some (.int l2), some (.int l3), some (.int l4), some (.int q1.1), w6], [.int q1.1, .int (l2 + 1), .int (l1 + 1), .ref 3], am_T0 q1.2) rfl rfl ?_
  obtain ⟨q2, hq2, h⟩ := l2_b h
  refine am_Rn.cl _ (some (.int q2.1)) (am_T0 q2.2) rfl rfl (hF 0 (l1 + 1) (l2 + 1) q1.1 0 q1.2 q2 hq2) ?_
  show am_Rn _ _ _ _ (76, [some (.ref 3), some (.int l1), some (.int l2), some (.int l3), some (.int l4), some (.int q1.1), w6], [.int q2.1], am_T0 q2.2)
  refine am_Rn.op _ (78, [some (.ref 3), some (.int l1), some (.int l2), some (.int l3), some (.int l4), some (.int q1.1), some (.int q2.1)], [], am_T0 q2.2) rfl rfl ?_
  refine am_Rn.op _ (80, [some (.ref 3), some (.int l1), some (.int l2), some (.int l3), some (.int l4), some (.int q1.1), some (.int q2.1)], [.int q2.1], am_T0 q2.2) rfl rfl ?_
  refine am_Rn.op _ (81, [some (.ref 3), some (.int l1), some (.int l2), some (.int l3), some (.int l4), some (.int q1.1), some (.int q2.1)], [.int (-1), .int q2.1], am_T0 q2.2) rfl rfl ?_
  refine am_Rn.op _ (if q2.1 = (-1) then 84 else 86, [some (.ref 3), some (.int l1), some (.int l2), some (.int l3), some (.int l4), some (.int q1.1), some (.int q2.1)], [], am_T0 q2.2) rfl rfl ?_
  rcases l2_i h with ⟨hc, h⟩ | ⟨hc, h⟩
  · refine am_Rn.ifT hc ?_
    refine am_Rn.op _ (85, [some (.ref 3), some (.int l1), some (.int l2), some (.int l3), some (.int l4), some (.int q1.1), some (.int q2.1)], [.int (-1)], am_T0 q2.2) rfl rfl ?_
    cases h
    exact am_Rn.rt _ rfl rfl
  · refine am_Rn.ifF hc ?_
    refine am_Rn.op _ (87, [some (.ref 3), some (.int l1), some (.int l2), some (.int l3), some (.int l4), some (.int q1.1), some (.int q2.1)], [.ref 3], am_T0 q2.2) rfl rfl ?_
    refine am_Rn.op _ (90, [some (.ref 3), some (.int l1), some (.int l2), some (.int l3), some (.int l4), some (.int q1.1), some (.int q2.1)], [.ref (TA (q2.2.2 9))], am_T0 q2.2) rfl rfl ?_
    refine am_Rn.op _ (92, [some (.ref 3), some (.int l1), some (.int l2), some (.int l3), some (.int l4), some (.int q1.1), some (.int q2.1)], [.int q2.1, .ref (TA (q2.2.2 9))], am_T0 q2.2) rfl rfl ?_
    obtain ⟨q3, hq3, h⟩ := l2_b h
    refine am_Rn.cl _ (some (.int q3.1)) (am_T0 q3.2) rfl (o_clv rfl rfl rfl (l2_isO (q2.2.2 9) q2.2)) (rfX5_at (d + 2) N (q2.2.2 9) q2.1 q2.2 q3 hq3) ?_
    show am_Rn _ _ _ _ (95, [some (.ref 3), some (.int l1), some (.int l2), some (.int l3), some (.int l4), some (.int q1.1), some (.int q2.1)], [.int q3.1], am_T0 q3.2)
    refine am_Rn.op _ (97, [some (.ref 3), some (.int l1), some (.int l2), some (.int l3), some (.int l4), some (.int q1.1), some (.int q2.1)], [.int 125, .int q3.1], am_T0 q3.2) rfl rfl ?_
    refine am_Rn.op _ (if q3.1 = 125 then 108 else 100, [some (.ref 3), some (.int l1), some (.int l2), some (.int l3), some (.int l4), some (.int q1.1), some (.int q2.1)], [], am_T0 q3.2) rfl rfl ?_
    rcases l2_i h with ⟨hc, h⟩ | ⟨hc, h⟩
    · refine am_Rn.ifT hc ?_
      refine am_Rn.op _ (109, [some (.ref 3), some (.int l1), some (.int l2), some (.int l3), some (.int l4), some (.int q1.1), some (.int q2.1)], [.ref 3], am_T0 q3.2) rfl rfl ?_
      refine am_Rn.op _ (112, [some (.ref 3), some (.int l1), some (.int l2), some (.int l3), some (.int l4), some (.int q1.1), some (.int q2.1)], [.ref (TA (q3.2.2 9))], am_T0 q3.2) rfl rfl ?_
      refine am_Rn.op _ (114, [some (.ref 3), some (.int l1), some (.int l2), some (.int l3), some (.int l4), some (.int q1.1), some (.int q2.1)], [.int q1.1, .ref (TA (q3.2.2 9))], am_T0 q3.2) rfl rfl ?_
      refine am_Rn.op _ (116, [some (.ref 3), some (.int l1), some (.int l2), some (.int l3), some (.int l4), some (.int q1.1), some (.int q2.1)], [.int q2.1, .int q1.1, .ref (TA (q3.2.2 9))], am_T0 q3.2) rfl rfl ?_
      obtain ⟨q4, hq4, h⟩ := l2_b h
      refine am_Rn.cl _ none (am_T0 q4) rfl (o_clv rfl rfl rfl (l2_isO (q3.2.2 9) q3.2)) (rfX5_closeBlock (d + 1) N (q3.2.2 9) q1.1 q2.1 q3.2 q4 hq4) ?_
      show am_Rn _ _ _ _ (119, [some (.ref 3), some (.int l1), some (.int l2), some (.int l3), some (.int l4), some (.int q1.1), some (.int q2.1)], [], am_T0 q4)
      refine am_Rn.op _ (121, [some (.ref 3), some (.int l1), some (.int l2), some (.int l3), some (.int l4), some (.int q1.1), some (.int q2.1)], [.int l4], am_T0 q4) rfl rfl ?_
      refine am_Rn.op _ (122, [some (.ref 3), some (.int l1), some (.int l2), some (.int l3), some (.int l4), some (.int q1.1), some (.int q2.1)], [.int (-1), .int l4], am_T0 q4) rfl rfl ?_
      refine am_Rn.op _ (if l4 = (-1) then 125 else 145, [some (.ref 3), some (.int l1), some (.int l2), some (.int l3), some (.int l4), some (.int q1.1), some (.int q2.1)], [], am_T0 q4) rfl rfl ?_
      rcases l2_i h with ⟨hc, h⟩ | ⟨hc, h⟩
      · refine am_Rn.ifT hc ?_
        refine am_Rn.op _ (126, [some (.ref 3), some (.int l1), some (.int l2), some (.int l3), some (.int l4), some (.int q1.1), some (.int q2.1)], [.ref 3], am_T0 q4) rfl rfl ?_
        refine am_Rn.op _ (129, [some (.ref 3), some (.int l1), some (.int l2), some (.int l3), some (.int l4), some (.int q1.1), some (.int q2.1)], [.ref (TA (q4.2 9))], am_T0 q4) rfl rfl ?_
        refine am_Rn.op _ (131, [some (.ref 3), some (.int l1), some (.int l2), some (.int l3), some (.int l4), some (.int q1.1), some (.int q2.1)], [.int q1.1, .ref (TA (q4.2 9))], am_T0 q4) rfl rfl ?_
        obtain ⟨q5, hq5, h⟩ := l2_b h
        refine am_Rn.cl _ (some (.int q5.1)) (am_T0 q5.2) rfl (o_clv rfl rfl rfl (l2_isO (q4.2 9) q4)) (rfX5_raisesAgain (d + 2) N (q4.2 9) q1.1 q4 q5 hq5) ?_
        show am_Rn _ _ _ _ (134, [some (.ref 3), some (.int l1), some (.int l2), some (.int l3), some (.int l4), some (.int q1.1), some (.int q2.1)], [.int q5.1], am_T0 q5.2)
        refine am_Rn.op _ (if q5.1 = 0 then 145 else 137, [some (.ref 3), some (.int l1), some (.int l2), some (.int l3), some (.int l4), some (.int q1.1), some (.int q2.1)], [], am_T0 q5.2) rfl rfl ?_
        rcases l2_i h with ⟨hc, h⟩ | ⟨hc, h⟩
        · refine am_Rn.ifT hc ?_
          exact rfX3_readBlock_145 F d N hF q2.1 q5.2 _ h _ _ _ _ _ _
        · refine am_Rn.ifF hc ?_
          refine am_Rn.op _ (138, [some (.ref 3), some (.int l1), some (.int l2), some (.int l3), some (.int l4), some (.int q1.1), some (.int q2.1)], [.ref 3], am_T0 q5.2) rfl rfl ?_
          refine am_Rn.op _ (141, [some (.ref 3), some (.int l1), some (.int l2), some (.int l3), some (.int l4), some (.int q1.1), some (.int q2.1)], [.ref (TA (q5.2.2 9))], am_T0 q5.2) rfl rfl ?_
          refine am_Rn.op _ (142, [some (.ref 3), some (.int l1), some (.int l2), some (.int l3), some (.int l4), some (.int q1.1), some (.int q2.1)], [.int l3, .ref (TA (q5.2.2 9))], am_T0 q5.2) rfl rfl ?_
          obtain ⟨q6, hq6, h⟩ := l2_b h
          refine am_Rn.cl _ none (am_T0 q6) rfl (o_clv rfl rfl rfl (l2_isO (q5.2.2 9) q5.2)) (rfX5_markAgain (d + 1) N (q5.2.2 9) l3 q5.2 q6 hq6) ?_
          show am_Rn _ _ _ _ (145, [some (.ref 3), some (.int l1), some (.int l2), some (.int l3), some (.int l4), some (.int q1.1), some (.int q2.1)], [], am_T0 q6)
          exact rfX3_readBlock_145 F d N hF q2.1 q6 _ h _ _ _ _ _ _
      · refine am_Rn.ifF hc ?_
        exact rfX3_readBlock_145 F d N hF q2.1 q4 _ h _ _ _ _ _ _
    · refine am_Rn.ifF hc ?_
      refine am_Rn.op _ (101, [some (.ref 3), some (.int l1), some (.int l2), some (.int l3), some (.int l4), some (.int q1.1), some (.int q2.1)], [.ref 3], am_T0 q3.2) rfl rfl ?_
      refine am_Rn.op _ (102, [some (.ref 3), some (.int l1), some (.int l2), some (.int l3), some (.int l4), some (.int q1.1), some (.int q2.1)], [.int 1, .ref 3], am_T0 q3.2) rfl rfl ?_
      refine am_Rn.op _ (104, [some (.ref 3), some (.int l1), some (.int l2), some (.int l3), some (.int l4), some (.int q1.1), some (.int q2.1)], [.int q2.1, .int 1, .ref 3], am_T0 q3.2) rfl rfl ?_
      obtain ⟨q7, hq7, h⟩ := l2_b h
      refine am_Rn.cl _ (some (.int q7.1)) (am_T0 q7.2) rfl rfl (rfX3_refuse (d + 2) N 1 q2.1 q3.2 q7 hq7) ?_
      show am_Rn _ _ _ _ (107, [some (.ref 3), some (.int l1), some (.int l2), some (.int l3), some (.int l4), some (.int q1.1), some (.int q2.1)], [.int q7.1], am_T0 q7.2)
      cases h
      exact am_Rn.rt _ rfl rfl
def fX3_readBlock (F : Nat → Int32 → Int32 → Int32 → Int32 → St → Option (Int32 × St)) (N : Nat) (l1 : Int32) (l2 : Int32) (l3 : Int32) (l4 : Int32) (S : St) : Option (Int32 × St) := (fX5_at N (S.2 9) l1 S).bind (fun q8 => (if q8.1 = 123 then (if l2 < 8 then (if l4 = (-1) then (fX5_keeperOf N (q8.2.2 9) l3 q8.2).bind (fun q9 => fX3_readBlock_59 F N l1 l2 l3 l4 (q8.2.2 9) (l1 + 1) q9.1 q9.2) else fX3_readBlock_59 F N l1 l2 l3 l4 (q8.2.2 9) (l1 + 1) l4 q8.2) else (fX3_refuse N 2 l1 q8.2).bind (fun q10 => some (q10.1, q10.2))) else (fX3_refuse N 1 l1 q8.2).bind (fun q11 => some (q11.1, q11.2))))
set_option maxRecDepth 20000 in
theorem rfX3_readBlock (F : Nat → Int32 → Int32 → Int32 → Int32 → St → Option (Int32 × St)) (d N : Nat) (hF : ∀ (s : Nat) (a b c e : Int32) (S : St) (z : Int32 × St), F s a b c e S = some z → l2_rd s (d + 3) a b c e S z) (l1 : Int32) (l2 : Int32) (l3 : Int32) (l4 : Int32) (S : St) (z : (Int32 × St)) (h : fX3_readBlock F N l1 l2 l3 l4 S = some z) : am_C (d + 3 + 1) 39 [.ref 3, .int l1, .int l2, .int l3, .int l4] (am_T0 S) (some (.int z.1), am_T0 z.2) := by
  unfold fX3_readBlock at h
  show am_Rn (am_C (d + 3)) (am_ct 39) (am_rk 39) (some (.int z.1), am_T0 z.2) (0, [some (.ref 3), some (.int l1), some (.int l2), some (.int l3), some (.int l4), none, none], [], am_T0 S)
  refine am_Rn.op _ (1, [some (.ref 3), some (.int l1), some (.int l2), some (.int l3), some (.int l4), none, none], [.ref 3], am_T0 S) rfl rfl ?_
  refine am_Rn.op _ (4, [some (.ref 3), some (.int l1), some (.int l2), some (.int l3), some (.int l4), none, none], [.ref (TA (S.2 9))], am_T0 S) rfl rfl ?_
  refine am_Rn.op _ (5, [some (.ref 3), some (.int l1), some (.int l2), some (.int l3), some (.int l4), none, none], [.int l1, .ref (TA (S.2 9))], am_T0 S) rfl rfl ?_
  obtain ⟨q8, hq8, h⟩ := l2_b h
  refine am_Rn.cl _ (some (.int q8.1)) (am_T0 q8.2) rfl (o_clv rfl rfl rfl (l2_isO (S.2 9) S)) (rfX5_at (d + 2) N (S.2 9) l1 S q8 hq8) ?_
  show am_Rn _ _ _ _ (8, [some (.ref 3), some (.int l1), some (.int l2), some (.int l3), some (.int l4), none, none], [.int q8.1], am_T0 q8.2)
  refine am_Rn.op _ (10, [some (.ref 3), some (.int l1), some (.int l2), some (.int l3), some (.int l4), none, none], [.int 123, .int q8.1], am_T0 q8.2) rfl rfl ?_
  refine am_Rn.op _ (if q8.1 = 123 then 20 else 13, [some (.ref 3), some (.int l1), some (.int l2), some (.int l3), some (.int l4), none, none], [], am_T0 q8.2) rfl rfl ?_
  rcases l2_i h with ⟨hc, h⟩ | ⟨hc, h⟩
  · refine am_Rn.ifT hc ?_
    refine am_Rn.op _ (21, [some (.ref 3), some (.int l1), some (.int l2), some (.int l3), some (.int l4), none, none], [.int l2], am_T0 q8.2) rfl rfl ?_
    refine am_Rn.op _ (23, [some (.ref 3), some (.int l1), some (.int l2), some (.int l3), some (.int l4), none, none], [.int 8, .int l2], am_T0 q8.2) rfl rfl ?_
    refine am_Rn.op _ (if l2 < 8 then 33 else 26, [some (.ref 3), some (.int l1), some (.int l2), some (.int l3), some (.int l4), none, none], [], am_T0 q8.2) rfl rfl ?_
    rcases l2_i h with ⟨hc, h⟩ | ⟨hc, h⟩
    · refine am_Rn.ifT hc ?_
      refine am_Rn.op _ (34, [some (.ref 3), some (.int l1), some (.int l2), some (.int l3), some (.int l4), none, none], [.ref 3], am_T0 q8.2) rfl rfl ?_
      refine am_Rn.op _ (37, [some (.ref 3), some (.int l1), some (.int l2), some (.int l3), some (.int l4), none, none], [.ref (TA (q8.2.2 9))], am_T0 q8.2) rfl rfl ?_
      refine am_Rn.op _ (38, [some (.ref 3), some (.int l1), some (.int l2), some (.int l3), some (.int l4), none, none], [.int l1, .ref (TA (q8.2.2 9))], am_T0 q8.2) rfl rfl ?_
      refine am_Rn.op _ (39, [some (.ref 3), some (.int l1), some (.int l2), some (.int l3), some (.int l4), none, none], [.int 1, .int l1, .ref (TA (q8.2.2 9))], am_T0 q8.2) rfl rfl ?_
      refine am_Rn.op _ (40, [some (.ref 3), some (.int l1), some (.int l2), some (.int l3), some (.int l4), none, none], [.int (l1 + 1), .ref (TA (q8.2.2 9))], am_T0 q8.2) rfl rfl ?_
      refine am_Rn.op _ (42, [some (.ref 3), some (.int l1), some (.int l2), some (.int l3), some (.int l4), none, none], [.int l4, .int (l1 + 1), .ref (TA (q8.2.2 9))], am_T0 q8.2) rfl rfl ?_
      refine am_Rn.op _ (43, [some (.ref 3), some (.int l1), some (.int l2), some (.int l3), some (.int l4), none, none], [.int (-1), .int l4, .int (l1 + 1), .ref (TA (q8.2.2 9))], am_T0 q8.2) rfl rfl ?_
      refine am_Rn.op _ (if l4 = (-1) then 46 else 57, [some (.ref 3), some (.int l1), some (.int l2), some (.int l3), some (.int l4), none, none], [.int (l1 + 1), .ref (TA (q8.2.2 9))], am_T0 q8.2) rfl rfl ?_
      rcases l2_i h with ⟨hc, h⟩ | ⟨hc, h⟩
      · refine am_Rn.ifT hc ?_
        refine am_Rn.op _ (47, [some (.ref 3), some (.int l1), some (.int l2), some (.int l3), some (.int l4), none, none], [.ref 3, .int (l1 + 1), .ref (TA (q8.2.2 9))], am_T0 q8.2) rfl rfl ?_
        refine am_Rn.op _ (50, [some (.ref 3), some (.int l1), some (.int l2), some (.int l3), some (.int l4), none, none], [.ref (TA (q8.2.2 9)), .int (l1 + 1), .ref (TA (q8.2.2 9))], am_T0 q8.2) rfl rfl ?_
        refine am_Rn.op _ (51, [some (.ref 3), some (.int l1), some (.int l2), some (.int l3), some (.int l4), none, none], [.int l3, .ref (TA (q8.2.2 9)), .int (l1 + 1), .ref (TA (q8.2.2 9))], am_T0 q8.2) rfl rfl ?_
        obtain ⟨q9, hq9, h⟩ := l2_b h
        refine am_Rn.cl _ (some (.int q9.1)) (am_T0 q9.2) rfl (o_clv rfl rfl rfl (l2_isO (q8.2.2 9) q8.2)) (rfX5_keeperOf (d + 1) N (q8.2.2 9) l3 q8.2 q9 hq9) ?_
        show am_Rn _ _ _ _ (54, [some (.ref 3), some (.int l1), some (.int l2), some (.int l3), some (.int l4), none, none], [.int q9.1, .int (l1 + 1), .ref (TA (q8.2.2 9))], am_T0 q9.2)
        refine am_Rn.op _ (59, [some (.ref 3), some (.int l1), some (.int l2), some (.int l3), some (.int l4), none, none], [.int q9.1, .int (l1 + 1), .ref (TA (q8.2.2 9))], am_T0 q9.2) rfl rfl ?_
        exact rfX3_readBlock_59 F d N hF l1 l2 l3 l4 (q8.2.2 9) (l1 + 1) q9.1 q9.2 _ h _ _
      · refine am_Rn.ifF hc ?_
        refine am_Rn.op _ (59, [some (.ref 3), some (.int l1), some (.int l2), some (.int l3), some (.int l4), none, none], [.int l4, .int (l1 + 1), .ref (TA (q8.2.2 9))], am_T0 q8.2) rfl rfl ?_
        exact rfX3_readBlock_59 F d N hF l1 l2 l3 l4 (q8.2.2 9) (l1 + 1) l4 q8.2 _ h _ _
    · refine am_Rn.ifF hc ?_
      refine am_Rn.op _ (27, [some (.ref 3), some (.int l1), some (.int l2), some (.int l3), some (.int l4), none, none], [.ref 3], am_T0 q8.2) rfl rfl ?_
      refine am_Rn.op _ (28, [some (.ref 3), some (.int l1), some (.int l2), some (.int l3), some (.int l4), none, none], [.int 2, .ref 3], am_T0 q8.2) rfl rfl ?_
      refine am_Rn.op _ (29, [some (.ref 3), some (.int l1), some (.int l2), some (.int l3), some (.int l4), none, none], [.int l1, .int 2, .ref 3], am_T0 q8.2) rfl rfl ?_
      obtain ⟨q10, hq10, h⟩ := l2_b h
      refine am_Rn.cl _ (some (.int q10.1)) (am_T0 q10.2) rfl rfl (rfX3_refuse (d + 2) N 2 l1 q8.2 q10 hq10) ?_
      show am_Rn _ _ _ _ (32, [some (.ref 3), some (.int l1), some (.int l2), some (.int l3), some (.int l4), none, none], [.int q10.1], am_T0 q10.2)
      cases h
      exact am_Rn.rt _ rfl rfl
  · refine am_Rn.ifF hc ?_
    refine am_Rn.op _ (14, [some (.ref 3), some (.int l1), some (.int l2), some (.int l3), some (.int l4), none, none], [.ref 3], am_T0 q8.2) rfl rfl ?_
    refine am_Rn.op _ (15, [some (.ref 3), some (.int l1), some (.int l2), some (.int l3), some (.int l4), none, none], [.int 1, .ref 3], am_T0 q8.2) rfl rfl ?_
    refine am_Rn.op _ (16, [some (.ref 3), some (.int l1), some (.int l2), some (.int l3), some (.int l4), none, none], [.int l1, .int 1, .ref 3], am_T0 q8.2) rfl rfl ?_
    obtain ⟨q11, hq11, h⟩ := l2_b h
    refine am_Rn.cl _ (some (.int q11.1)) (am_T0 q11.2) rfl rfl (rfX3_refuse (d + 2) N 1 l1 q8.2 q11 hq11) ?_
    show am_Rn _ _ _ _ (19, [some (.ref 3), some (.int l1), some (.int l2), some (.int l3), some (.int l4), none, none], [.int q11.1], am_T0 q11.2)
    cases h
    exact am_Rn.rt _ rfl rfl
def PfX3_readTaking_13 (d : Nat) (res : Option Value × am_S) (l2 : Int32) (l3 : Int32) (x : Int32 × Int32 × St) : Prop := ∀ (w1 : Option Value), am_Rn (am_C d) (am_ct 40) (am_rk 40) res (13, [some (.ref 3), w1, some (.int l2), some (.int l3), some (.int x.1), some (.int x.2.1)], [], am_T0 x.2.2)
def QfX3_readTaking_13 (d : Nat) (res : Option Value × am_S) (l2 : Int32) (l3 : Int32) (y : (Int32 × Int32 × St) ⊕ (Int32 × St)) : Prop := Sum.elim (fun y : Int32 × Int32 × St => ∀ (w1 : Option Value), am_Rn (am_C d) (am_ct 40) (am_rk 40) res (90, [some (.ref 3), w1, some (.int l2), some (.int l3), some (.int y.1), some (.int y.2.1)], [], am_T0 y.2.2)) (fun y : (Int32 × St) => res = (some (.int y.1), am_T0 y.2)) y
def fX3_readTaking_145 (F : Nat → Int32 → Int32 → Int32 → Int32 → St → Option (Int32 × St)) (N : Nat) (s0 : Int32) (S : St) : Option (Int32 × St) := some (s0, S)
set_option maxRecDepth 20000 in
theorem rfX3_readTaking_145 (F : Nat → Int32 → Int32 → Int32 → Int32 → St → Option (Int32 × St)) (d N : Nat) (hF : ∀ (s : Nat) (a b c e : Int32) (S : St) (z : Int32 × St), F s a b c e S = some z → l2_rd s (d + 3) a b c e S z) (s0 : Int32) (S : St) (z : (Int32 × St)) (h : fX3_readTaking_145 F N s0 S = some z) (w0 : Option Value) (w1 : Option Value) (w2 : Option Value) (w3 : Option Value) (w4 : Option Value) (w5 : Option Value) : am_Rn (am_C (d + 3)) (am_ct 40) (am_rk 40) (some (.int z.1), am_T0 z.2) (145, [w0, w1, w2, w3, w4, w5], [.int s0], am_T0 S) := by
  unfold fX3_readTaking_145 at h
  cases h
  exact am_Rn.rt _ rfl rfl
def fX3_readTaking_122 (F : Nat → Int32 → Int32 → Int32 → Int32 → St → Option (Int32 × St)) (N : Nat) (l4 : Int32) (l5 : Int32) (S : St) : Option (Int32 × St) := (if l4 = (-1) then fX3_readTaking_145 F N l4 S else (if l5 = 0 then (fX3_refuse N 1 l4 S).bind (fun q1 => fX3_readTaking_145 F N q1.1 q1.2) else fX3_readTaking_145 F N l4 S))
set_option maxRecDepth 20000 in
theorem rfX3_readTaking_122 (F : Nat → Int32 → Int32 → Int32 → Int32 → St → Option (Int32 × St)) (d N : Nat) (hF : ∀ (s : Nat) (a b c e : Int32) (S : St) (z : Int32 × St), F s a b c e S = some z → l2_rd s (d + 3) a b c e S z) (l4 : Int32) (l5 : Int32) (S : St) (z : (Int32 × St)) (h : fX3_readTaking_122 F N l4 l5 S = some z) (w1 : Option Value) (w2 : Option Value) (w3 : Option Value) : am_Rn (am_C (d + 3)) (am_ct 40) (am_rk 40) (some (.int z.1), am_T0 z.2) (122, [some (.ref 3), w1, w2, w3, some (.int l4), some (.int l5)], [], am_T0 S) := by
  unfold fX3_readTaking_122 at h
  refine am_Rn.op _ (124, [some (.ref 3), w1, w2, w3, some (.int l4), some (.int l5)], [.int l4], am_T0 S) rfl rfl ?_
  refine am_Rn.op _ (125, [some (.ref 3), w1, w2, w3, some (.int l4), some (.int l5)], [.int (-1), .int l4], am_T0 S) rfl rfl ?_
  refine am_Rn.op _ (if l4 = (-1) then 143 else 128, [some (.ref 3), w1, w2, w3, some (.int l4), some (.int l5)], [], am_T0 S) rfl rfl ?_
  rcases l2_i h with ⟨hc, h⟩ | ⟨hc, h⟩
  · refine am_Rn.ifT hc ?_
    refine am_Rn.op _ (145, [some (.ref 3), w1, w2, w3, some (.int l4), some (.int l5)], [.int l4], am_T0 S) rfl rfl ?_
    exact rfX3_readTaking_145 F d N hF l4 S _ h _ _ _ _ _ _
  · refine am_Rn.ifF hc ?_
    refine am_Rn.op _ (130, [some (.ref 3), w1, w2, w3, some (.int l4), some (.int l5)], [.int l5], am_T0 S) rfl rfl ?_
    refine am_Rn.op _ (if l5 = 0 then 133 else 143, [some (.ref 3), w1, w2, w3, some (.int l4), some (.int l5)], [], am_T0 S) rfl rfl ?_
    rcases l2_i h with ⟨hc, h⟩ | ⟨hc, h⟩
    · refine am_Rn.ifT hc ?_
      refine am_Rn.op _ (134, [some (.ref 3), w1, w2, w3, some (.int l4), some (.int l5)], [.ref 3], am_T0 S) rfl rfl ?_
      refine am_Rn.op _ (135, [some (.ref 3), w1, w2, w3, some (.int l4), some (.int l5)], [.int 1, .ref 3], am_T0 S) rfl rfl ?_
      refine am_Rn.op _ (137, [some (.ref 3), w1, w2, w3, some (.int l4), some (.int l5)], [.int l4, .int 1, .ref 3], am_T0 S) rfl rfl ?_
      obtain ⟨q1, hq1, h⟩ := l2_b h
      refine am_Rn.cl _ (some (.int q1.1)) (am_T0 q1.2) rfl rfl (rfX3_refuse (d + 2) N 1 l4 S q1 hq1) ?_
      show am_Rn _ _ _ _ (140, [some (.ref 3), w1, w2, w3, some (.int l4), some (.int l5)], [.int q1.1], am_T0 q1.2)
      refine am_Rn.op _ (145, [some (.ref 3), w1, w2, w3, some (.int l4), some (.int l5)], [.int q1.1], am_T0 q1.2) rfl rfl ?_
      exact rfX3_readTaking_145 F d N hF q1.1 q1.2 _ h _ _ _ _ _ _
    · refine am_Rn.ifF hc ?_
      refine am_Rn.op _ (145, [some (.ref 3), w1, w2, w3, some (.int l4), some (.int l5)], [.int l4], am_T0 S) rfl rfl ?_
      exact rfX3_readTaking_145 F d N hF l4 S _ h _ _ _ _ _ _
def bfX3_readTaking_13 (F : Nat → Int32 → Int32 → Int32 → Int32 → St → Option (Int32 × St)) (N : Nat) (l2 : Int32) (l3 : Int32) (x : Int32 × Int32 × St) : Option ((Int32 × Int32 × St) ⊕ ((Int32 × Int32 × St) ⊕ (Int32 × St))) := (if 6 < x.2.1 then some (.inr (.inl (x.1, x.2.1, x.2.2))) else (if x.1 = (-1) then some (.inr (.inl (x.1, x.2.1, x.2.2))) else (fX5_kindAt N (x.2.2.2 9) x.1 x.2.2).bind (fun q2 => (if q2.1 = (-1) then some (.inr (.inl (x.1, x.2.1, q2.2))) else (if x.2.1 = 6 then (fX3_refuse N 3 x.1 q2.2).bind (fun q3 => some (.inr (.inr (q3.1, q3.2)))) else (fX5_addTaker N (q2.2.2 9) x.1 q2.2).bind (fun q4 => (fX5_kindAt N (q4.2 9) x.1 q4).bind (fun q5 => (F 2 (x.1 + 1) l2 l3 q5.1 q5.2).bind (fun q6 => some (.inl (q6.1, (x.2.1 + 1), q6.2))))))))))
def fX3_readTaking_13 (F : Nat → Int32 → Int32 → Int32 → Int32 → St → Option (Int32 × St)) (N : Nat) (l2 : Int32) (l3 : Int32) (x : Int32 × Int32 × St) : Option ((Int32 × Int32 × St) ⊕ (Int32 × St)) := whl N (bfX3_readTaking_13 F N l2 l3 ) x
set_option maxRecDepth 20000 in
theorem rbfX3_readTaking_13 (F : Nat → Int32 → Int32 → Int32 → Int32 → St → Option (Int32 × St)) (d N : Nat) (hF : ∀ (s : Nat) (a b c e : Int32) (S : St) (z : Int32 × St), F s a b c e S = some z → l2_rd s (d + 3) a b c e S z) (res : Option Value × am_S) (l2 : Int32) (l3 : Int32) (x : Int32 × Int32 × St) (z : (Int32 × Int32 × St) ⊕ ((Int32 × Int32 × St) ⊕ (Int32 × St))) (h : bfX3_readTaking_13 F N l2 l3 x = some z) (hz : Sum.elim (PfX3_readTaking_13 (d + 3) res l2 l3 ) (QfX3_readTaking_13 (d + 3) res l2 l3 ) z) : PfX3_readTaking_13 (d + 3) res l2 l3 x := by
  unfold bfX3_readTaking_13 at h
  show ∀ (w1 : Option Value), am_Rn (am_C (d + 3)) (am_ct 40) (am_rk 40) res (13, [some (.ref 3), w1, some (.int l2), some (.int l3), some (.int x.1), some (.int x.2.1)], [], am_T0 x.2.2)
  intro w1
  refine am_Rn.op _ (15, [some (.ref 3), w1, some (.int l2), some (.int l3), some (.int x.1), some (.int x.2.1)], [.int x.2.1], am_T0 x.2.2) rfl rfl ?_
  refine am_Rn.op _ (17, [some (.ref 3), w1, some (.int l2), some (.int l3), some (.int x.1), some (.int x.2.1)], [.int 6, .int x.2.1], am_T0 x.2.2) rfl rfl ?_
  refine am_Rn.op _ (if 6 < x.2.1 then 90 else 20, [some (.ref 3), w1, some (.int l2), some (.int l3), some (.int x.1), some (.int x.2.1)], [], am_T0 x.2.2) rfl rfl ?_
  rcases l2_i h with ⟨hc, h⟩ | ⟨hc, h⟩
  · refine am_Rn.ifT hc ?_
    cases h
    exact hz _
  · refine am_Rn.ifF hc ?_
    refine am_Rn.op _ (22, [some (.ref 3), w1, some (.int l2), some (.int l3), some (.int x.1), some (.int x.2.1)], [.int x.1], am_T0 x.2.2) rfl rfl ?_
    refine am_Rn.op _ (23, [some (.ref 3), w1, some (.int l2), some (.int l3), some (.int x.1), some (.int x.2.1)], [.int (-1), .int x.1], am_T0 x.2.2) rfl rfl ?_
    refine am_Rn.op _ (if x.1 = (-1) then 90 else 26, [some (.ref 3), w1, some (.int l2), some (.int l3), some (.int x.1), some (.int x.2.1)], [], am_T0 x.2.2) rfl rfl ?_
    rcases l2_i h with ⟨hc, h⟩ | ⟨hc, h⟩
    · refine am_Rn.ifT hc ?_
      cases h
      exact hz _
    · refine am_Rn.ifF hc ?_
      refine am_Rn.op _ (27, [some (.ref 3), w1, some (.int l2), some (.int l3), some (.int x.1), some (.int x.2.1)], [.ref 3], am_T0 x.2.2) rfl rfl ?_
      refine am_Rn.op _ (30, [some (.ref 3), w1, some (.int l2), some (.int l3), some (.int x.1), some (.int x.2.1)], [.ref (TA (x.2.2.2 9))], am_T0 x.2.2) rfl rfl ?_
      refine am_Rn.op _ (32, [some (.ref 3), w1, some (.int l2), some (.int l3), some (.int x.1), some (.int x.2.1)], [.int x.1, .ref (TA (x.2.2.2 9))], am_T0 x.2.2) rfl rfl ?_
      obtain ⟨q2, hq2, h⟩ := l2_b h
      refine am_Rn.cl _ (some (.int q2.1)) (am_T0 q2.2) rfl (o_clv rfl rfl rfl (l2_isO (x.2.2.2 9) x.2.2)) (rfX5_kindAt (d + 1) N (x.2.2.2 9) x.1 x.2.2 q2 hq2) ?_
      show am_Rn _ _ _ _ (35, [some (.ref 3), w1, some (.int l2), some (.int l3), some (.int x.1), some (.int x.2.1)], [.int q2.1], am_T0 q2.2)
      refine am_Rn.op _ (36, [some (.ref 3), w1, some (.int l2), some (.int l3), some (.int x.1), some (.int x.2.1)], [.int (-1), .int q2.1], am_T0 q2.2) rfl rfl ?_
      refine am_Rn.op _ (if q2.1 = (-1) then 90 else 39, [some (.ref 3), w1, some (.int l2), some (.int l3), some (.int x.1), some (.int x.2.1)], [], am_T0 q2.2) rfl rfl ?_
      rcases l2_i h with ⟨hc, h⟩ | ⟨hc, h⟩
      · refine am_Rn.ifT hc ?_
        cases h
        exact hz _
      · refine am_Rn.ifF hc ?_
        refine am_Rn.op _ (41, [some (.ref 3), w1, some (.int l2), some (.int l3), some (.int x.1), some (.int x.2.1)], [.int x.2.1], am_T0 q2.2) rfl rfl ?_
        refine am_Rn.op _ (43, [some (.ref 3), w1, some (.int l2), some (.int l3), some (.int x.1), some (.int x.2.1)], [.int 6, .int x.2.1], am_T0 q2.2) rfl rfl ?_
        refine am_Rn.op _ (if x.2.1 = 6 then 46 else 54, [some (.ref 3), w1, some (.int l2), some (.int l3), some (.int x.1), some (.int x.2.1)], [], am_T0 q2.2) rfl rfl ?_
        rcases l2_i h with ⟨hc, h⟩ | ⟨hc, h⟩
        · refine am_Rn.ifT hc ?_
          refine am_Rn.op _ (47, [some (.ref 3), w1, some (.int l2), some (.int l3), some (.int x.1), some (.int x.2.1)], [.ref 3], am_T0 q2.2) rfl rfl ?_
          refine am_Rn.op _ (48, [some (.ref 3), w1, some (.int l2), some (.int l3), some (.int x.1), some (.int x.2.1)], [.int 3, .ref 3], am_T0 q2.2) rfl rfl ?_
          refine am_Rn.op _ (50, [some (.ref 3), w1, some (.int l2), some (.int l3), some (.int x.1), some (.int x.2.1)], [.int x.1, .int 3, .ref 3], am_T0 q2.2) rfl rfl ?_
          obtain ⟨q3, hq3, h⟩ := l2_b h
          refine am_Rn.cl _ (some (.int q3.1)) (am_T0 q3.2) rfl rfl (rfX3_refuse (d + 2) N 3 x.1 q2.2 q3 hq3) ?_
          show am_Rn _ _ _ _ (53, [some (.ref 3), w1, some (.int l2), some (.int l3), some (.int x.1), some (.int x.2.1)], [.int q3.1], am_T0 q3.2)
          cases h
          exact am_Rn.rt2 _ rfl rfl hz
        · refine am_Rn.ifF hc ?_
          refine am_Rn.op _ (55, [some (.ref 3), w1, some (.int l2), some (.int l3), some (.int x.1), some (.int x.2.1)], [.ref 3], am_T0 q2.2) rfl rfl ?_
          refine am_Rn.op _ (58, [some (.ref 3), w1, some (.int l2), some (.int l3), some (.int x.1), some (.int x.2.1)], [.ref (TA (q2.2.2 9))], am_T0 q2.2) rfl rfl ?_
          refine am_Rn.op _ (60, [some (.ref 3), w1, some (.int l2), some (.int l3), some (.int x.1), some (.int x.2.1)], [.int x.1, .ref (TA (q2.2.2 9))], am_T0 q2.2) rfl rfl ?_
          obtain ⟨q4, hq4, h⟩ := l2_b h
          refine am_Rn.cl _ none (am_T0 q4) rfl (o_clv rfl rfl rfl (l2_isO (q2.2.2 9) q2.2)) (rfX5_addTaker (d + 2) N (q2.2.2 9) x.1 q2.2 q4 hq4) ?_
          show am_Rn _ _ _ _ (63, [some (.ref 3), w1, some (.int l2), some (.int l3), some (.int x.1), some (.int x.2.1)], [], am_T0 q4)
          refine am_Rn.op _ (64, [some (.ref 3), w1, some (.int l2), some (.int l3), some (.int x.1), some (.int x.2.1)], [.ref 3], am_T0 q4) rfl rfl ?_
          refine am_Rn.op _ (66, [some (.ref 3), w1, some (.int l2), some (.int l3), some (.int x.1), some (.int x.2.1)], [.int x.1, .ref 3], am_T0 q4) rfl rfl ?_
          refine am_Rn.op _ (67, [some (.ref 3), w1, some (.int l2), some (.int l3), some (.int x.1), some (.int x.2.1)], [.int 1, .int x.1, .ref 3], am_T0 q4) rfl rfl ?_
          refine am_Rn.op _ (68, [some (.ref 3), w1, some (.int l2), some (.int l3), some (.int x.1), some (.int x.2.1)], [.int (x.1 + 1), .ref 3], am_T0 q4) rfl rfl ?_
          refine am_Rn.op _ (69, [some (.ref 3), w1, some (.int l2), some (.int l3), some (.int x.1), some (.int x.2.1)], [.int l2, .int (x.1 + 1), .ref 3], am_T0 q4) rfl rfl ?_
          refine am_Rn.op _ (70, [some (.ref 3), w1, some (.int l2), some (.int l3), some (.int x.1), some (.int x.2.1)], [.int l3, .int l2, .int (x.1 + 1), .ref 3], am_T0 q4) rfl rfl ?_
          refine am_Rn.op _ (71, [some (.ref 3), w1, some (.int l2), some (.int l3), some (.int x.1), some (.int x.2.1)], [.ref 3, .int l3, .int l2, .int (x.1 + 1), .ref 3], am_T0 q4) rfl rfl ?_
          refine am_Rn.op _ (74, [some (.ref 3), w1, some (.int l2), some (.int l3), some (.int x.1), some (.int x.2.1)], [.ref (TA (q4.2 9)), .int l3, .int l2, .int (x.1 + 1), .ref 3], am_T0 q4) rfl rfl ?_
          refine am_Rn.op _ (76, [some (.ref 3), w1, some (.int l2), some (.int l3), some (.int x.1), some (.int x.2.1)], [.int x.1, .ref (TA (q4.2 9)), .int l3, .int l2, .int (x.1 + 1), .ref 3], am_T0 q4) rfl rfl ?_
          obtain ⟨q5, hq5, h⟩ := l2_b h
          refine am_Rn.cl _ (some (.int q5.1)) (am_T0 q5.2) rfl (o_clv rfl rfl rfl (l2_isO (q4.2 9) q4)) (rfX5_kindAt (d + 1) N (q4.2 9) x.1 q4 q5 hq5) ?_
          show am_Rn _ _ _ _ (79, [some (.ref 3), w1, some (.int l2), some (.int l3), some (.int x.1), some (.int x.2.1)], [.int q5.1, .int l3, .int l2, .int (x.1 + 1), .ref 3], am_T0 q5.2)
          obtain ⟨q6, hq6, h⟩ := l2_b h
          refine am_Rn.cl _ (some (.int q6.1)) (am_T0 q6.2) rfl rfl (hF 2 (x.1 + 1) l2 l3 q5.1 q5.2 q6 hq6) ?_
          show am_Rn _ _ _ _ (82, [some (.ref 3), w1, some (.int l2), some (.int l3), some (.int x.1), some (.int x.2.1)], [.int q6.1], am_T0 q6.2)
          refine am_Rn.op _ (84, [some (.ref 3), w1, some (.int l2), some (.int l3), some (.int q6.1), some (.int x.2.1)], [], am_T0 q6.2) rfl rfl ?_
          refine am_Rn.op _ (87, [some (.ref 3), w1, some (.int l2), some (.int l3), some (.int q6.1), some (.int (x.2.1 + 1))], [], am_T0 q6.2) rfl rfl ?_
          refine am_Rn.op _ (13, [some (.ref 3), w1, some (.int l2), some (.int l3), some (.int q6.1), some (.int (x.2.1 + 1))], [], am_T0 q6.2) rfl rfl ?_
          cases h
          exact hz _
theorem rfX3_readTaking_13 (F : Nat → Int32 → Int32 → Int32 → Int32 → St → Option (Int32 × St)) (d N : Nat) (hF : ∀ (s : Nat) (a b c e : Int32) (S : St) (z : Int32 × St), F s a b c e S = some z → l2_rd s (d + 3) a b c e S z) (res : Option Value × am_S) (l2 : Int32) (l3 : Int32) (x : Int32 × Int32 × St) (y : (Int32 × Int32 × St) ⊕ (Int32 × St)) (h : fX3_readTaking_13 F N l2 l3 x = some y) (hq : QfX3_readTaking_13 (d + 3) res l2 l3 y) : PfX3_readTaking_13 (d + 3) res l2 l3 x := whl_ind _ _ (fun x z => rbfX3_readTaking_13 F d N hF res l2 l3 x z) N x y h hq
def fX3_readTaking (F : Nat → Int32 → Int32 → Int32 → Int32 → St → Option (Int32 × St)) (N : Nat) (l1 : Int32) (l2 : Int32) (l3 : Int32) (S : St) : Option (Int32 × St) := (F 2 l1 l2 l3 (-1) S).bind (fun q7 => (fX3_readTaking_13 F N l2 l3 (q7.1, 0, q7.2)).bind (l2_s (fun y9 => (if y9.1 = (-1) then fX3_readTaking_122 F N y9.1 y9.2.1 y9.2.2 else (fX5_at N (y9.2.2.2 9) y9.1 y9.2.2).bind (fun q12 => (if q12.1 = 90 then (F 2 (y9.1 + 1) l2 l3 (-1) q12.2).bind (fun q13 => some (q13.1, q13.2)) else fX3_readTaking_122 F N y9.1 y9.2.1 q12.2)))) (fun y10 => some (y10.1, y10.2))))
set_option maxRecDepth 20000 in
theorem rfX3_readTaking (F : Nat → Int32 → Int32 → Int32 → Int32 → St → Option (Int32 × St)) (d N : Nat) (hF : ∀ (s : Nat) (a b c e : Int32) (S : St) (z : Int32 × St), F s a b c e S = some z → l2_rd s (d + 3) a b c e S z) (l1 : Int32) (l2 : Int32) (l3 : Int32) (S : St) (z : (Int32 × St)) (h : fX3_readTaking F N l1 l2 l3 S = some z) : am_C (d + 3 + 1) 40 [.ref 3, .int l1, .int l2, .int l3] (am_T0 S) (some (.int z.1), am_T0 z.2) := by
  unfold fX3_readTaking at h
  show am_Rn (am_C (d + 3)) (am_ct 40) (am_rk 40) (some (.int z.1), am_T0 z.2) (0, [some (.ref 3), some (.int l1), some (.int l2), some (.int l3), none, none], [], am_T0 S)
  refine am_Rn.op _ (1, [some (.ref 3), some (.int l1), some (.int l2), some (.int l3), none, none], [.ref 3], am_T0 S) rfl rfl ?_
  refine am_Rn.op _ (2, [some (.ref 3), some (.int l1), some (.int l2), some (.int l3), none, none], [.int l1, .ref 3], am_T0 S) rfl rfl ?_
  refine am_Rn.op _ (3, [some (.ref 3), some (.int l1), some (.int l2), some (.int l3), none, none], [.int l2, .int l1, .ref 3], am_T0 S) rfl rfl ?_
  refine am_Rn.op _ (4, [some (.ref 3), some (.int l1), some (.int l2), some (.int l3), none, none], [.int l3, .int l2, .int l1, .ref 3], am_T0 S) rfl rfl ?_
  refine am_Rn.op _ (5, [some (.ref 3), some (.int l1), some (.int l2), some (.int l3), none, none], [.int (-1), .int l3, .int l2, .int l1, .ref 3], am_T0 S) rfl rfl ?_
  obtain ⟨q7, hq7, h⟩ := l2_b h
  refine am_Rn.cl _ (some (.int q7.1)) (am_T0 q7.2) rfl rfl (hF 2 l1 l2 l3 (-1) S q7 hq7) ?_
  show am_Rn _ _ _ _ (8, [some (.ref 3), some (.int l1), some (.int l2), some (.int l3), none, none], [.int q7.1], am_T0 q7.2)
  refine am_Rn.op _ (10, [some (.ref 3), some (.int l1), some (.int l2), some (.int l3), some (.int q7.1), none], [], am_T0 q7.2) rfl rfl ?_
  refine am_Rn.op _ (11, [some (.ref 3), some (.int l1), some (.int l2), some (.int l3), some (.int q7.1), none], [.int 0], am_T0 q7.2) rfl rfl ?_
  refine am_Rn.op _ (13, [some (.ref 3), some (.int l1), some (.int l2), some (.int l3), some (.int q7.1), some (.int 0)], [], am_T0 q7.2) rfl rfl ?_
  obtain ⟨y8, hy8, h⟩ := l2_b h
  refine rfX3_readTaking_13 F d N hF _ l2 l3 (q7.1, 0, q7.2) y8 hy8 ?_ _
  rcases y8 with y9 | y10
  · intro w11
    show am_Rn _ _ _ _ (90, [some (.ref 3), w11, some (.int l2), some (.int l3), some (.int y9.1), some (.int y9.2.1)], [], am_T0 y9.2.2)
    refine am_Rn.op _ (92, [some (.ref 3), w11, some (.int l2), some (.int l3), some (.int y9.1), some (.int y9.2.1)], [.int y9.1], am_T0 y9.2.2) rfl rfl ?_
    refine am_Rn.op _ (93, [some (.ref 3), w11, some (.int l2), some (.int l3), some (.int y9.1), some (.int y9.2.1)], [.int (-1), .int y9.1], am_T0 y9.2.2) rfl rfl ?_
    refine am_Rn.op _ (if y9.1 = (-1) then 122 else 96, [some (.ref 3), w11, some (.int l2), some (.int l3), some (.int y9.1), some (.int y9.2.1)], [], am_T0 y9.2.2) rfl rfl ?_
    rcases l2_i h with ⟨hc, h⟩ | ⟨hc, h⟩
    · refine am_Rn.ifT hc ?_
      exact rfX3_readTaking_122 F d N hF y9.1 y9.2.1 y9.2.2 _ h _ _ _
    · refine am_Rn.ifF hc ?_
      refine am_Rn.op _ (97, [some (.ref 3), w11, some (.int l2), some (.int l3), some (.int y9.1), some (.int y9.2.1)], [.ref 3], am_T0 y9.2.2) rfl rfl ?_
      refine am_Rn.op _ (100, [some (.ref 3), w11, some (.int l2), some (.int l3), some (.int y9.1), some (.int y9.2.1)], [.ref (TA (y9.2.2.2 9))], am_T0 y9.2.2) rfl rfl ?_
      refine am_Rn.op _ (102, [some (.ref 3), w11, some (.int l2), some (.int l3), some (.int y9.1), some (.int y9.2.1)], [.int y9.1, .ref (TA (y9.2.2.2 9))], am_T0 y9.2.2) rfl rfl ?_
      obtain ⟨q12, hq12, h⟩ := l2_b h
      refine am_Rn.cl _ (some (.int q12.1)) (am_T0 q12.2) rfl (o_clv rfl rfl rfl (l2_isO (y9.2.2.2 9) y9.2.2)) (rfX5_at (d + 2) N (y9.2.2.2 9) y9.1 y9.2.2 q12 hq12) ?_
      show am_Rn _ _ _ _ (105, [some (.ref 3), w11, some (.int l2), some (.int l3), some (.int y9.1), some (.int y9.2.1)], [.int q12.1], am_T0 q12.2)
      refine am_Rn.op _ (107, [some (.ref 3), w11, some (.int l2), some (.int l3), some (.int y9.1), some (.int y9.2.1)], [.int 90, .int q12.1], am_T0 q12.2) rfl rfl ?_
      refine am_Rn.op _ (if q12.1 = 90 then 110 else 122, [some (.ref 3), w11, some (.int l2), some (.int l3), some (.int y9.1), some (.int y9.2.1)], [], am_T0 q12.2) rfl rfl ?_
      rcases l2_i h with ⟨hc, h⟩ | ⟨hc, h⟩
      · refine am_Rn.ifT hc ?_
        refine am_Rn.op _ (111, [some (.ref 3), w11, some (.int l2), some (.int l3), some (.int y9.1), some (.int y9.2.1)], [.ref 3], am_T0 q12.2) rfl rfl ?_
        refine am_Rn.op _ (113, [some (.ref 3), w11, some (.int l2), some (.int l3), some (.int y9.1), some (.int y9.2.1)], [.int y9.1, .ref 3], am_T0 q12.2) rfl rfl ?_
        refine am_Rn.op _ (114, [some (.ref 3), w11, some (.int l2), some (.int l3), some (.int y9.1), some (.int y9.2.1)], [.int 1, .int y9.1, .ref 3], am_T0 q12.2) rfl rfl ?_
        refine am_Rn.op _ (115, [some (.ref 3), w11, some (.int l2), some (.int l3), some (.int y9.1), some (.int y9.2.1)], [.int (y9.1 + 1), .ref 3], am_T0 q12.2) rfl rfl ?_
        refine am_Rn.op _ (116, [some (.ref 3), w11, some (.int l2), some (.int l3), some (.int y9.1), some (.int y9.2.1)], [.int l2, .int (y9.1 + 1), .ref 3], am_T0 q12.2) rfl rfl ?_
        refine am_Rn.op _ (117, [some (.ref 3), w11, some (.int l2), some (.int l3), some (.int y9.1), some (.int y9.2.1)], [.int l3, .int l2, .int (y9.1 + 1), .ref 3], am_T0 q12.2) rfl rfl ?_
        refine am_Rn.op _ (118, [some (.ref 3), w11, some (.int l2), some (.int l3), some (.int y9.1), some (.int y9.2.1)], [.int (-1), .int l3, .int l2, .int (y9.1 + 1), .ref 3], am_T0 q12.2) rfl rfl ?_
        obtain ⟨q13, hq13, h⟩ := l2_b h
        refine am_Rn.cl _ (some (.int q13.1)) (am_T0 q13.2) rfl rfl (hF 2 (y9.1 + 1) l2 l3 (-1) q12.2 q13 hq13) ?_
        show am_Rn _ _ _ _ (121, [some (.ref 3), w11, some (.int l2), some (.int l3), some (.int y9.1), some (.int y9.2.1)], [.int q13.1], am_T0 q13.2)
        cases h
        exact am_Rn.rt _ rfl rfl
      · refine am_Rn.ifF hc ?_
        exact rfX3_readTaking_122 F d N hF y9.1 y9.2.1 q12.2 _ h _ _ _
  · cases h
    exact rfl
def f_rd : Nat → Nat → Nat → Int32 → Int32 → Int32 → Int32 → St → Option (Int32 × St)
  | 0, _, _, _, _, _, _, _ => none
  | D + 1, N, s, a, b, c, e, S => match s with
    | 0 => fX3_readStatements (f_rd D N) N a b c S
    | 1 => fX3_readStatement (f_rd D N) N a b c S
    | 2 => fX3_readBlock (f_rd D N) N a b c e S
    | _ => fX3_readTaking (f_rd D N) N a b c S
theorem r_rd (d : Nat) : ∀ (D N s : Nat) (a b c e : Int32) (S : St) (z : Int32 × St), f_rd D N s a b c e S = some z → l2_rd s (d + D + 3) a b c e S z
  | 0, _, _, _, _, _, _, _, _, h => by cases h
  | D + 1, N, s, a, b, c, e, S, z, h => by
    have hF := fun s a b c e S z h => r_rd d D N s a b c e S z h
    match s, h with
    | 0, h => exact rfX3_readStatements (f_rd D N) (d + D) N hF a b c S z h
    | 1, h => exact rfX3_readStatement (f_rd D N) (d + D) N hF a b c S z h
    | 2, h => exact rfX3_readBlock (f_rd D N) (d + D) N hF a b c e S z h
    | s + 3, h => exact rfX3_readTaking (f_rd D N) (d + D) N hF a b c S z h
