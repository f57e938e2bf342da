-- X5_kindAt
def fX5_kindAt_21 (N : Nat) (s0 : Int32) (S : St) : Option (Int32 × St) := some (s0, S)
set_option maxRecDepth 20000 in
theorem rfX5_kindAt_21 (d N : Nat) (s0 : Int32) (S : St) (z : (Int32 × St)) (h : fX5_kindAt_21 N s0 S = some z) (w0 : Option Value) (w1 : Option Value) (w2 : Option Value) : am_Rn (am_C (d + 1)) (am_ct 50) (am_rk 50) (some (.int z.1), am_T0 z.2) (21, [w0, w1, w2], [.int s0], am_T0 S) := by
  unfold fX5_kindAt_21 at h
  cases h
  exact am_Rn.rt _ rfl rfl
def fX5_kindAt (N : Nat) (n0 : Nat) (l1 : Int32) (S : St) : Option (Int32 × St) := (fX5_at N n0 l1 S).bind (fun q1 => (fX7_isKind N (q1.1 - 65) q1.2).bind (fun q2 => (if q2.1 = 0 then fX5_kindAt_21 N (-1) q2.2 else fX5_kindAt_21 N (q1.1 - 65) q2.2)))
set_option maxRecDepth 20000 in
theorem rfX5_kindAt (d N : Nat) (n0 : Nat) (l1 : Int32) (S : St) (z : (Int32 × St)) (h : fX5_kindAt N n0 l1 S = some z) : am_C (d + 2) 50 [.ref (TA n0), .int l1] (am_T0 S) (some (.int z.1), am_T0 z.2) := by
  unfold fX5_kindAt at h
  show am_Rn (am_C (d + 1)) (am_ct 50) (am_rk 50) (some (.int z.1), am_T0 z.2) (0, [some (.ref (TA n0)), some (.int l1), none], [], am_T0 S)
  refine am_Rn.op _ (1, [some (.ref (TA n0)), some (.int l1), none], [.ref (TA n0)], am_T0 S) rfl rfl ?_
  refine am_Rn.op _ (2, [some (.ref (TA n0)), some (.int l1), none], [.int l1, .ref (TA n0)], am_T0 S) rfl rfl ?_
  obtain ⟨q1, hq1, h⟩ := l2_b h
  refine am_Rn.cl _ (some (.int q1.1)) (am_T0 q1.2) rfl (o_clv rfl rfl rfl (l2_isO n0 S)) (rfX5_at (d + 0) N n0 l1 S q1 hq1) ?_
  show am_Rn _ _ _ _ (5, [some (.ref (TA n0)), some (.int l1), none], [.int q1.1], am_T0 q1.2)
  refine am_Rn.op _ (7, [some (.ref (TA n0)), some (.int l1), none], [.int 65, .int q1.1], am_T0 q1.2) rfl rfl ?_
  refine am_Rn.op _ (8, [some (.ref (TA n0)), some (.int l1), none], [.int (q1.1 - 65)], am_T0 q1.2) rfl rfl ?_
  refine am_Rn.op _ (9, [some (.ref (TA n0)), some (.int l1), some (.int (q1.1 - 65))], [], am_T0 q1.2) rfl rfl ?_
  refine am_Rn.op _ (10, [some (.ref (TA n0)), some (.int l1), some (.int (q1.1 - 65))], [.int (q1.1 - 65)], am_T0 q1.2) rfl rfl ?_
  obtain ⟨q2, hq2, h⟩ := l2_b h
  refine am_Rn.cl _ (some (.int q2.1)) (am_T0 q2.2) rfl rfl (rfX7_isKind (d + 0) N (q1.1 - 65) q1.2 q2 hq2) ?_
  show am_Rn _ _ _ _ (13, [some (.ref (TA n0)), some (.int l1), some (.int (q1.1 - 65))], [.int q2.1], am_T0 q2.2)
  refine am_Rn.op _ (if q2.1 = 0 then 20 else 16, [some (.ref (TA n0)), some (.int l1), some (.int (q1.1 - 65))], [], am_T0 q2.2) rfl rfl ?_
  rcases l2_i h with ⟨hc, h⟩ | ⟨hc, h⟩
  · refine am_Rn.ifT hc ?_
    refine am_Rn.op _ (21, [some (.ref (TA n0)), some (.int l1), some (.int (q1.1 - 65))], [.int (-1)], am_T0 q2.2) rfl rfl ?_
    exact rfX5_kindAt_21 d N (-1) q2.2 _ h _ _ _
  · refine am_Rn.ifF hc ?_
    refine am_Rn.op _ (17, [some (.ref (TA n0)), some (.int l1), some (.int (q1.1 - 65))], [.int (q1.1 - 65)], am_T0 q2.2) rfl rfl ?_
    refine am_Rn.op _ (21, [some (.ref (TA n0)), some (.int l1), some (.int (q1.1 - 65))], [.int (q1.1 - 65)], am_T0 q2.2) rfl rfl ?_
    exact rfX5_kindAt_21 d N (q1.1 - 65) q2.2 _ h _ _ _
-- X5_takerOf
def PfX5_takerOf_5 (d : Nat) (res : Option Value × am_S) (n0 : Nat) (l2 : Int32) (x : Int32 × Int32 × St) : Prop := ∀ (w1 w5 : Option Value), am_Rn (am_C d) (am_ct 73) (am_rk 73) res (5, [some (.ref (TA n0)), w1, some (.int l2), some (.int x.1), some (.int x.2.1), w5], [], am_T0 x.2.2)
def QfX5_takerOf_5 (d : Nat) (res : Option Value × am_S) (n0 : Nat) (l2 : Int32) (y : (Int32 × St)) : Prop := res = (some (.int y.1), am_T0 y.2)
def bfX5_takerOf_5 (N : Nat) (n0 : Nat) (l2 : Int32) (x : Int32 × Int32 × St) : Option ((Int32 × Int32 × St) ⊕ ((Int32 × St))) := (if 6 ≤ x.2.1 then some (.inr ((-1), x.2.2)) else (fX5_kindAt N n0 x.1 x.2.2).bind (fun q1 => (if q1.1 = (-1) then some (.inr ((-1), q1.2)) else (fX5_blockAt N n0 (x.1 + 1) q1.2).bind (fun q2 => (fX5_kindAt N n0 x.1 q2.2).bind (fun q3 => (fX7_has N l2 q3.1 q3.2).bind (fun q4 => (if q4.1 = 0 then (fX5_closeOf N n0 q2.1 q4.2).bind (fun q5 => some (.inl ((q5.1 + 1), (x.2.1 + 1), q5.2))) else some (.inr (q2.1, q4.2)))))))))
def fX5_takerOf_5 (N : Nat) (n0 : Nat) (l2 : Int32) (x : Int32 × Int32 × St) : Option ((Int32 × St)) := whl N (bfX5_takerOf_5 N n0 l2 ) x
set_option maxRecDepth 20000 in
theorem rbfX5_takerOf_5 (d N : Nat) (res : Option Value × am_S) (n0 : Nat) (l2 : Int32) (x : Int32 × Int32 × St) (z : (Int32 × Int32 × St) ⊕ ((Int32 × St))) (h : bfX5_takerOf_5 N n0 l2 x = some z) (hz : Sum.elim (PfX5_takerOf_5 (d + 2) res n0 l2 ) (QfX5_takerOf_5 (d + 2) res n0 l2 ) z) : PfX5_takerOf_5 (d + 2) res n0 l2 x := by
  unfold bfX5_takerOf_5 at h
  show ∀ (w1 w5 : Option Value), am_Rn (am_C (d + 2)) (am_ct 73) (am_rk 73) res (5, [some (.ref (TA n0)), w1, some (.int l2), some (.int x.1), some (.int x.2.1), w5], [], am_T0 x.2.2)
  intro w1 w5
  refine am_Rn.op _ (7, [some (.ref (TA n0)), w1, some (.int l2), some (.int x.1), some (.int x.2.1), w5], [.int x.2.1], am_T0 x.2.2) rfl rfl ?_
  refine am_Rn.op _ (9, [some (.ref (TA n0)), w1, some (.int l2), some (.int x.1), some (.int x.2.1), w5], [.int 6, .int x.2.1], am_T0 x.2.2) rfl rfl ?_
  refine am_Rn.op _ (if 6 ≤ x.2.1 then 60 else 12, [some (.ref (TA n0)), w1, some (.int l2), some (.int x.1), some (.int x.2.1), w5], [], am_T0 x.2.2) rfl rfl ?_
  rcases l2_i h with ⟨hc, h⟩ | ⟨hc, h⟩
  · refine am_Rn.ifT hc ?_
    refine am_Rn.op _ (61, [some (.ref (TA n0)), w1, some (.int l2), some (.int x.1), some (.int x.2.1), w5], [.int (-1)], am_T0 x.2.2) rfl rfl ?_
    cases h
    exact am_Rn.rt2 _ rfl rfl hz
  · refine am_Rn.ifF hc ?_
    refine am_Rn.op _ (13, [some (.ref (TA n0)), w1, some (.int l2), some (.int x.1), some (.int x.2.1), w5], [.ref (TA n0)], am_T0 x.2.2) rfl rfl ?_
    refine am_Rn.op _ (14, [some (.ref (TA n0)), w1, some (.int l2), some (.int x.1), some (.int x.2.1), w5], [.int x.1, .ref (TA n0)], am_T0 x.2.2) rfl rfl ?_
    obtain ⟨q1, hq1, h⟩ := l2_b h
    refine am_Rn.cl _ (some (.int q1.1)) (am_T0 q1.2) rfl (o_clv rfl rfl rfl (l2_isO n0 x.2.2)) (rfX5_kindAt (d + 0) N n0 x.1 x.2.2 q1 hq1) ?_
    show am_Rn _ _ _ _ (17, [some (.ref (TA n0)), w1, some (.int l2), some (.int x.1), some (.int x.2.1), w5], [.int q1.1], am_T0 q1.2)
    refine am_Rn.op _ (18, [some (.ref (TA n0)), w1, some (.int l2), some (.int x.1), some (.int x.2.1), w5], [.int (-1), .int q1.1], am_T0 q1.2) rfl rfl ?_
    refine am_Rn.op _ (if q1.1 = (-1) then 60 else 21, [some (.ref (TA n0)), w1, some (.int l2), some (.int x.1), some (.int x.2.1), w5], [], am_T0 q1.2) rfl rfl ?_
    rcases l2_i h with ⟨hc, h⟩ | ⟨hc, h⟩
    · refine am_Rn.ifT hc ?_
      refine am_Rn.op _ (61, [some (.ref (TA n0)), w1, some (.int l2), some (.int x.1), some (.int x.2.1), w5], [.int (-1)], am_T0 q1.2) rfl rfl ?_
      cases h
      exact am_Rn.rt2 _ rfl rfl hz
    · refine am_Rn.ifF hc ?_
      refine am_Rn.op _ (22, [some (.ref (TA n0)), w1, some (.int l2), some (.int x.1), some (.int x.2.1), w5], [.ref (TA n0)], am_T0 q1.2) rfl rfl ?_
      refine am_Rn.op _ (23, [some (.ref (TA n0)), w1, some (.int l2), some (.int x.1), some (.int x.2.1), w5], [.int x.1, .ref (TA n0)], am_T0 q1.2) rfl rfl ?_
      refine am_Rn.op _ (24, [some (.ref (TA n0)), w1, some (.int l2), some (.int x.1), some (.int x.2.1), w5], [.int 1, .int x.1, .ref (TA n0)], am_T0 q1.2) rfl rfl ?_
      refine am_Rn.op _ (25, [some (.ref (TA n0)), w1, some (.int l2), some (.int x.1), some (.int x.2.1), w5], [.int (x.1 + 1), .ref (TA n0)], am_T0 q1.2) rfl rfl ?_
      obtain ⟨q2, hq2, h⟩ := l2_b h
      refine am_Rn.cl _ (some (.int q2.1)) (am_T0 q2.2) rfl (o_clv rfl rfl rfl (l2_isO n0 q1.2)) (rfX5_blockAt (d + 0) N n0 (x.1 + 1) q1.2 q2 hq2) ?_
      show am_Rn _ _ _ _ (28, [some (.ref (TA n0)), w1, some (.int l2), some (.int x.1), some (.int x.2.1), w5], [.int q2.1], am_T0 q2.2)
      refine am_Rn.op _ (30, [some (.ref (TA n0)), w1, some (.int l2), some (.int x.1), some (.int x.2.1), some (.int q2.1)], [], am_T0 q2.2) rfl rfl ?_
      refine am_Rn.op _ (31, [some (.ref (TA n0)), w1, some (.int l2), some (.int x.1), some (.int x.2.1), some (.int q2.1)], [.int l2], am_T0 q2.2) rfl rfl ?_
      refine am_Rn.op _ (32, [some (.ref (TA n0)), w1, some (.int l2), some (.int x.1), some (.int x.2.1), some (.int q2.1)], [.ref (TA n0), .int l2], am_T0 q2.2) rfl rfl ?_
      refine am_Rn.op _ (33, [some (.ref (TA n0)), w1, some (.int l2), some (.int x.1), some (.int x.2.1), some (.int q2.1)], [.int x.1, .ref (TA n0), .int l2], am_T0 q2.2) rfl rfl ?_
      obtain ⟨q3, hq3, h⟩ := l2_b h
      refine am_Rn.cl _ (some (.int q3.1)) (am_T0 q3.2) rfl (o_clv rfl rfl rfl (l2_isO n0 q2.2)) (rfX5_kindAt (d + 0) N n0 x.1 q2.2 q3 hq3) ?_
      show am_Rn _ _ _ _ (36, [some (.ref (TA n0)), w1, some (.int l2), some (.int x.1), some (.int x.2.1), some (.int q2.1)], [.int q3.1, .int l2], am_T0 q3.2)
      obtain ⟨q4, hq4, h⟩ := l2_b h
      refine am_Rn.cl _ (some (.int q4.1)) (am_T0 q4.2) rfl rfl (rfX7_has (d + 1) N l2 q3.1 q3.2 q4 hq4) ?_
      show am_Rn _ _ _ _ (39, [some (.ref (TA n0)), w1, some (.int l2), some (.int x.1), some (.int x.2.1), some (.int q2.1)], [.int q4.1], am_T0 q4.2)
      refine am_Rn.op _ (if q4.1 = 0 then 45 else 42, [some (.ref (TA n0)), w1, some (.int l2), some (.int x.1), some (.int x.2.1), some (.int q2.1)], [], am_T0 q4.2) rfl rfl ?_
      rcases l2_i h with ⟨hc, h⟩ | ⟨hc, h⟩
      · refine am_Rn.ifT hc ?_
        refine am_Rn.op _ (46, [some (.ref (TA n0)), w1, some (.int l2), some (.int x.1), some (.int x.2.1), some (.int q2.1)], [.ref (TA n0)], am_T0 q4.2) rfl rfl ?_
        refine am_Rn.op _ (48, [some (.ref (TA n0)), w1, some (.int l2), some (.int x.1), some (.int x.2.1), some (.int q2.1)], [.int q2.1, .ref (TA n0)], am_T0 q4.2) rfl rfl ?_
        obtain ⟨q5, hq5, h⟩ := l2_b h
        refine am_Rn.cl _ (some (.int q5.1)) (am_T0 q5.2) rfl (o_clv rfl rfl rfl (l2_isO n0 q4.2)) (rfX5_closeOf (d + 0) N n0 q2.1 q4.2 q5 hq5) ?_
        show am_Rn _ _ _ _ (51, [some (.ref (TA n0)), w1, some (.int l2), some (.int x.1), some (.int x.2.1), some (.int q2.1)], [.int q5.1], am_T0 q5.2)
        refine am_Rn.op _ (52, [some (.ref (TA n0)), w1, some (.int l2), some (.int x.1), some (.int x.2.1), some (.int q2.1)], [.int 1, .int q5.1], am_T0 q5.2) rfl rfl ?_
        refine am_Rn.op _ (53, [some (.ref (TA n0)), w1, some (.int l2), some (.int x.1), some (.int x.2.1), some (.int q2.1)], [.int (q5.1 + 1)], am_T0 q5.2) rfl rfl ?_
        refine am_Rn.op _ (54, [some (.ref (TA n0)), w1, some (.int l2), some (.int (q5.1 + 1)), some (.int x.2.1), some (.int q2.1)], [], am_T0 q5.2) rfl rfl ?_
        refine am_Rn.op _ (57, [some (.ref (TA n0)), w1, some (.int l2), some (.int (q5.1 + 1)), some (.int (x.2.1 + 1)), some (.int q2.1)], [], am_T0 q5.2) rfl rfl ?_
        refine am_Rn.op _ (5, [some (.ref (TA n0)), w1, some (.int l2), some (.int (q5.1 + 1)), some (.int (x.2.1 + 1)), some (.int q2.1)], [], am_T0 q5.2) rfl rfl ?_
        cases h
        exact hz _ _
      · refine am_Rn.ifF hc ?_
        refine am_Rn.op _ (44, [some (.ref (TA n0)), w1, some (.int l2), some (.int x.1), some (.int x.2.1), some (.int q2.1)], [.int q2.1], am_T0 q4.2) rfl rfl ?_
        cases h
        exact am_Rn.rt2 _ rfl rfl hz
theorem rfX5_takerOf_5 (d N : Nat) (res : Option Value × am_S) (n0 : Nat) (l2 : Int32) (x : Int32 × Int32 × St) (y : (Int32 × St)) (h : fX5_takerOf_5 N n0 l2 x = some y) (hq : QfX5_takerOf_5 (d + 2) res n0 l2 y) : PfX5_takerOf_5 (d + 2) res n0 l2 x := whl_ind _ _ (fun x z => rbfX5_takerOf_5 d N res n0 l2 x z) N x y h hq
def fX5_takerOf (N : Nat) (n0 : Nat) (l1 : Int32) (l2 : Int32) (S : St) : Option (Int32 × St) := (fX5_takerOf_5 N n0 l2 (l1, 0, S)).bind (fun y6 => some (y6.1, y6.2))
set_option maxRecDepth 20000 in
theorem rfX5_takerOf (d N : Nat) (n0 : Nat) (l1 : Int32) (l2 : Int32) (S : St) (z : (Int32 × St)) (h : fX5_takerOf N n0 l1 l2 S = some z) : am_C (d + 3) 73 [.ref (TA n0), .int l1, .int l2] (am_T0 S) (some (.int z.1), am_T0 z.2) := by
  unfold fX5_takerOf at h
  show am_Rn (am_C (d + 2)) (am_ct 73) (am_rk 73) (some (.int z.1), am_T0 z.2) (0, [some (.ref (TA n0)), some (.int l1), some (.int l2), none, none, none], [], am_T0 S)
  refine am_Rn.op _ (1, [some (.ref (TA n0)), some (.int l1), some (.int l2), none, none, none], [.int l1], am_T0 S) rfl rfl ?_
  refine am_Rn.op _ (2, [some (.ref (TA n0)), some (.int l1), some (.int l2), some (.int l1), none, none], [], am_T0 S) rfl rfl ?_
  refine am_Rn.op _ (3, [some (.ref (TA n0)), some (.int l1), some (.int l2), some (.int l1), none, none], [.int 0], am_T0 S) rfl rfl ?_
  refine am_Rn.op _ (5, [some (.ref (TA n0)), some (.int l1), some (.int l2), some (.int l1), some (.int 0), none], [], am_T0 S) rfl rfl ?_
  obtain ⟨y6, hy6, h⟩ := l2_b h
  refine rfX5_takerOf_5 d N _ n0 l2 (l1, 0, S) y6 hy6 ?_ _ _
  cases h
  exact rfl
-- X5_behindTakers
def PfX5_behindTakers_4 (d : Nat) (res : Option Value × am_S) (n0 : Nat) (x : Int32 × Int32 × St) : Prop := ∀ (w1 : Option Value), am_Rn (am_C d) (am_ct 74) (am_rk 74) res (4, [some (.ref (TA n0)), w1, some (.int x.1), some (.int x.2.1)], [], am_T0 x.2.2)
def QfX5_behindTakers_4 (d : Nat) (res : Option Value × am_S) (n0 : Nat) (y : (Int32 × St)) : Prop := res = (some (.int y.1), am_T0 y.2)
def bfX5_behindTakers_4 (N : Nat) (n0 : Nat) (x : Int32 × Int32 × St) : Option ((Int32 × Int32 × St) ⊕ ((Int32 × St))) := (if 6 ≤ x.2.1 then some (.inr (x.1, x.2.2)) else (fX5_kindAt N n0 x.1 x.2.2).bind (fun q1 => (if q1.1 = (-1) then some (.inr (x.1, q1.2)) else (fX5_blockAt N n0 (x.1 + 1) q1.2).bind (fun q2 => (fX5_closeOf N n0 q2.1 q2.2).bind (fun q3 => some (.inl ((q3.1 + 1), (x.2.1 + 1), q3.2)))))))
def fX5_behindTakers_4 (N : Nat) (n0 : Nat) (x : Int32 × Int32 × St) : Option ((Int32 × St)) := whl N (bfX5_behindTakers_4 N n0 ) x
set_option maxRecDepth 20000 in
theorem rbfX5_behindTakers_4 (d N : Nat) (res : Option Value × am_S) (n0 : Nat) (x : Int32 × Int32 × St) (z : (Int32 × Int32 × St) ⊕ ((Int32 × St))) (h : bfX5_behindTakers_4 N n0 x = some z) (hz : Sum.elim (PfX5_behindTakers_4 (d + 2) res n0 ) (QfX5_behindTakers_4 (d + 2) res n0 ) z) : PfX5_behindTakers_4 (d + 2) res n0 x := by
  unfold bfX5_behindTakers_4 at h
  show ∀ (w1 : Option Value), am_Rn (am_C (d + 2)) (am_ct 74) (am_rk 74) res (4, [some (.ref (TA n0)), w1, some (.int x.1), some (.int x.2.1)], [], am_T0 x.2.2)
  intro w1
  refine am_Rn.op _ (5, [some (.ref (TA n0)), w1, some (.int x.1), some (.int x.2.1)], [.int x.2.1], am_T0 x.2.2) rfl rfl ?_
  refine am_Rn.op _ (7, [some (.ref (TA n0)), w1, some (.int x.1), some (.int x.2.1)], [.int 6, .int x.2.1], am_T0 x.2.2) rfl rfl ?_
  refine am_Rn.op _ (if 6 ≤ x.2.1 then 39 else 10, [some (.ref (TA n0)), w1, some (.int x.1), some (.int x.2.1)], [], am_T0 x.2.2) rfl rfl ?_
  rcases l2_i h with ⟨hc, h⟩ | ⟨hc, h⟩
  · refine am_Rn.ifT hc ?_
    refine am_Rn.op _ (40, [some (.ref (TA n0)), w1, some (.int x.1), some (.int x.2.1)], [.int x.1], am_T0 x.2.2) rfl rfl ?_
    cases h
    exact am_Rn.rt2 _ rfl rfl hz
  · refine am_Rn.ifF hc ?_
    refine am_Rn.op _ (11, [some (.ref (TA n0)), w1, some (.int x.1), some (.int x.2.1)], [.ref (TA n0)], am_T0 x.2.2) rfl rfl ?_
    refine am_Rn.op _ (12, [some (.ref (TA n0)), w1, some (.int x.1), some (.int x.2.1)], [.int x.1, .ref (TA n0)], am_T0 x.2.2) rfl rfl ?_
    obtain ⟨q1, hq1, h⟩ := l2_b h
    refine am_Rn.cl _ (some (.int q1.1)) (am_T0 q1.2) rfl (o_clv rfl rfl rfl (l2_isO n0 x.2.2)) (rfX5_kindAt (d + 0) N n0 x.1 x.2.2 q1 hq1) ?_
    show am_Rn _ _ _ _ (15, [some (.ref (TA n0)), w1, some (.int x.1), some (.int x.2.1)], [.int q1.1], am_T0 q1.2)
    refine am_Rn.op _ (16, [some (.ref (TA n0)), w1, some (.int x.1), some (.int x.2.1)], [.int (-1), .int q1.1], am_T0 q1.2) rfl rfl ?_
    refine am_Rn.op _ (if q1.1 = (-1) then 39 else 19, [some (.ref (TA n0)), w1, some (.int x.1), some (.int x.2.1)], [], am_T0 q1.2) rfl rfl ?_
    rcases l2_i h with ⟨hc, h⟩ | ⟨hc, h⟩
    · refine am_Rn.ifT hc ?_
      refine am_Rn.op _ (40, [some (.ref (TA n0)), w1, some (.int x.1), some (.int x.2.1)], [.int x.1], am_T0 q1.2) rfl rfl ?_
      cases h
      exact am_Rn.rt2 _ rfl rfl hz
    · refine am_Rn.ifF hc ?_
      refine am_Rn.op _ (20, [some (.ref (TA n0)), w1, some (.int x.1), some (.int x.2.1)], [.ref (TA n0)], am_T0 q1.2) rfl rfl ?_
      refine am_Rn.op _ (21, [some (.ref (TA n0)), w1, some (.int x.1), some (.int x.2.1)], [.ref (TA n0), .ref (TA n0)], am_T0 q1.2) rfl rfl ?_
      refine am_Rn.op _ (22, [some (.ref (TA n0)), w1, some (.int x.1), some (.int x.2.1)], [.int x.1, .ref (TA n0), .ref (TA n0)], am_T0 q1.2) rfl rfl ?_
      refine am_Rn.op _ (23, [some (.ref (TA n0)), w1, some (.int x.1), some (.int x.2.1)], [.int 1, .int x.1, .ref (TA n0), .ref (TA n0)], am_T0 q1.2) rfl rfl ?_
      refine am_Rn.op _ (24, [some (.ref (TA n0)), w1, some (.int x.1), some (.int x.2.1)], [.int (x.1 + 1), .ref (TA n0), .ref (TA n0)], am_T0 q1.2) rfl rfl ?_
      obtain ⟨q2, hq2, h⟩ := l2_b h
      refine am_Rn.cl _ (some (.int q2.1)) (am_T0 q2.2) rfl (o_clv rfl rfl rfl (l2_isO n0 q1.2)) (rfX5_blockAt (d + 0) N n0 (x.1 + 1) q1.2 q2 hq2) ?_
      show am_Rn _ _ _ _ (27, [some (.ref (TA n0)), w1, some (.int x.1), some (.int x.2.1)], [.int q2.1, .ref (TA n0)], am_T0 q2.2)
      obtain ⟨q3, hq3, h⟩ := l2_b h
      refine am_Rn.cl _ (some (.int q3.1)) (am_T0 q3.2) rfl (o_clv rfl rfl rfl (l2_isO n0 q2.2)) (rfX5_closeOf (d + 0) N n0 q2.1 q2.2 q3 hq3) ?_
      show am_Rn _ _ _ _ (30, [some (.ref (TA n0)), w1, some (.int x.1), some (.int x.2.1)], [.int q3.1], am_T0 q3.2)
      refine am_Rn.op _ (31, [some (.ref (TA n0)), w1, some (.int x.1), some (.int x.2.1)], [.int 1, .int q3.1], am_T0 q3.2) rfl rfl ?_
      refine am_Rn.op _ (32, [some (.ref (TA n0)), w1, some (.int x.1), some (.int x.2.1)], [.int (q3.1 + 1)], am_T0 q3.2) rfl rfl ?_
      refine am_Rn.op _ (33, [some (.ref (TA n0)), w1, some (.int (q3.1 + 1)), some (.int x.2.1)], [], am_T0 q3.2) rfl rfl ?_
      refine am_Rn.op _ (36, [some (.ref (TA n0)), w1, some (.int (q3.1 + 1)), some (.int (x.2.1 + 1))], [], am_T0 q3.2) rfl rfl ?_
      refine am_Rn.op _ (4, [some (.ref (TA n0)), w1, some (.int (q3.1 + 1)), some (.int (x.2.1 + 1))], [], am_T0 q3.2) rfl rfl ?_
      cases h
      exact hz _
theorem rfX5_behindTakers_4 (d N : Nat) (res : Option Value × am_S) (n0 : Nat) (x : Int32 × Int32 × St) (y : (Int32 × St)) (h : fX5_behindTakers_4 N n0 x = some y) (hq : QfX5_behindTakers_4 (d + 2) res n0 y) : PfX5_behindTakers_4 (d + 2) res n0 x := whl_ind _ _ (fun x z => rbfX5_behindTakers_4 d N res n0 x z) N x y h hq
def fX5_behindTakers (N : Nat) (n0 : Nat) (l1 : Int32) (S : St) : Option (Int32 × St) := (fX5_behindTakers_4 N n0 (l1, 0, S)).bind (fun y4 => some (y4.1, y4.2))
set_option maxRecDepth 20000 in
theorem rfX5_behindTakers (d N : Nat) (n0 : Nat) (l1 : Int32) (S : St) (z : (Int32 × St)) (h : fX5_behindTakers N n0 l1 S = some z) : am_C (d + 3) 74 [.ref (TA n0), .int l1] (am_T0 S) (some (.int z.1), am_T0 z.2) := by
  unfold fX5_behindTakers at h
  show am_Rn (am_C (d + 2)) (am_ct 74) (am_rk 74) (some (.int z.1), am_T0 z.2) (0, [some (.ref (TA n0)), some (.int l1), none, none], [], am_T0 S)
  refine am_Rn.op _ (1, [some (.ref (TA n0)), some (.int l1), none, none], [.int l1], am_T0 S) rfl rfl ?_
  refine am_Rn.op _ (2, [some (.ref (TA n0)), some (.int l1), some (.int l1), none], [], am_T0 S) rfl rfl ?_
  refine am_Rn.op _ (3, [some (.ref (TA n0)), some (.int l1), some (.int l1), none], [.int 0], am_T0 S) rfl rfl ?_
  refine am_Rn.op _ (4, [some (.ref (TA n0)), some (.int l1), some (.int l1), some (.int 0)], [], am_T0 S) rfl rfl ?_
  obtain ⟨y4, hy4, h⟩ := l2_b h
  refine rfX5_behindTakers_4 d N _ n0 (l1, 0, S) y4 hy4 ?_ _
  cases h
  exact rfl
-- X2_end
def PfX2_end_3 (d : Nat) (res : Option Value × am_S) (l1 : Int32) (l2 : Int32) (l3 : Int32) (x : Int32 × St) : Prop := ∀ (w5 w6 : Option Value), am_Rn (am_C d) (am_ct 27) (am_rk 27) res (3, [some (.ref 20), some (.int l1), some (.int l2), some (.int l3), some (.int x.1), w5, w6], [], am_T0 x.2)
def QfX2_end_3 (d : Nat) (res : Option Value × am_S) (l1 : Int32) (l2 : Int32) (l3 : Int32) (y : St) : Prop := res = (none, am_T0 y)
def PfX2_end_32 (d : Nat) (res : Option Value × am_S) (l1 : Int32) (l2 : Int32) (l3 : Int32) (l4 : Int32) (l5 : Int32) (x : Int32 × St) : Prop := am_Rn (am_C d) (am_ct 27) (am_rk 27) res (32, [some (.ref 20), some (.int l1), some (.int l2), some (.int l3), some (.int l4), some (.int l5), some (.int x.1)], [], am_T0 x.2)
def QfX2_end_32 (d : Nat) (res : Option Value × am_S) (l1 : Int32) (l2 : Int32) (l3 : Int32) (l4 : Int32) (l5 : Int32) (y : St) : Prop := ∀ (w5 w6 : Option Value), am_Rn (am_C d) (am_ct 27) (am_rk 27) res (69, [some (.ref 20), some (.int l1), some (.int l2), some (.int l3), some (.int l4), w5, w6], [], am_T0 y)
def bfX2_end_32 (N : Nat) (l1 : Int32) (l2 : Int32) (l3 : Int32) (l4 : Int32) (l5 : Int32) (x : Int32 × St) : Option ((Int32 × St) ⊕ (St)) := (if 4 ≤ x.1 then some (.inr (x.2)) else (fX2_cell N l1 l4 x.1 x.2).bind (fun q1 => (fX7_lower N 34 ((l5 * 4) + x.1) (l3 + q1.1) q1.2).bind (fun q2 => some (.inl ((x.1 + 1), q2)))))
def fX2_end_32 (N : Nat) (l1 : Int32) (l2 : Int32) (l3 : Int32) (l4 : Int32) (l5 : Int32) (x : Int32 × St) : Option (St) := whl N (bfX2_end_32 N l1 l2 l3 l4 l5 ) x
set_option maxRecDepth 20000 in
theorem rbfX2_end_32 (d N : Nat) (res : Option Value × am_S) (l1 : Int32) (l2 : Int32) (l3 : Int32) (l4 : Int32) (l5 : Int32) (x : Int32 × St) (z : (Int32 × St) ⊕ (St)) (h : bfX2_end_32 N l1 l2 l3 l4 l5 x = some z) (hz : Sum.elim (PfX2_end_32 (d + 1) res l1 l2 l3 l4 l5 ) (QfX2_end_32 (d + 1) res l1 l2 l3 l4 l5 ) z) : PfX2_end_32 (d + 1) res l1 l2 l3 l4 l5 x := by
  unfold bfX2_end_32 at h
  show am_Rn (am_C (d + 1)) (am_ct 27) (am_rk 27) res (32, [some (.ref 20), some (.int l1), some (.int l2), some (.int l3), some (.int l4), some (.int l5), some (.int x.1)], [], am_T0 x.2)
  refine am_Rn.op _ (34, [some (.ref 20), some (.int l1), some (.int l2), some (.int l3), some (.int l4), some (.int l5), some (.int x.1)], [.int x.1], am_T0 x.2) rfl rfl ?_
  refine am_Rn.op _ (35, [some (.ref 20), some (.int l1), some (.int l2), some (.int l3), some (.int l4), some (.int l5), some (.int x.1)], [.int 4, .int x.1], am_T0 x.2) rfl rfl ?_
  refine am_Rn.op _ (if 4 ≤ x.1 then 69 else 38, [some (.ref 20), some (.int l1), some (.int l2), some (.int l3), some (.int l4), some (.int l5), some (.int x.1)], [], am_T0 x.2) rfl rfl ?_
  rcases l2_i h with ⟨hc, h⟩ | ⟨hc, h⟩
  · refine am_Rn.ifT hc ?_
    cases h
    exact hz _ _
  · refine am_Rn.ifF hc ?_
    refine am_Rn.op _ (39, [some (.ref 20), some (.int l1), some (.int l2), some (.int l3), some (.int l4), some (.int l5), some (.int x.1)], [.ref 20], am_T0 x.2) rfl rfl ?_
    refine am_Rn.op _ (42, [some (.ref 20), some (.int l1), some (.int l2), some (.int l3), some (.int l4), some (.int l5), some (.int x.1)], [.ref 34], am_T0 x.2) rfl rfl ?_
    refine am_Rn.op _ (44, [some (.ref 20), some (.int l1), some (.int l2), some (.int l3), some (.int l4), some (.int l5), some (.int x.1)], [.int l5, .ref 34], am_T0 x.2) rfl rfl ?_
    refine am_Rn.op _ (45, [some (.ref 20), some (.int l1), some (.int l2), some (.int l3), some (.int l4), some (.int l5), some (.int x.1)], [.int 4, .int l5, .ref 34], am_T0 x.2) rfl rfl ?_
    refine am_Rn.op _ (46, [some (.ref 20), some (.int l1), some (.int l2), some (.int l3), some (.int l4), some (.int l5), some (.int x.1)], [.int (l5 * 4), .ref 34], am_T0 x.2) rfl rfl ?_
    refine am_Rn.op _ (48, [some (.ref 20), some (.int l1), some (.int l2), some (.int l3), some (.int l4), some (.int l5), some (.int x.1)], [.int x.1, .int (l5 * 4), .ref 34], am_T0 x.2) rfl rfl ?_
    refine am_Rn.op _ (49, [some (.ref 20), some (.int l1), some (.int l2), some (.int l3), some (.int l4), some (.int l5), some (.int x.1)], [.int ((l5 * 4) + x.1), .ref 34], am_T0 x.2) rfl rfl ?_
    refine am_Rn.op _ (50, [some (.ref 20), some (.int l1), some (.int l2), some (.int l3), some (.int l4), some (.int l5), some (.int x.1)], [.int l3, .int ((l5 * 4) + x.1), .ref 34], am_T0 x.2) rfl rfl ?_
    refine am_Rn.op _ (51, [some (.ref 20), some (.int l1), some (.int l2), some (.int l3), some (.int l4), some (.int l5), some (.int x.1)], [.ref 20, .int l3, .int ((l5 * 4) + x.1), .ref 34], am_T0 x.2) rfl rfl ?_
    refine am_Rn.op _ (52, [some (.ref 20), some (.int l1), some (.int l2), some (.int l3), some (.int l4), some (.int l5), some (.int x.1)], [.int l1, .ref 20, .int l3, .int ((l5 * 4) + x.1), .ref 34], am_T0 x.2) rfl rfl ?_
    refine am_Rn.op _ (54, [some (.ref 20), some (.int l1), some (.int l2), some (.int l3), some (.int l4), some (.int l5), some (.int x.1)], [.int l4, .int l1, .ref 20, .int l3, .int ((l5 * 4) + x.1), .ref 34], am_T0 x.2) rfl rfl ?_
    refine am_Rn.op _ (56, [some (.ref 20), some (.int l1), some (.int l2), some (.int l3), some (.int l4), some (.int l5), some (.int x.1)], [.int x.1, .int l4, .int l1, .ref 20, .int l3, .int ((l5 * 4) + x.1), .ref 34], am_T0 x.2) rfl rfl ?_
    obtain ⟨q1, hq1, h⟩ := l2_b h
    refine am_Rn.cl _ (some (.int q1.1)) (am_T0 q1.2) rfl rfl (rfX2_cell (d + 0) N l1 l4 x.1 x.2 q1 hq1) ?_
    show am_Rn _ _ _ _ (59, [some (.ref 20), some (.int l1), some (.int l2), some (.int l3), some (.int l4), some (.int l5), some (.int x.1)], [.int q1.1, .int l3, .int ((l5 * 4) + x.1), .ref 34], am_T0 q1.2)
    refine am_Rn.op _ (60, [some (.ref 20), some (.int l1), some (.int l2), some (.int l3), some (.int l4), some (.int l5), some (.int x.1)], [.int (l3 + q1.1), .int ((l5 * 4) + x.1), .ref 34], am_T0 q1.2) rfl rfl ?_
    obtain ⟨q2, hq2, h⟩ := l2_b h
    refine am_Rn.cl _ none (am_T0 q2) rfl rfl (rfX7_lower (d + 0) N 34 ((l5 * 4) + x.1) (l3 + q1.1) rfl q1.2 q2 hq2) ?_
    show am_Rn _ _ _ _ (63, [some (.ref 20), some (.int l1), some (.int l2), some (.int l3), some (.int l4), some (.int l5), some (.int x.1)], [], am_T0 q2)
    refine am_Rn.op _ (66, [some (.ref 20), some (.int l1), some (.int l2), some (.int l3), some (.int l4), some (.int l5), some (.int (x.1 + 1))], [], am_T0 q2) rfl rfl ?_
    refine am_Rn.op _ (32, [some (.ref 20), some (.int l1), some (.int l2), some (.int l3), some (.int l4), some (.int l5), some (.int (x.1 + 1))], [], am_T0 q2) rfl rfl ?_
    cases h
    exact hz 
theorem rfX2_end_32 (d N : Nat) (res : Option Value × am_S) (l1 : Int32) (l2 : Int32) (l3 : Int32) (l4 : Int32) (l5 : Int32) (x : Int32 × St) (y : St) (h : fX2_end_32 N l1 l2 l3 l4 l5 x = some y) (hq : QfX2_end_32 (d + 1) res l1 l2 l3 l4 l5 y) : PfX2_end_32 (d + 1) res l1 l2 l3 l4 l5 x := whl_ind _ _ (fun x z => rbfX2_end_32 d N res l1 l2 l3 l4 l5 x z) N x y h hq
def fX2_end_27 (N : Nat) (l1 : Int32) (l2 : Int32) (l3 : Int32) (l4 : Int32) (s0 : Int32) (S : St) : Option ((Int32 × St) ⊕ (St)) := (fX2_end_32 N l1 l2 l3 l4 s0 (0, S)).bind (fun y3 => some (.inl ((l4 + 1), y3)))
set_option maxRecDepth 20000 in
theorem rfX2_end_27 (d N : Nat) (res : Option Value × am_S) (l1 : Int32) (l2 : Int32) (l3 : Int32) (l4 : Int32) (s0 : Int32) (S : St) (z : (Int32 × St) ⊕ (St)) (h : fX2_end_27 N l1 l2 l3 l4 s0 S = some z) (hz : Sum.elim (PfX2_end_3 (d + 1) res l1 l2 l3 ) (QfX2_end_3 (d + 1) res l1 l2 l3 ) z) (w5 : Option Value) (w6 : Option Value) : am_Rn (am_C (d + 1)) (am_ct 27) (am_rk 27) res (27, [some (.ref 20), some (.int l1), some (.int l2), some (.int l3), some (.int l4), w5, w6], [.int s0], am_T0 S) := by
  unfold fX2_end_27 at h
  refine am_Rn.op _ (29, [some (.ref 20), some (.int l1), some (.int l2), some (.int l3), some (.int l4), some (.int s0), w6], [], am_T0 S) rfl rfl ?_
  refine am_Rn.op _ (30, [some (.ref 20), some (.int l1), some (.int l2), some (.int l3), some (.int l4), some (.int s0), w6], [.int 0], am_T0 S) rfl rfl ?_
  refine am_Rn.op _ (32, [some (.ref 20), some (.int l1), some (.int l2), some (.int l3), some (.int l4), some (.int s0), some (.int 0)], [], am_T0 S) rfl rfl ?_
  obtain ⟨y3, hy3, h⟩ := l2_b h
  refine rfX2_end_32 d N _ l1 l2 l3 l4 s0 (0, S) y3 hy3 ?_ 
  intro w4 w5
  show am_Rn _ _ _ _ (69, [some (.ref 20), some (.int l1), some (.int l2), some (.int l3), some (.int l4), w4, w5], [], am_T0 y3)
  refine am_Rn.op _ (72, [some (.ref 20), some (.int l1), some (.int l2), some (.int l3), some (.int (l4 + 1)), w4, w5], [], am_T0 y3) rfl rfl ?_
  refine am_Rn.op _ (3, [some (.ref 20), some (.int l1), some (.int l2), some (.int l3), some (.int (l4 + 1)), w4, w5], [], am_T0 y3) rfl rfl ?_
  cases h
  exact hz _ _
def bfX2_end_3 (N : Nat) (l1 : Int32) (l2 : Int32) (l3 : Int32) (x : Int32 × St) : Option ((Int32 × St) ⊕ (St)) := (if 8 ≤ x.1 then some (.inr x.2) else (if 1000000 ≤ l3 then some (.inr x.2) else (if x.1 = 0 then fX2_end_27 N l1 l2 l3 x.1 l2 x.2 else fX2_end_27 N l1 l2 l3 x.1 x.1 x.2)))
def fX2_end_3 (N : Nat) (l1 : Int32) (l2 : Int32) (l3 : Int32) (x : Int32 × St) : Option (St) := whl N (bfX2_end_3 N l1 l2 l3 ) x
set_option maxRecDepth 20000 in
theorem rbfX2_end_3 (d N : Nat) (res : Option Value × am_S) (l1 : Int32) (l2 : Int32) (l3 : Int32) (x : Int32 × St) (z : (Int32 × St) ⊕ (St)) (h : bfX2_end_3 N l1 l2 l3 x = some z) (hz : Sum.elim (PfX2_end_3 (d + 1) res l1 l2 l3 ) (QfX2_end_3 (d + 1) res l1 l2 l3 ) z) : PfX2_end_3 (d + 1) res l1 l2 l3 x := by
  unfold bfX2_end_3 at h
  show ∀ (w5 w6 : Option Value), am_Rn (am_C (d + 1)) (am_ct 27) (am_rk 27) res (3, [some (.ref 20), some (.int l1), some (.int l2), some (.int l3), some (.int x.1), w5, w6], [], am_T0 x.2)
  intro w5 w6
  refine am_Rn.op _ (5, [some (.ref 20), some (.int l1), some (.int l2), some (.int l3), some (.int x.1), w5, w6], [.int x.1], am_T0 x.2) rfl rfl ?_
  refine am_Rn.op _ (7, [some (.ref 20), some (.int l1), some (.int l2), some (.int l3), some (.int x.1), w5, w6], [.int 8, .int x.1], am_T0 x.2) rfl rfl ?_
  refine am_Rn.op _ (if 8 ≤ x.1 then 75 else 10, [some (.ref 20), some (.int l1), some (.int l2), some (.int l3), some (.int x.1), w5, w6], [], am_T0 x.2) rfl rfl ?_
  rcases l2_i h with ⟨hc, h⟩ | ⟨hc, h⟩
  · refine am_Rn.ifT hc ?_
    cases h
    exact am_Rn.rt2 _ rfl rfl hz
  · refine am_Rn.ifF hc ?_
    refine am_Rn.op _ (11, [some (.ref 20), some (.int l1), some (.int l2), some (.int l3), some (.int x.1), w5, w6], [.int l3], am_T0 x.2) rfl rfl ?_
    refine am_Rn.op _ (13, [some (.ref 20), some (.int l1), some (.int l2), some (.int l3), some (.int x.1), w5, w6], [.int 1000000, .int l3], am_T0 x.2) rfl rfl ?_
    refine am_Rn.op _ (if 1000000 ≤ l3 then 75 else 16, [some (.ref 20), some (.int l1), some (.int l2), some (.int l3), some (.int x.1), w5, w6], [], am_T0 x.2) rfl rfl ?_
    rcases l2_i h with ⟨hc, h⟩ | ⟨hc, h⟩
    · refine am_Rn.ifT hc ?_
      cases h
      exact am_Rn.rt2 _ rfl rfl hz
    · refine am_Rn.ifF hc ?_
      refine am_Rn.op _ (18, [some (.ref 20), some (.int l1), some (.int l2), some (.int l3), some (.int x.1), w5, w6], [.int x.1], am_T0 x.2) rfl rfl ?_
      refine am_Rn.op _ (if x.1 = 0 then 21 else 25, [some (.ref 20), some (.int l1), some (.int l2), some (.int l3), some (.int x.1), w5, w6], [], am_T0 x.2) rfl rfl ?_
      rcases l2_i h with ⟨hc, h⟩ | ⟨hc, h⟩
      · refine am_Rn.ifT hc ?_
        refine am_Rn.op _ (22, [some (.ref 20), some (.int l1), some (.int l2), some (.int l3), some (.int x.1), w5, w6], [.int l2], am_T0 x.2) rfl rfl ?_
        refine am_Rn.op _ (27, [some (.ref 20), some (.int l1), some (.int l2), some (.int l3), some (.int x.1), w5, w6], [.int l2], am_T0 x.2) rfl rfl ?_
        exact rfX2_end_27 d N _ l1 l2 l3 x.1 l2 x.2 _ h hz _ _
      · refine am_Rn.ifF hc ?_
        refine am_Rn.op _ (27, [some (.ref 20), some (.int l1), some (.int l2), some (.int l3), some (.int x.1), w5, w6], [.int x.1], am_T0 x.2) rfl rfl ?_
        exact rfX2_end_27 d N _ l1 l2 l3 x.1 x.1 x.2 _ h hz _ _
theorem rfX2_end_3 (d N : Nat) (res : Option Value × am_S) (l1 : Int32) (l2 : Int32) (l3 : Int32) (x : Int32 × St) (y : St) (h : fX2_end_3 N l1 l2 l3 x = some y) (hq : QfX2_end_3 (d + 1) res l1 l2 l3 y) : PfX2_end_3 (d + 1) res l1 l2 l3 x := whl_ind _ _ (fun x z => rbfX2_end_3 d N res l1 l2 l3 x z) N x y h hq
def fX2_end (N : Nat) (l1 : Int32) (l2 : Int32) (l3 : Int32) (S : St) : Option St := (fX2_end_3 N l1 l2 l3 (0, S)).bind (fun y6 => some y6)
set_option maxRecDepth 20000 in
theorem rfX2_end (d N : Nat) (l1 : Int32) (l2 : Int32) (l3 : Int32) (S : St) (z : St) (h : fX2_end N l1 l2 l3 S = some z) : am_C (d + 2) 27 [.ref 20, .int l1, .int l2, .int l3] (am_T0 S) (none, am_T0 z) := by
  unfold fX2_end at h
  show am_Rn (am_C (d + 1)) (am_ct 27) (am_rk 27) (none, am_T0 z) (0, [some (.ref 20), some (.int l1), some (.int l2), some (.int l3), none, none, none], [], am_T0 S)
  refine am_Rn.op _ (1, [some (.ref 20), some (.int l1), some (.int l2), some (.int l3), none, none, none], [.int 0], am_T0 S) rfl rfl ?_
  refine am_Rn.op _ (3, [some (.ref 20), some (.int l1), some (.int l2), some (.int l3), some (.int 0), none, none], [], am_T0 S) rfl rfl ?_
  obtain ⟨y6, hy6, h⟩ := l2_b h
  refine rfX2_end_3 d N _ l1 l2 l3 (0, S) y6 hy6 ?_ _ _
  cases h
  exact rfl
-- X2_take
def PfX2_take_48 (d : Nat) (res : Option Value × am_S) (l2 : Int32) (l4 : Int32) (x : Int32 × St) : Prop := ∀ (w1 w3 w6 w7 w8 : Option Value), am_Rn (am_C d) (am_ct 26) (am_rk 26) res (48, [some (.ref 20), w1, some (.int l2), w3, some (.int l4), some (.int x.1), w6, w7, w8], [], am_T0 x.2)
def QfX2_take_48 (d : Nat) (res : Option Value × am_S) (l2 : Int32) (l4 : Int32) (y : St) : Prop := ∀ (w1 w3 w5 w6 w7 w8 : Option Value), am_Rn (am_C d) (am_ct 26) (am_rk 26) res (159, [some (.ref 20), w1, some (.int l2), w3, some (.int l4), w5, w6, w7, w8], [], am_T0 y)
def PfX2_take_80 (d : Nat) (res : Option Value × am_S) (l2 : Int32) (l4 : Int32) (l5 : Int32) (l6 : Int32) (x : Int32 × St) : Prop := ∀ (w1 w3 w8 : Option Value), am_Rn (am_C d) (am_ct 26) (am_rk 26) res (80, [some (.ref 20), w1, some (.int l2), w3, some (.int l4), some (.int l5), some (.int l6), some (.int x.1), w8], [], am_T0 x.2)
def QfX2_take_80 (d : Nat) (res : Option Value × am_S) (l2 : Int32) (l4 : Int32) (l5 : Int32) (l6 : Int32) (y : St) : Prop := ∀ (w1 w3 w6 w7 w8 : Option Value), am_Rn (am_C d) (am_ct 26) (am_rk 26) res (153, [some (.ref 20), w1, some (.int l2), w3, some (.int l4), some (.int l5), w6, w7, w8], [], am_T0 y)
def PfX2_take_220 (d : Nat) (res : Option Value × am_S) (l2 : Int32) (l6 : Int32) (x : Int32 × St) : Prop := ∀ (w1 w3 w4 w5 w8 : Option Value), am_Rn (am_C d) (am_ct 26) (am_rk 26) res (220, [some (.ref 20), w1, some (.int l2), w3, w4, w5, some (.int l6), some (.int x.1), w8], [], am_T0 x.2)
def QfX2_take_220 (d : Nat) (res : Option Value × am_S) (l2 : Int32) (l6 : Int32) (y : (Int32 × St)) : Prop := res = (some (.int y.1), am_T0 y.2)
def PfX2_take_230 (d : Nat) (res : Option Value × am_S) (l2 : Int32) (l6 : Int32) (l7 : Int32) (x : Int32 × St) : Prop := ∀ (w1 w3 w4 w5 : Option Value), am_Rn (am_C d) (am_ct 26) (am_rk 26) res (230, [some (.ref 20), w1, some (.int l2), w3, w4, w5, some (.int l6), some (.int l7), some (.int x.1)], [], am_T0 x.2)
def QfX2_take_230 (d : Nat) (res : Option Value × am_S) (l2 : Int32) (l6 : Int32) (l7 : Int32) (y : St) : Prop := ∀ (w1 w3 w4 w5 w8 : Option Value), am_Rn (am_C d) (am_ct 26) (am_rk 26) res (269, [some (.ref 20), w1, some (.int l2), w3, w4, w5, some (.int l6), some (.int l7), w8], [], am_T0 y)
def bfX2_take_230 (N : Nat) (l2 : Int32) (l6 : Int32) (l7 : Int32) (x : Int32 × St) : Option ((Int32 × St) ⊕ (St)) := (if 4 ≤ x.1 then some (.inr (x.2)) else (fX2_rowOf N l6 l2 x.1 x.2).bind (fun q1 => (if ((l7 * 4) + x.1) < 0 ∨ 32 ≤ Int32.toNatClampNeg ((l7 * 4) + x.1) then none else (fX2_end N q1.1 l7 (q1.2.1 35 (Int32.toNatClampNeg ((l7 * 4) + x.1))) q1.2).bind (fun q3 => some (.inl ((x.1 + 1), q3))))))
def fX2_take_230 (N : Nat) (l2 : Int32) (l6 : Int32) (l7 : Int32) (x : Int32 × St) : Option (St) := whl N (bfX2_take_230 N l2 l6 l7 ) x
set_option maxRecDepth 20000 in
theorem rbfX2_take_230 (d N : Nat) (res : Option Value × am_S) (l2 : Int32) (l6 : Int32) (l7 : Int32) (x : Int32 × St) (z : (Int32 × St) ⊕ (St)) (h : bfX2_take_230 N l2 l6 l7 x = some z) (hz : Sum.elim (PfX2_take_230 (d + 3) res l2 l6 l7 ) (QfX2_take_230 (d + 3) res l2 l6 l7 ) z) : PfX2_take_230 (d + 3) res l2 l6 l7 x := by
  unfold bfX2_take_230 at h
  show ∀ (w1 w3 w4 w5 : Option Value), am_Rn (am_C (d + 3)) (am_ct 26) (am_rk 26) res (230, [some (.ref 20), w1, some (.int l2), w3, w4, w5, some (.int l6), some (.int l7), some (.int x.1)], [], am_T0 x.2)
  intro w1 w3 w4 w5
  refine am_Rn.op _ (232, [some (.ref 20), w1, some (.int l2), w3, w4, w5, some (.int l6), some (.int l7), some (.int x.1)], [.int x.1], am_T0 x.2) rfl rfl ?_
  refine am_Rn.op _ (233, [some (.ref 20), w1, some (.int l2), w3, w4, w5, some (.int l6), some (.int l7), some (.int x.1)], [.int 4, .int x.1], am_T0 x.2) rfl rfl ?_
  refine am_Rn.op _ (if 4 ≤ x.1 then 269 else 236, [some (.ref 20), w1, some (.int l2), w3, w4, w5, some (.int l6), some (.int l7), some (.int x.1)], [], am_T0 x.2) rfl rfl ?_
  rcases l2_i h with ⟨hc, h⟩ | ⟨hc, h⟩
  · refine am_Rn.ifT hc ?_
    cases h
    exact hz _ _ _ _ _
  · refine am_Rn.ifF hc ?_
    refine am_Rn.op _ (237, [some (.ref 20), w1, some (.int l2), w3, w4, w5, some (.int l6), some (.int l7), some (.int x.1)], [.ref 20], am_T0 x.2) rfl rfl ?_
    refine am_Rn.op _ (238, [some (.ref 20), w1, some (.int l2), w3, w4, w5, some (.int l6), some (.int l7), some (.int x.1)], [.ref 20, .ref 20], am_T0 x.2) rfl rfl ?_
    refine am_Rn.op _ (240, [some (.ref 20), w1, some (.int l2), w3, w4, w5, some (.int l6), some (.int l7), some (.int x.1)], [.int l6, .ref 20, .ref 20], am_T0 x.2) rfl rfl ?_
    refine am_Rn.op _ (241, [some (.ref 20), w1, some (.int l2), w3, w4, w5, some (.int l6), some (.int l7), some (.int x.1)], [.int l2, .int l6, .ref 20, .ref 20], am_T0 x.2) rfl rfl ?_
    refine am_Rn.op _ (243, [some (.ref 20), w1, some (.int l2), w3, w4, w5, some (.int l6), some (.int l7), some (.int x.1)], [.int x.1, .int l2, .int l6, .ref 20, .ref 20], am_T0 x.2) rfl rfl ?_
    obtain ⟨q1, hq1, h⟩ := l2_b h
    refine am_Rn.cl _ (some (.int q1.1)) (am_T0 q1.2) rfl rfl (rfX2_rowOf (d + 1) N l6 l2 x.1 x.2 q1 hq1) ?_
    show am_Rn _ _ _ _ (246, [some (.ref 20), w1, some (.int l2), w3, w4, w5, some (.int l6), some (.int l7), some (.int x.1)], [.int q1.1, .ref 20], am_T0 q1.2)
    refine am_Rn.op _ (248, [some (.ref 20), w1, some (.int l2), w3, w4, w5, some (.int l6), some (.int l7), some (.int x.1)], [.int l7, .int q1.1, .ref 20], am_T0 q1.2) rfl rfl ?_
    refine am_Rn.op _ (249, [some (.ref 20), w1, some (.int l2), w3, w4, w5, some (.int l6), some (.int l7), some (.int x.1)], [.ref 20, .int l7, .int q1.1, .ref 20], am_T0 q1.2) rfl rfl ?_
    refine am_Rn.op _ (252, [some (.ref 20), w1, some (.int l2), w3, w4, w5, some (.int l6), some (.int l7), some (.int x.1)], [.ref 35, .int l7, .int q1.1, .ref 20], am_T0 q1.2) rfl rfl ?_
    refine am_Rn.op _ (254, [some (.ref 20), w1, some (.int l2), w3, w4, w5, some (.int l6), some (.int l7), some (.int x.1)], [.int l7, .ref 35, .int l7, .int q1.1, .ref 20], am_T0 q1.2) rfl rfl ?_
    refine am_Rn.op _ (255, [some (.ref 20), w1, some (.int l2), w3, w4, w5, some (.int l6), some (.int l7), some (.int x.1)], [.int 4, .int l7, .ref 35, .int l7, .int q1.1, .ref 20], am_T0 q1.2) rfl rfl ?_
    refine am_Rn.op _ (256, [some (.ref 20), w1, some (.int l2), w3, w4, w5, some (.int l6), some (.int l7), some (.int x.1)], [.int (l7 * 4), .ref 35, .int l7, .int q1.1, .ref 20], am_T0 q1.2) rfl rfl ?_
    refine am_Rn.op _ (258, [some (.ref 20), w1, some (.int l2), w3, w4, w5, some (.int l6), some (.int l7), some (.int x.1)], [.int x.1, .int (l7 * 4), .ref 35, .int l7, .int q1.1, .ref 20], am_T0 q1.2) rfl rfl ?_
    refine am_Rn.op _ (259, [some (.ref 20), w1, some (.int l2), w3, w4, w5, some (.int l6), some (.int l7), some (.int x.1)], [.int ((l7 * 4) + x.1), .ref 35, .int l7, .int q1.1, .ref 20], am_T0 q1.2) rfl rfl ?_
    obtain ⟨hb2, h⟩ := l2_n h
    refine am_Rn.iald (n := 32) rfl rfl hb2 ?_
    show am_Rn _ _ _ _ (260, [some (.ref 20), w1, some (.int l2), w3, w4, w5, some (.int l6), some (.int l7), some (.int x.1)], [.int (q1.2.1 35 (Int32.toNatClampNeg ((l7 * 4) + x.1))), .int l7, .int q1.1, .ref 20], am_T0 q1.2)
    obtain ⟨q3, hq3, h⟩ := l2_b h
    refine am_Rn.cl _ none (am_T0 q3) rfl rfl (rfX2_end (d + 1) N q1.1 l7 (q1.2.1 35 (Int32.toNatClampNeg ((l7 * 4) + x.1))) q1.2 q3 hq3) ?_
    show am_Rn _ _ _ _ (263, [some (.ref 20), w1, some (.int l2), w3, w4, w5, some (.int l6), some (.int l7), some (.int x.1)], [], am_T0 q3)
    refine am_Rn.op _ (266, [some (.ref 20), w1, some (.int l2), w3, w4, w5, some (.int l6), some (.int l7), some (.int (x.1 + 1))], [], am_T0 q3) rfl rfl ?_
    refine am_Rn.op _ (230, [some (.ref 20), w1, some (.int l2), w3, w4, w5, some (.int l6), some (.int l7), some (.int (x.1 + 1))], [], am_T0 q3) rfl rfl ?_
    cases h
    exact hz _ _ _ _
theorem rfX2_take_230 (d N : Nat) (res : Option Value × am_S) (l2 : Int32) (l6 : Int32) (l7 : Int32) (x : Int32 × St) (y : St) (h : fX2_take_230 N l2 l6 l7 x = some y) (hq : QfX2_take_230 (d + 3) res l2 l6 l7 y) : PfX2_take_230 (d + 3) res l2 l6 l7 x := whl_ind _ _ (fun x z => rbfX2_take_230 d N res l2 l6 l7 x z) N x y h hq
def bfX2_take_220 (N : Nat) (l2 : Int32) (l6 : Int32) (x : Int32 × St) : Option ((Int32 × St) ⊕ ((Int32 × St))) := (if 8 ≤ x.1 then (fX2_goOn N 34 x.2).bind (fun q4 => (fX5_closeOf N (q4.2 10) l6 q4).bind (fun q5 => some (.inr ((q5.1 + 1), q5.2)))) else (fX2_take_230 N l2 l6 x.1 (0, x.2)).bind (fun y6 => some (.inl ((x.1 + 1), y6))))
def fX2_take_220 (N : Nat) (l2 : Int32) (l6 : Int32) (x : Int32 × St) : Option ((Int32 × St)) := whl N (bfX2_take_220 N l2 l6 ) x
set_option maxRecDepth 20000 in
theorem rbfX2_take_220 (d N : Nat) (res : Option Value × am_S) (l2 : Int32) (l6 : Int32) (x : Int32 × St) (z : (Int32 × St) ⊕ ((Int32 × St))) (h : bfX2_take_220 N l2 l6 x = some z) (hz : Sum.elim (PfX2_take_220 (d + 3) res l2 l6 ) (QfX2_take_220 (d + 3) res l2 l6 ) z) : PfX2_take_220 (d + 3) res l2 l6 x := by
  unfold bfX2_take_220 at h
  show ∀ (w1 w3 w4 w5 w8 : Option Value), am_Rn (am_C (d + 3)) (am_ct 26) (am_rk 26) res (220, [some (.ref 20), w1, some (.int l2), w3, w4, w5, some (.int l6), some (.int x.1), w8], [], am_T0 x.2)
  intro w1 w3 w4 w5 w8
  refine am_Rn.op _ (222, [some (.ref 20), w1, some (.int l2), w3, w4, w5, some (.int l6), some (.int x.1), w8], [.int x.1], am_T0 x.2) rfl rfl ?_
  refine am_Rn.op _ (224, [some (.ref 20), w1, some (.int l2), w3, w4, w5, some (.int l6), some (.int x.1), w8], [.int 8, .int x.1], am_T0 x.2) rfl rfl ?_
  refine am_Rn.op _ (if 8 ≤ x.1 then 275 else 227, [some (.ref 20), w1, some (.int l2), w3, w4, w5, some (.int l6), some (.int x.1), w8], [], am_T0 x.2) rfl rfl ?_
  rcases l2_i h with ⟨hc, h⟩ | ⟨hc, h⟩
  · refine am_Rn.ifT hc ?_
    refine am_Rn.op _ (276, [some (.ref 20), w1, some (.int l2), w3, w4, w5, some (.int l6), some (.int x.1), w8], [.ref 20], am_T0 x.2) rfl rfl ?_
    refine am_Rn.op _ (277, [some (.ref 20), w1, some (.int l2), w3, w4, w5, some (.int l6), some (.int x.1), w8], [.ref 20, .ref 20], am_T0 x.2) rfl rfl ?_
    refine am_Rn.op _ (280, [some (.ref 20), w1, some (.int l2), w3, w4, w5, some (.int l6), some (.int x.1), w8], [.ref 34, .ref 20], am_T0 x.2) rfl rfl ?_
    obtain ⟨q4, hq4, h⟩ := l2_b h
    refine am_Rn.cl _ none (am_T0 q4) rfl rfl (rfX2_goOn (d + 1) N 34 rfl x.2 q4 hq4) ?_
    show am_Rn _ _ _ _ (283, [some (.ref 20), w1, some (.int l2), w3, w4, w5, some (.int l6), some (.int x.1), w8], [], am_T0 q4)
    refine am_Rn.op _ (284, [some (.ref 20), w1, some (.int l2), w3, w4, w5, some (.int l6), some (.int x.1), w8], [.ref 20], am_T0 q4) rfl rfl ?_
    refine am_Rn.op _ (287, [some (.ref 20), w1, some (.int l2), w3, w4, w5, some (.int l6), some (.int x.1), w8], [.ref (TA (q4.2 10))], am_T0 q4) rfl rfl ?_
    refine am_Rn.op _ (289, [some (.ref 20), w1, some (.int l2), w3, w4, w5, some (.int l6), some (.int x.1), w8], [.int l6, .ref (TA (q4.2 10))], am_T0 q4) rfl rfl ?_
    obtain ⟨q5, hq5, h⟩ := l2_b h
    refine am_Rn.cl _ (some (.int q5.1)) (am_T0 q5.2) rfl (o_clv rfl rfl rfl (l2_isO (q4.2 10) q4)) (rfX5_closeOf (d + 1) N (q4.2 10) l6 q4 q5 hq5) ?_
    show am_Rn _ _ _ _ (292, [some (.ref 20), w1, some (.int l2), w3, w4, w5, some (.int l6), some (.int x.1), w8], [.int q5.1], am_T0 q5.2)
    refine am_Rn.op _ (293, [some (.ref 20), w1, some (.int l2), w3, w4, w5, some (.int l6), some (.int x.1), w8], [.int 1, .int q5.1], am_T0 q5.2) rfl rfl ?_
    refine am_Rn.op _ (294, [some (.ref 20), w1, some (.int l2), w3, w4, w5, some (.int l6), some (.int x.1), w8], [.int (q5.1 + 1)], am_T0 q5.2) rfl rfl ?_
    cases h
    exact am_Rn.rt2 _ rfl rfl hz
  · refine am_Rn.ifF hc ?_
    refine am_Rn.op _ (228, [some (.ref 20), w1, some (.int l2), w3, w4, w5, some (.int l6), some (.int x.1), w8], [.int 0], am_T0 x.2) rfl rfl ?_
    refine am_Rn.op _ (230, [some (.ref 20), w1, some (.int l2), w3, w4, w5, some (.int l6), some (.int x.1), some (.int 0)], [], am_T0 x.2) rfl rfl ?_
    obtain ⟨y6, hy6, h⟩ := l2_b h
    refine rfX2_take_230 d N _ l2 l6 x.1 (0, x.2) y6 hy6 ?_ _ _ _ _
    intro w7 w8 w9 w10 w11
    show am_Rn _ _ _ _ (269, [some (.ref 20), w7, some (.int l2), w8, w9, w10, some (.int l6), some (.int x.1), w11], [], am_T0 y6)
    refine am_Rn.op _ (272, [some (.ref 20), w7, some (.int l2), w8, w9, w10, some (.int l6), some (.int (x.1 + 1)), w11], [], am_T0 y6) rfl rfl ?_
    refine am_Rn.op _ (220, [some (.ref 20), w7, some (.int l2), w8, w9, w10, some (.int l6), some (.int (x.1 + 1)), w11], [], am_T0 y6) rfl rfl ?_
    cases h
    exact hz _ _ _ _ _
theorem rfX2_take_220 (d N : Nat) (res : Option Value × am_S) (l2 : Int32) (l6 : Int32) (x : Int32 × St) (y : (Int32 × St)) (h : fX2_take_220 N l2 l6 x = some y) (hq : QfX2_take_220 (d + 3) res l2 l6 y) : PfX2_take_220 (d + 3) res l2 l6 x := whl_ind _ _ (fun x z => rbfX2_take_220 d N res l2 l6 x z) N x y h hq
def fX2_take_147 (N : Nat) (l2 : Int32) (l4 : Int32) (l5 : Int32) (l6 : Int32) (l7 : Int32) (S : St) : Option ((Int32 × St) ⊕ (St)) := some (.inl ((l7 + 1), S))
set_option maxRecDepth 20000 in
theorem rfX2_take_147 (d N : Nat) (res : Option Value × am_S) (l2 : Int32) (l4 : Int32) (l5 : Int32) (l6 : Int32) (l7 : Int32) (S : St) (z : (Int32 × St) ⊕ (St)) (h : fX2_take_147 N l2 l4 l5 l6 l7 S = some z) (hz : Sum.elim (PfX2_take_80 (d + 3) res l2 l4 l5 l6 ) (QfX2_take_80 (d + 3) res l2 l4 l5 l6 ) z) (w1 : Option Value) (w3 : Option Value) (w8 : Option Value) : am_Rn (am_C (d + 3)) (am_ct 26) (am_rk 26) res (147, [some (.ref 20), w1, some (.int l2), w3, some (.int l4), some (.int l5), some (.int l6), some (.int l7), w8], [], am_T0 S) := by
  unfold fX2_take_147 at h
  refine am_Rn.op _ (150, [some (.ref 20), w1, some (.int l2), w3, some (.int l4), some (.int l5), some (.int l6), some (.int (l7 + 1)), w8], [], am_T0 S) rfl rfl ?_
  refine am_Rn.op _ (80, [some (.ref 20), w1, some (.int l2), w3, some (.int l4), some (.int l5), some (.int l6), some (.int (l7 + 1)), w8], [], am_T0 S) rfl rfl ?_
  cases h
  exact hz _ _ _
def bfX2_take_80 (N : Nat) (l2 : Int32) (l4 : Int32) (l5 : Int32) (l6 : Int32) (x : Int32 × St) : Option ((Int32 × St) ⊕ (St)) := (if 4 ≤ x.1 then some (.inr (x.2)) else (if l6 = (-1) then (if ((l5 * 4) + x.1) < 0 ∨ 32 ≤ Int32.toNatClampNeg ((l5 * 4) + x.1) then none else (fX7_lower N 35 ((l5 * 4) + x.1) (x.2.1 34 (Int32.toNatClampNeg ((l5 * 4) + x.1))) x.2).bind (fun q13 => fX2_take_147 N l2 l4 l5 l6 x.1 q13)) else (fX2_rowOf N l6 (l5 - 1) x.1 x.2).bind (fun q14 => (if ((l5 * 4) + x.1) < 0 ∨ 32 ≤ Int32.toNatClampNeg ((l5 * 4) + x.1) then none else (fX2_addRow N q14.1 (q14.2.1 34 (Int32.toNatClampNeg ((l5 * 4) + x.1))) 35 q14.2).bind (fun q16 => fX2_take_147 N l2 l4 l5 l6 x.1 q16)))))
def fX2_take_80 (N : Nat) (l2 : Int32) (l4 : Int32) (l5 : Int32) (l6 : Int32) (x : Int32 × St) : Option (St) := whl N (bfX2_take_80 N l2 l4 l5 l6 ) x
set_option maxRecDepth 20000 in
theorem rbfX2_take_80 (d N : Nat) (res : Option Value × am_S) (l2 : Int32) (l4 : Int32) (l5 : Int32) (l6 : Int32) (x : Int32 × St) (z : (Int32 × St) ⊕ (St)) (h : bfX2_take_80 N l2 l4 l5 l6 x = some z) (hz : Sum.elim (PfX2_take_80 (d + 3) res l2 l4 l5 l6 ) (QfX2_take_80 (d + 3) res l2 l4 l5 l6 ) z) : PfX2_take_80 (d + 3) res l2 l4 l5 l6 x := by
  unfold bfX2_take_80 at h
  show ∀ (w1 w3 w8 : Option Value), am_Rn (am_C (d + 3)) (am_ct 26) (am_rk 26) res (80, [some (.ref 20), w1, some (.int l2), w3, some (.int l4), some (.int l5), some (.int l6), some (.int x.1), w8], [], am_T0 x.2)
  intro w1 w3 w8
  refine am_Rn.op _ (82, [some (.ref 20), w1, some (.int l2), w3, some (.int l4), some (.int l5), some (.int l6), some (.int x.1), w8], [.int x.1], am_T0 x.2) rfl rfl ?_
  refine am_Rn.op _ (83, [some (.ref 20), w1, some (.int l2), w3, some (.int l4), some (.int l5), some (.int l6), some (.int x.1), w8], [.int 4, .int x.1], am_T0 x.2) rfl rfl ?_
  refine am_Rn.op _ (if 4 ≤ x.1 then 153 else 86, [some (.ref 20), w1, some (.int l2), w3, some (.int l4), some (.int l5), some (.int l6), some (.int x.1), w8], [], am_T0 x.2) rfl rfl ?_
  rcases l2_i h with ⟨hc, h⟩ | ⟨hc, h⟩
  · refine am_Rn.ifT hc ?_
    cases h
    exact hz _ _ _ _ _
  · refine am_Rn.ifF hc ?_
    refine am_Rn.op _ (88, [some (.ref 20), w1, some (.int l2), w3, some (.int l4), some (.int l5), some (.int l6), some (.int x.1), w8], [.int l5], am_T0 x.2) rfl rfl ?_
    refine am_Rn.op _ (89, [some (.ref 20), w1, some (.int l2), w3, some (.int l4), some (.int l5), some (.int l6), some (.int x.1), w8], [.int 4, .int l5], am_T0 x.2) rfl rfl ?_
    refine am_Rn.op _ (90, [some (.ref 20), w1, some (.int l2), w3, some (.int l4), some (.int l5), some (.int l6), some (.int x.1), w8], [.int (l5 * 4)], am_T0 x.2) rfl rfl ?_
    refine am_Rn.op _ (92, [some (.ref 20), w1, some (.int l2), w3, some (.int l4), some (.int l5), some (.int l6), some (.int x.1), w8], [.int x.1, .int (l5 * 4)], am_T0 x.2) rfl rfl ?_
    refine am_Rn.op _ (93, [some (.ref 20), w1, some (.int l2), w3, some (.int l4), some (.int l5), some (.int l6), some (.int x.1), w8], [.int ((l5 * 4) + x.1)], am_T0 x.2) rfl rfl ?_
    refine am_Rn.op _ (95, [some (.ref 20), w1, some (.int l2), w3, some (.int l4), some (.int l5), some (.int l6), some (.int x.1), some (.int ((l5 * 4) + x.1))], [], am_T0 x.2) rfl rfl ?_
    refine am_Rn.op _ (97, [some (.ref 20), w1, some (.int l2), w3, some (.int l4), some (.int l5), some (.int l6), some (.int x.1), some (.int ((l5 * 4) + x.1))], [.int l6], am_T0 x.2) rfl rfl ?_
    refine am_Rn.op _ (98, [some (.ref 20), w1, some (.int l2), w3, some (.int l4), some (.int l5), some (.int l6), some (.int x.1), some (.int ((l5 * 4) + x.1))], [.int (-1), .int l6], am_T0 x.2) rfl rfl ?_
    refine am_Rn.op _ (if l6 = (-1) then 101 else 120, [some (.ref 20), w1, some (.int l2), w3, some (.int l4), some (.int l5), some (.int l6), some (.int x.1), some (.int ((l5 * 4) + x.1))], [], am_T0 x.2) rfl rfl ?_
    rcases l2_i h with ⟨hc, h⟩ | ⟨hc, h⟩
    · refine am_Rn.ifT hc ?_
      refine am_Rn.op _ (102, [some (.ref 20), w1, some (.int l2), w3, some (.int l4), some (.int l5), some (.int l6), some (.int x.1), some (.int ((l5 * 4) + x.1))], [.ref 20], am_T0 x.2) rfl rfl ?_
      refine am_Rn.op _ (105, [some (.ref 20), w1, some (.int l2), w3, some (.int l4), some (.int l5), some (.int l6), some (.int x.1), some (.int ((l5 * 4) + x.1))], [.ref 35], am_T0 x.2) rfl rfl ?_
      refine am_Rn.op _ (107, [some (.ref 20), w1, some (.int l2), w3, some (.int l4), some (.int l5), some (.int l6), some (.int x.1), some (.int ((l5 * 4) + x.1))], [.int ((l5 * 4) + x.1), .ref 35], am_T0 x.2) rfl rfl ?_
      refine am_Rn.op _ (108, [some (.ref 20), w1, some (.int l2), w3, some (.int l4), some (.int l5), some (.int l6), some (.int x.1), some (.int ((l5 * 4) + x.1))], [.ref 20, .int ((l5 * 4) + x.1), .ref 35], am_T0 x.2) rfl rfl ?_
      refine am_Rn.op _ (111, [some (.ref 20), w1, some (.int l2), w3, some (.int l4), some (.int l5), some (.int l6), some (.int x.1), some (.int ((l5 * 4) + x.1))], [.ref 34, .int ((l5 * 4) + x.1), .ref 35], am_T0 x.2) rfl rfl ?_
      refine am_Rn.op _ (113, [some (.ref 20), w1, some (.int l2), w3, some (.int l4), some (.int l5), some (.int l6), some (.int x.1), some (.int ((l5 * 4) + x.1))], [.int ((l5 * 4) + x.1), .ref 34, .int ((l5 * 4) + x.1), .ref 35], am_T0 x.2) rfl rfl ?_
      obtain ⟨hb12, h⟩ := l2_n h
      refine am_Rn.iald (n := 32) rfl rfl hb12 ?_
      show am_Rn _ _ _ _ (114, [some (.ref 20), w1, some (.int l2), w3, some (.int l4), some (.int l5), some (.int l6), some (.int x.1), some (.int ((l5 * 4) + x.1))], [.int (x.2.1 34 (Int32.toNatClampNeg ((l5 * 4) + x.1))), .int ((l5 * 4) + x.1), .ref 35], am_T0 x.2)
      obtain ⟨q13, hq13, h⟩ := l2_b h
      refine am_Rn.cl _ none (am_T0 q13) rfl rfl (rfX7_lower (d + 2) N 35 ((l5 * 4) + x.1) (x.2.1 34 (Int32.toNatClampNeg ((l5 * 4) + x.1))) rfl x.2 q13 hq13) ?_
      show am_Rn _ _ _ _ (117, [some (.ref 20), w1, some (.int l2), w3, some (.int l4), some (.int l5), some (.int l6), some (.int x.1), some (.int ((l5 * 4) + x.1))], [], am_T0 q13)
      refine am_Rn.op _ (147, [some (.ref 20), w1, some (.int l2), w3, some (.int l4), some (.int l5), some (.int l6), some (.int x.1), some (.int ((l5 * 4) + x.1))], [], am_T0 q13) rfl rfl ?_
      exact rfX2_take_147 d N _ l2 l4 l5 l6 x.1 q13 _ h hz _ _ _
    · refine am_Rn.ifF hc ?_
      refine am_Rn.op _ (121, [some (.ref 20), w1, some (.int l2), w3, some (.int l4), some (.int l5), some (.int l6), some (.int x.1), some (.int ((l5 * 4) + x.1))], [.ref 20], am_T0 x.2) rfl rfl ?_
      refine am_Rn.op _ (122, [some (.ref 20), w1, some (.int l2), w3, some (.int l4), some (.int l5), some (.int l6), some (.int x.1), some (.int ((l5 * 4) + x.1))], [.ref 20, .ref 20], am_T0 x.2) rfl rfl ?_
      refine am_Rn.op _ (124, [some (.ref 20), w1, some (.int l2), w3, some (.int l4), some (.int l5), some (.int l6), some (.int x.1), some (.int ((l5 * 4) + x.1))], [.int l6, .ref 20, .ref 20], am_T0 x.2) rfl rfl ?_
      refine am_Rn.op _ (126, [some (.ref 20), w1, some (.int l2), w3, some (.int l4), some (.int l5), some (.int l6), some (.int x.1), some (.int ((l5 * 4) + x.1))], [.int l5, .int l6, .ref 20, .ref 20], am_T0 x.2) rfl rfl ?_
      refine am_Rn.op _ (127, [some (.ref 20), w1, some (.int l2), w3, some (.int l4), some (.int l5), some (.int l6), some (.int x.1), some (.int ((l5 * 4) + x.1))], [.int 1, .int l5, .int l6, .ref 20, .ref 20], am_T0 x.2) rfl rfl ?_
      refine am_Rn.op _ (128, [some (.ref 20), w1, some (.int l2), w3, some (.int l4), some (.int l5), some (.int l6), some (.int x.1), some (.int ((l5 * 4) + x.1))], [.int (l5 - 1), .int l6, .ref 20, .ref 20], am_T0 x.2) rfl rfl ?_
      refine am_Rn.op _ (130, [some (.ref 20), w1, some (.int l2), w3, some (.int l4), some (.int l5), some (.int l6), some (.int x.1), some (.int ((l5 * 4) + x.1))], [.int x.1, .int (l5 - 1), .int l6, .ref 20, .ref 20], am_T0 x.2) rfl rfl ?_
      obtain ⟨q14, hq14, h⟩ := l2_b h
      refine am_Rn.cl _ (some (.int q14.1)) (am_T0 q14.2) rfl rfl (rfX2_rowOf (d + 1) N l6 (l5 - 1) x.1 x.2 q14 hq14) ?_
      show am_Rn _ _ _ _ (133, [some (.ref 20), w1, some (.int l2), w3, some (.int l4), some (.int l5), some (.int l6), some (.int x.1), some (.int ((l5 * 4) + x.1))], [.int q14.1, .ref 20], am_T0 q14.2)
      refine am_Rn.op _ (134, [some (.ref 20), w1, some (.int l2), w3, some (.int l4), some (.int l5), some (.int l6), some (.int x.1), some (.int ((l5 * 4) + x.1))], [.ref 20, .int q14.1, .ref 20], am_T0 q14.2) rfl rfl ?_
      refine am_Rn.op _ (137, [some (.ref 20), w1, some (.int l2), w3, some (.int l4), some (.int l5), some (.int l6), some (.int x.1), some (.int ((l5 * 4) + x.1))], [.ref 34, .int q14.1, .ref 20], am_T0 q14.2) rfl rfl ?_
      refine am_Rn.op _ (139, [some (.ref 20), w1, some (.int l2), w3, some (.int l4), some (.int l5), some (.int l6), some (.int x.1), some (.int ((l5 * 4) + x.1))], [.int ((l5 * 4) + x.1), .ref 34, .int q14.1, .ref 20], am_T0 q14.2) rfl rfl ?_
      obtain ⟨hb15, h⟩ := l2_n h
      refine am_Rn.iald (n := 32) rfl rfl hb15 ?_
      show am_Rn _ _ _ _ (140, [some (.ref 20), w1, some (.int l2), w3, some (.int l4), some (.int l5), some (.int l6), some (.int x.1), some (.int ((l5 * 4) + x.1))], [.int (q14.2.1 34 (Int32.toNatClampNeg ((l5 * 4) + x.1))), .int q14.1, .ref 20], am_T0 q14.2)
      refine am_Rn.op _ (141, [some (.ref 20), w1, some (.int l2), w3, some (.int l4), some (.int l5), some (.int l6), some (.int x.1), some (.int ((l5 * 4) + x.1))], [.ref 20, .int (q14.2.1 34 (Int32.toNatClampNeg ((l5 * 4) + x.1))), .int q14.1, .ref 20], am_T0 q14.2) rfl rfl ?_
      refine am_Rn.op _ (144, [some (.ref 20), w1, some (.int l2), w3, some (.int l4), some (.int l5), some (.int l6), some (.int x.1), some (.int ((l5 * 4) + x.1))], [.ref 35, .int (q14.2.1 34 (Int32.toNatClampNeg ((l5 * 4) + x.1))), .int q14.1, .ref 20], am_T0 q14.2) rfl rfl ?_
      obtain ⟨q16, hq16, h⟩ := l2_b h
      refine am_Rn.cl _ none (am_T0 q16) rfl rfl (rfX2_addRow (d + 1) N q14.1 (q14.2.1 34 (Int32.toNatClampNeg ((l5 * 4) + x.1))) 35 rfl q14.2 q16 hq16) ?_
      show am_Rn _ _ _ _ (147, [some (.ref 20), w1, some (.int l2), w3, some (.int l4), some (.int l5), some (.int l6), some (.int x.1), some (.int ((l5 * 4) + x.1))], [], am_T0 q16)
      exact rfX2_take_147 d N _ l2 l4 l5 l6 x.1 q16 _ h hz _ _ _
theorem rfX2_take_80 (d N : Nat) (res : Option Value × am_S) (l2 : Int32) (l4 : Int32) (l5 : Int32) (l6 : Int32) (x : Int32 × St) (y : St) (h : fX2_take_80 N l2 l4 l5 l6 x = some y) (hq : QfX2_take_80 (d + 3) res l2 l4 l5 l6 y) : PfX2_take_80 (d + 3) res l2 l4 l5 l6 x := whl_ind _ _ (fun x z => rbfX2_take_80 d N res l2 l4 l5 l6 x z) N x y h hq
def bfX2_take_48 (N : Nat) (l2 : Int32) (l4 : Int32) (x : Int32 × St) : Option ((Int32 × St) ⊕ (St)) := (if 8 ≤ x.1 then some (.inr (x.2)) else (fX1_above N (x.1 - 1) x.2).bind (fun q17 => (fX5_takerOf N (x.2.2 10) l4 q17.1 q17.2).bind (fun q18 => (fX2_take_80 N l2 l4 x.1 q18.1 (0, q18.2)).bind (fun y19 => some (.inl ((x.1 + 1), y19))))))
def fX2_take_48 (N : Nat) (l2 : Int32) (l4 : Int32) (x : Int32 × St) : Option (St) := whl N (bfX2_take_48 N l2 l4 ) x
set_option maxRecDepth 20000 in
theorem rbfX2_take_48 (d N : Nat) (res : Option Value × am_S) (l2 : Int32) (l4 : Int32) (x : Int32 × St) (z : (Int32 × St) ⊕ (St)) (h : bfX2_take_48 N l2 l4 x = some z) (hz : Sum.elim (PfX2_take_48 (d + 3) res l2 l4 ) (QfX2_take_48 (d + 3) res l2 l4 ) z) : PfX2_take_48 (d + 3) res l2 l4 x := by
  unfold bfX2_take_48 at h
  show ∀ (w1 w3 w6 w7 w8 : Option Value), am_Rn (am_C (d + 3)) (am_ct 26) (am_rk 26) res (48, [some (.ref 20), w1, some (.int l2), w3, some (.int l4), some (.int x.1), w6, w7, w8], [], am_T0 x.2)
  intro w1 w3 w6 w7 w8
  refine am_Rn.op _ (50, [some (.ref 20), w1, some (.int l2), w3, some (.int l4), some (.int x.1), w6, w7, w8], [.int x.1], am_T0 x.2) rfl rfl ?_
  refine am_Rn.op _ (52, [some (.ref 20), w1, some (.int l2), w3, some (.int l4), some (.int x.1), w6, w7, w8], [.int 8, .int x.1], am_T0 x.2) rfl rfl ?_
  refine am_Rn.op _ (if 8 ≤ x.1 then 159 else 55, [some (.ref 20), w1, some (.int l2), w3, some (.int l4), some (.int x.1), w6, w7, w8], [], am_T0 x.2) rfl rfl ?_
  rcases l2_i h with ⟨hc, h⟩ | ⟨hc, h⟩
  · refine am_Rn.ifT hc ?_
    cases h
    exact hz _ _ _ _ _ _
  · refine am_Rn.ifF hc ?_
    refine am_Rn.op _ (56, [some (.ref 20), w1, some (.int l2), w3, some (.int l4), some (.int x.1), w6, w7, w8], [.ref 20], am_T0 x.2) rfl rfl ?_
    refine am_Rn.op _ (59, [some (.ref 20), w1, some (.int l2), w3, some (.int l4), some (.int x.1), w6, w7, w8], [.ref (TA (x.2.2 10))], am_T0 x.2) rfl rfl ?_
    refine am_Rn.op _ (61, [some (.ref 20), w1, some (.int l2), w3, some (.int l4), some (.int x.1), w6, w7, w8], [.int l4, .ref (TA (x.2.2 10))], am_T0 x.2) rfl rfl ?_
    refine am_Rn.op _ (62, [some (.ref 20), w1, some (.int l2), w3, some (.int l4), some (.int x.1), w6, w7, w8], [.ref 20, .int l4, .ref (TA (x.2.2 10))], am_T0 x.2) rfl rfl ?_
    refine am_Rn.op _ (65, [some (.ref 20), w1, some (.int l2), w3, some (.int l4), some (.int x.1), w6, w7, w8], [.ref 13, .int l4, .ref (TA (x.2.2 10))], am_T0 x.2) rfl rfl ?_
    refine am_Rn.op _ (67, [some (.ref 20), w1, some (.int l2), w3, some (.int l4), some (.int x.1), w6, w7, w8], [.int x.1, .ref 13, .int l4, .ref (TA (x.2.2 10))], am_T0 x.2) rfl rfl ?_
    refine am_Rn.op _ (68, [some (.ref 20), w1, some (.int l2), w3, some (.int l4), some (.int x.1), w6, w7, w8], [.int 1, .int x.1, .ref 13, .int l4, .ref (TA (x.2.2 10))], am_T0 x.2) rfl rfl ?_
    refine am_Rn.op _ (69, [some (.ref 20), w1, some (.int l2), w3, some (.int l4), some (.int x.1), w6, w7, w8], [.int (x.1 - 1), .ref 13, .int l4, .ref (TA (x.2.2 10))], am_T0 x.2) rfl rfl ?_
    obtain ⟨q17, hq17, h⟩ := l2_b h
    refine am_Rn.cl _ (some (.int q17.1)) (am_T0 q17.2) rfl rfl (rfX1_above (d + 1) N (x.1 - 1) x.2 q17 hq17) ?_
    show am_Rn _ _ _ _ (72, [some (.ref 20), w1, some (.int l2), w3, some (.int l4), some (.int x.1), w6, w7, w8], [.int q17.1, .int l4, .ref (TA (x.2.2 10))], am_T0 q17.2)
    obtain ⟨q18, hq18, h⟩ := l2_b h
    refine am_Rn.cl _ (some (.int q18.1)) (am_T0 q18.2) rfl (o_clv rfl rfl rfl (l2_isO (x.2.2 10) q17.2)) (rfX5_takerOf (d + 0) N (x.2.2 10) l4 q17.1 q17.2 q18 hq18) ?_
    show am_Rn _ _ _ _ (75, [some (.ref 20), w1, some (.int l2), w3, some (.int l4), some (.int x.1), w6, w7, w8], [.int q18.1], am_T0 q18.2)
    refine am_Rn.op _ (77, [some (.ref 20), w1, some (.int l2), w3, some (.int l4), some (.int x.1), some (.int q18.1), w7, w8], [], am_T0 q18.2) rfl rfl ?_
    refine am_Rn.op _ (78, [some (.ref 20), w1, some (.int l2), w3, some (.int l4), some (.int x.1), some (.int q18.1), w7, w8], [.int 0], am_T0 q18.2) rfl rfl ?_
    refine am_Rn.op _ (80, [some (.ref 20), w1, some (.int l2), w3, some (.int l4), some (.int x.1), some (.int q18.1), some (.int 0), w8], [], am_T0 q18.2) rfl rfl ?_
    obtain ⟨y19, hy19, h⟩ := l2_b h
    refine rfX2_take_80 d N _ l2 l4 x.1 q18.1 (0, q18.2) y19 hy19 ?_ _ _ _
    intro w20 w21 w22 w23 w24
    show am_Rn _ _ _ _ (153, [some (.ref 20), w20, some (.int l2), w21, some (.int l4), some (.int x.1), w22, w23, w24], [], am_T0 y19)
    refine am_Rn.op _ (156, [some (.ref 20), w20, some (.int l2), w21, some (.int l4), some (.int (x.1 + 1)), w22, w23, w24], [], am_T0 y19) rfl rfl ?_
    refine am_Rn.op _ (48, [some (.ref 20), w20, some (.int l2), w21, some (.int l4), some (.int (x.1 + 1)), w22, w23, w24], [], am_T0 y19) rfl rfl ?_
    cases h
    exact hz _ _ _ _ _
theorem rfX2_take_48 (d N : Nat) (res : Option Value × am_S) (l2 : Int32) (l4 : Int32) (x : Int32 × St) (y : St) (h : fX2_take_48 N l2 l4 x = some y) (hq : QfX2_take_48 (d + 3) res l2 l4 y) : PfX2_take_48 (d + 3) res l2 l4 x := whl_ind _ _ (fun x z => rbfX2_take_48 d N res l2 l4 x z) N x y h hq
def fX2_take (N : Nat) (l1 : Int32) (l2 : Int32) (S : St) : Option (Int32 × St) := (fX5_blockAt N (S.2 10) l1 S).bind (fun q25 => (fJ7_fill_53178 N 34 1000000 q25.2).bind (fun q26 => (fX2_enter N q25.1 l2 q26).bind (fun q27 => (fX5_closeOf N (q27.2 10) q25.1 q27).bind (fun q28 => (fJ7_fill_53178 N 35 1000000 q28.2).bind (fun q29 => (fX2_take_48 N l2 (q28.1 + 1) (0, q29)).bind (fun y30 => (fX5_behindTakers N (y30.2 10) (q28.1 + 1) y30).bind (fun q37 => (fX5_at N (q37.2.2 10) q37.1 q37.2).bind (fun q38 => (if q38.1 = 90 then (fX5_blockAt N (q38.2.2 10) (q37.1 + 1) q38.2).bind (fun q39 => (fJ7_fill_53178 N 34 1000000 q39.2).bind (fun q40 => (fX2_take_220 N l2 q39.1 (0, q40)).bind (fun y41 => some (y41.1, y41.2)))) else (fX2_goOn N 35 q38.2).bind (fun q42 => some (q37.1, q42)))))))))))
set_option maxRecDepth 20000 in
theorem rfX2_take (d N : Nat) (l1 : Int32) (l2 : Int32) (S : St) (z : (Int32 × St)) (h : fX2_take N l1 l2 S = some z) : am_C (d + 4) 26 [.ref 20, .int l1, .int l2] (am_T0 S) (some (.int z.1), am_T0 z.2) := by
  unfold fX2_take at h
  show am_Rn (am_C (d + 3)) (am_ct 26) (am_rk 26) (some (.int z.1), am_T0 z.2) (0, [some (.ref 20), some (.int l1), some (.int l2), none, none, none, none, none, none], [], am_T0 S)
  refine am_Rn.op _ (1, [some (.ref 20), some (.int l1), some (.int l2), none, none, none, none, none, none], [.ref 20], am_T0 S) rfl rfl ?_
  refine am_Rn.op _ (4, [some (.ref 20), some (.int l1), some (.int l2), none, none, none, none, none, none], [.ref (TA (S.2 10))], am_T0 S) rfl rfl ?_
  refine am_Rn.op _ (5, [some (.ref 20), some (.int l1), some (.int l2), none, none, none, none, none, none], [.int l1, .ref (TA (S.2 10))], am_T0 S) rfl rfl ?_
  obtain ⟨q25, hq25, h⟩ := l2_b h
  refine am_Rn.cl _ (some (.int q25.1)) (am_T0 q25.2) rfl (o_clv rfl rfl rfl (l2_isO (S.2 10) S)) (rfX5_blockAt (d + 1) N (S.2 10) l1 S q25 hq25) ?_
  show am_Rn _ _ _ _ (8, [some (.ref 20), some (.int l1), some (.int l2), none, none, none, none, none, none], [.int q25.1], am_T0 q25.2)
  refine am_Rn.op _ (9, [some (.ref 20), some (.int l1), some (.int l2), some (.int q25.1), none, none, none, none, none], [], am_T0 q25.2) rfl rfl ?_
  refine am_Rn.op _ (10, [some (.ref 20), some (.int l1), some (.int l2), some (.int q25.1), none, none, none, none, none], [.ref 20], am_T0 q25.2) rfl rfl ?_
  refine am_Rn.op _ (13, [some (.ref 20), some (.int l1), some (.int l2), some (.int q25.1), none, none, none, none, none], [.ref 34], am_T0 q25.2) rfl rfl ?_
  refine am_Rn.op _ (15, [some (.ref 20), some (.int l1), some (.int l2), some (.int q25.1), none, none, none, none, none], [.int 1000000, .ref 34], am_T0 q25.2) rfl rfl ?_
  obtain ⟨q26, hq26, h⟩ := l2_b h
  refine am_Rn.cl _ none (am_T0 q26) rfl rfl (rfJ7_fill_53178 (d + 2) N 34 1000000 rfl q25.2 q26 hq26) ?_
  show am_Rn _ _ _ _ (18, [some (.ref 20), some (.int l1), some (.int l2), some (.int q25.1), none, none, none, none, none], [], am_T0 q26)
  refine am_Rn.op _ (19, [some (.ref 20), some (.int l1), some (.int l2), some (.int q25.1), none, none, none, none, none], [.ref 20], am_T0 q26) rfl rfl ?_
  refine am_Rn.op _ (20, [some (.ref 20), some (.int l1), some (.int l2), some (.int q25.1), none, none, none, none, none], [.int q25.1, .ref 20], am_T0 q26) rfl rfl ?_
  refine am_Rn.op _ (21, [some (.ref 20), some (.int l1), some (.int l2), some (.int q25.1), none, none, none, none, none], [.int l2, .int q25.1, .ref 20], am_T0 q26) rfl rfl ?_
  obtain ⟨q27, hq27, h⟩ := l2_b h
  refine am_Rn.cl _ none (am_T0 q27) rfl rfl (rfX2_enter (d + 0) N q25.1 l2 q26 q27 hq27) ?_
  show am_Rn _ _ _ _ (24, [some (.ref 20), some (.int l1), some (.int l2), some (.int q25.1), none, none, none, none, none], [], am_T0 q27)
  refine am_Rn.op _ (25, [some (.ref 20), some (.int l1), some (.int l2), some (.int q25.1), none, none, none, none, none], [.ref 20], am_T0 q27) rfl rfl ?_
  refine am_Rn.op _ (28, [some (.ref 20), some (.int l1), some (.int l2), some (.int q25.1), none, none, none, none, none], [.ref (TA (q27.2 10))], am_T0 q27) rfl rfl ?_
  refine am_Rn.op _ (29, [some (.ref 20), some (.int l1), some (.int l2), some (.int q25.1), none, none, none, none, none], [.int q25.1, .ref (TA (q27.2 10))], am_T0 q27) rfl rfl ?_
  obtain ⟨q28, hq28, h⟩ := l2_b h
  refine am_Rn.cl _ (some (.int q28.1)) (am_T0 q28.2) rfl (o_clv rfl rfl rfl (l2_isO (q27.2 10) q27)) (rfX5_closeOf (d + 1) N (q27.2 10) q25.1 q27 q28 hq28) ?_
  show am_Rn _ _ _ _ (32, [some (.ref 20), some (.int l1), some (.int l2), some (.int q25.1), none, none, none, none, none], [.int q28.1], am_T0 q28.2)
  refine am_Rn.op _ (33, [some (.ref 20), some (.int l1), some (.int l2), some (.int q25.1), none, none, none, none, none], [.int 1, .int q28.1], am_T0 q28.2) rfl rfl ?_
  refine am_Rn.op _ (34, [some (.ref 20), some (.int l1), some (.int l2), some (.int q25.1), none, none, none, none, none], [.int (q28.1 + 1)], am_T0 q28.2) rfl rfl ?_
  refine am_Rn.op _ (36, [some (.ref 20), some (.int l1), some (.int l2), some (.int q25.1), some (.int (q28.1 + 1)), none, none, none, none], [], am_T0 q28.2) rfl rfl ?_
  refine am_Rn.op _ (37, [some (.ref 20), some (.int l1), some (.int l2), some (.int q25.1), some (.int (q28.1 + 1)), none, none, none, none], [.ref 20], am_T0 q28.2) rfl rfl ?_
  refine am_Rn.op _ (40, [some (.ref 20), some (.int l1), some (.int l2), some (.int q25.1), some (.int (q28.1 + 1)), none, none, none, none], [.ref 35], am_T0 q28.2) rfl rfl ?_
  refine am_Rn.op _ (42, [some (.ref 20), some (.int l1), some (.int l2), some (.int q25.1), some (.int (q28.1 + 1)), none, none, none, none], [.int 1000000, .ref 35], am_T0 q28.2) rfl rfl ?_
  obtain ⟨q29, hq29, h⟩ := l2_b h
  refine am_Rn.cl _ none (am_T0 q29) rfl rfl (rfJ7_fill_53178 (d + 2) N 35 1000000 rfl q28.2 q29 hq29) ?_
  show am_Rn _ _ _ _ (45, [some (.ref 20), some (.int l1), some (.int l2), some (.int q25.1), some (.int (q28.1 + 1)), none, none, none, none], [], am_T0 q29)
  refine am_Rn.op _ (46, [some (.ref 20), some (.int l1), some (.int l2), some (.int q25.1), some (.int (q28.1 + 1)), none, none, none, none], [.int 0], am_T0 q29) rfl rfl ?_
  refine am_Rn.op _ (48, [some (.ref 20), some (.int l1), some (.int l2), some (.int q25.1), some (.int (q28.1 + 1)), some (.int 0), none, none, none], [], am_T0 q29) rfl rfl ?_
  obtain ⟨y30, hy30, h⟩ := l2_b h
  refine rfX2_take_48 d N _ l2 (q28.1 + 1) (0, q29) y30 hy30 ?_ _ _ _ _ _
  intro w31 w32 w33 w34 w35 w36
  show am_Rn _ _ _ _ (159, [some (.ref 20), w31, some (.int l2), w32, some (.int (q28.1 + 1)), w33, w34, w35, w36], [], am_T0 y30)
  refine am_Rn.op _ (160, [some (.ref 20), w31, some (.int l2), w32, some (.int (q28.1 + 1)), w33, w34, w35, w36], [.ref 20], am_T0 y30) rfl rfl ?_
  refine am_Rn.op _ (163, [some (.ref 20), w31, some (.int l2), w32, some (.int (q28.1 + 1)), w33, w34, w35, w36], [.ref (TA (y30.2 10))], am_T0 y30) rfl rfl ?_
  refine am_Rn.op _ (165, [some (.ref 20), w31, some (.int l2), w32, some (.int (q28.1 + 1)), w33, w34, w35, w36], [.int (q28.1 + 1), .ref (TA (y30.2 10))], am_T0 y30) rfl rfl ?_
  obtain ⟨q37, hq37, h⟩ := l2_b h
  refine am_Rn.cl _ (some (.int q37.1)) (am_T0 q37.2) rfl (o_clv rfl rfl rfl (l2_isO (y30.2 10) y30)) (rfX5_behindTakers (d + 0) N (y30.2 10) (q28.1 + 1) y30 q37 hq37) ?_
  show am_Rn _ _ _ _ (168, [some (.ref 20), w31, some (.int l2), w32, some (.int (q28.1 + 1)), w33, w34, w35, w36], [.int q37.1], am_T0 q37.2)
  refine am_Rn.op _ (170, [some (.ref 20), w31, some (.int l2), w32, some (.int (q28.1 + 1)), some (.int q37.1), w34, w35, w36], [], am_T0 q37.2) rfl rfl ?_
  refine am_Rn.op _ (171, [some (.ref 20), w31, some (.int l2), w32, some (.int (q28.1 + 1)), some (.int q37.1), w34, w35, w36], [.ref 20], am_T0 q37.2) rfl rfl ?_
  refine am_Rn.op _ (174, [some (.ref 20), w31, some (.int l2), w32, some (.int (q28.1 + 1)), some (.int q37.1), w34, w35, w36], [.ref (TA (q37.2.2 10))], am_T0 q37.2) rfl rfl ?_
  refine am_Rn.op _ (176, [some (.ref 20), w31, some (.int l2), w32, some (.int (q28.1 + 1)), some (.int q37.1), w34, w35, w36], [.int q37.1, .ref (TA (q37.2.2 10))], am_T0 q37.2) rfl rfl ?_
  obtain ⟨q38, hq38, h⟩ := l2_b h
  refine am_Rn.cl _ (some (.int q38.1)) (am_T0 q38.2) rfl (o_clv rfl rfl rfl (l2_isO (q37.2.2 10) q37.2)) (rfX5_at (d + 2) N (q37.2.2 10) q37.1 q37.2 q38 hq38) ?_
  show am_Rn _ _ _ _ (179, [some (.ref 20), w31, some (.int l2), w32, some (.int (q28.1 + 1)), some (.int q37.1), w34, w35, w36], [.int q38.1], am_T0 q38.2)
  refine am_Rn.op _ (181, [some (.ref 20), w31, some (.int l2), w32, some (.int (q28.1 + 1)), some (.int q37.1), w34, w35, w36], [.int 90, .int q38.1], am_T0 q38.2) rfl rfl ?_
  refine am_Rn.op _ (if q38.1 = 90 then 195 else 184, [some (.ref 20), w31, some (.int l2), w32, some (.int (q28.1 + 1)), some (.int q37.1), w34, w35, w36], [], am_T0 q38.2) rfl rfl ?_
  rcases l2_i h with ⟨hc, h⟩ | ⟨hc, h⟩
  · refine am_Rn.ifT hc ?_
    refine am_Rn.op _ (196, [some (.ref 20), w31, some (.int l2), w32, some (.int (q28.1 + 1)), some (.int q37.1), w34, w35, w36], [.ref 20], am_T0 q38.2) rfl rfl ?_
    refine am_Rn.op _ (199, [some (.ref 20), w31, some (.int l2), w32, some (.int (q28.1 + 1)), some (.int q37.1), w34, w35, w36], [.ref (TA (q38.2.2 10))], am_T0 q38.2) rfl rfl ?_
    refine am_Rn.op _ (201, [some (.ref 20), w31, some (.int l2), w32, some (.int (q28.1 + 1)), some (.int q37.1), w34, w35, w36], [.int q37.1, .ref (TA (q38.2.2 10))], am_T0 q38.2) rfl rfl ?_
    refine am_Rn.op _ (202, [some (.ref 20), w31, some (.int l2), w32, some (.int (q28.1 + 1)), some (.int q37.1), w34, w35, w36], [.int 1, .int q37.1, .ref (TA (q38.2.2 10))], am_T0 q38.2) rfl rfl ?_
    refine am_Rn.op _ (203, [some (.ref 20), w31, some (.int l2), w32, some (.int (q28.1 + 1)), some (.int q37.1), w34, w35, w36], [.int (q37.1 + 1), .ref (TA (q38.2.2 10))], am_T0 q38.2) rfl rfl ?_
    obtain ⟨q39, hq39, h⟩ := l2_b h
    refine am_Rn.cl _ (some (.int q39.1)) (am_T0 q39.2) rfl (o_clv rfl rfl rfl (l2_isO (q38.2.2 10) q38.2)) (rfX5_blockAt (d + 1) N (q38.2.2 10) (q37.1 + 1) q38.2 q39 hq39) ?_
    show am_Rn _ _ _ _ (206, [some (.ref 20), w31, some (.int l2), w32, some (.int (q28.1 + 1)), some (.int q37.1), w34, w35, w36], [.int q39.1], am_T0 q39.2)
    refine am_Rn.op _ (208, [some (.ref 20), w31, some (.int l2), w32, some (.int (q28.1 + 1)), some (.int q37.1), some (.int q39.1), w35, w36], [], am_T0 q39.2) rfl rfl ?_
    refine am_Rn.op _ (209, [some (.ref 20), w31, some (.int l2), w32, some (.int (q28.1 + 1)), some (.int q37.1), some (.int q39.1), w35, w36], [.ref 20], am_T0 q39.2) rfl rfl ?_
    refine am_Rn.op _ (212, [some (.ref 20), w31, some (.int l2), w32, some (.int (q28.1 + 1)), some (.int q37.1), some (.int q39.1), w35, w36], [.ref 34], am_T0 q39.2) rfl rfl ?_
    refine am_Rn.op _ (214, [some (.ref 20), w31, some (.int l2), w32, some (.int (q28.1 + 1)), some (.int q37.1), some (.int q39.1), w35, w36], [.int 1000000, .ref 34], am_T0 q39.2) rfl rfl ?_
    obtain ⟨q40, hq40, h⟩ := l2_b h
    refine am_Rn.cl _ none (am_T0 q40) rfl rfl (rfJ7_fill_53178 (d + 2) N 34 1000000 rfl q39.2 q40 hq40) ?_
    show am_Rn _ _ _ _ (217, [some (.ref 20), w31, some (.int l2), w32, some (.int (q28.1 + 1)), some (.int q37.1), some (.int q39.1), w35, w36], [], am_T0 q40)
    refine am_Rn.op _ (218, [some (.ref 20), w31, some (.int l2), w32, some (.int (q28.1 + 1)), some (.int q37.1), some (.int q39.1), w35, w36], [.int 0], am_T0 q40) rfl rfl ?_
    refine am_Rn.op _ (220, [some (.ref 20), w31, some (.int l2), w32, some (.int (q28.1 + 1)), some (.int q37.1), some (.int q39.1), some (.int 0), w36], [], am_T0 q40) rfl rfl ?_
    obtain ⟨y41, hy41, h⟩ := l2_b h
    refine rfX2_take_220 d N _ l2 q39.1 (0, q40) y41 hy41 ?_ _ _ _ _ _
    cases h
    exact rfl
  · refine am_Rn.ifF hc ?_
    refine am_Rn.op _ (185, [some (.ref 20), w31, some (.int l2), w32, some (.int (q28.1 + 1)), some (.int q37.1), w34, w35, w36], [.ref 20], am_T0 q38.2) rfl rfl ?_
    refine am_Rn.op _ (186, [some (.ref 20), w31, some (.int l2), w32, some (.int (q28.1 + 1)), some (.int q37.1), w34, w35, w36], [.ref 20, .ref 20], am_T0 q38.2) rfl rfl ?_
    refine am_Rn.op _ (189, [some (.ref 20), w31, some (.int l2), w32, some (.int (q28.1 + 1)), some (.int q37.1), w34, w35, w36], [.ref 35, .ref 20], am_T0 q38.2) rfl rfl ?_
    obtain ⟨q42, hq42, h⟩ := l2_b h
    refine am_Rn.cl _ none (am_T0 q42) rfl rfl (rfX2_goOn (d + 1) N 35 rfl q38.2 q42 hq42) ?_
    show am_Rn _ _ _ _ (192, [some (.ref 20), w31, some (.int l2), w32, some (.int (q28.1 + 1)), some (.int q37.1), w34, w35, w36], [], am_T0 q42)
    refine am_Rn.op _ (194, [some (.ref 20), w31, some (.int l2), w32, some (.int (q28.1 + 1)), some (.int q37.1), w34, w35, w36], [.int q37.1], am_T0 q42) rfl rfl ?_
    cases h
    exact am_Rn.rt _ rfl rfl
-- X2_store
def PfX2_store_2 (d : Nat) (res : Option Value × am_S) (l1 : Int32) (x : Int32 × St) : Prop := am_Rn (am_C d) (am_ct 20) (am_rk 20) res (2, [some (.ref 20), some (.int l1), some (.int x.1)], [], am_T0 x.2)
def QfX2_store_2 (d : Nat) (res : Option Value × am_S) (l1 : Int32) (y : St) : Prop := ∀ (w2 : Option Value), am_Rn (am_C d) (am_ct 20) (am_rk 20) res (29, [some (.ref 20), some (.int l1), w2], [], am_T0 y)
def PfX2_store_31 (d : Nat) (res : Option Value × am_S) (l1 : Int32) (x : Int32 × St) : Prop := am_Rn (am_C d) (am_ct 20) (am_rk 20) res (31, [some (.ref 20), some (.int l1), some (.int x.1)], [], am_T0 x.2)
def QfX2_store_31 (d : Nat) (res : Option Value × am_S) (l1 : Int32) (y : St) : Prop := res = (none, am_T0 y)
def bfX2_store_31 (N : Nat) (l1 : Int32) (x : Int32 × St) : Option ((Int32 × St) ⊕ (St)) := (if 32 ≤ x.1 then some (.inr x.2) else (if l1 < 0 then some (.inr x.2) else (if 23808 ≤ (l1 + x.1) then some (.inr x.2) else (if x.1 < 0 ∨ 32 ≤ Int32.toNatClampNeg x.1 then none else (if (l1 + x.1) < 0 ∨ 23808 ≤ Int32.toNatClampNeg (l1 + x.1) then none else some (.inl ((x.1 + 1), (st_i x.2 30 (Int32.toNatClampNeg (l1 + x.1)) (x.2.1 33 (Int32.toNatClampNeg x.1))))))))))
def fX2_store_31 (N : Nat) (l1 : Int32) (x : Int32 × St) : Option (St) := whl N (bfX2_store_31 N l1 ) x
set_option maxRecDepth 20000 in
theorem rbfX2_store_31 (d N : Nat) (res : Option Value × am_S) (l1 : Int32) (x : Int32 × St) (z : (Int32 × St) ⊕ (St)) (h : bfX2_store_31 N l1 x = some z) (hz : Sum.elim (PfX2_store_31 (d + 1) res l1 ) (QfX2_store_31 (d + 1) res l1 ) z) : PfX2_store_31 (d + 1) res l1 x := by
  unfold bfX2_store_31 at h
  show am_Rn (am_C (d + 1)) (am_ct 20) (am_rk 20) res (31, [some (.ref 20), some (.int l1), some (.int x.1)], [], am_T0 x.2)
  refine am_Rn.op _ (32, [some (.ref 20), some (.int l1), some (.int x.1)], [.int x.1], am_T0 x.2) rfl rfl ?_
  refine am_Rn.op _ (34, [some (.ref 20), some (.int l1), some (.int x.1)], [.int 32, .int x.1], am_T0 x.2) rfl rfl ?_
  refine am_Rn.op _ (if 32 ≤ x.1 then 72 else 37, [some (.ref 20), some (.int l1), some (.int x.1)], [], am_T0 x.2) rfl rfl ?_
  rcases l2_i h with ⟨hc, h⟩ | ⟨hc, h⟩
  · refine am_Rn.ifT hc ?_
    cases h
    exact am_Rn.rt2 _ rfl rfl hz
  · refine am_Rn.ifF hc ?_
    refine am_Rn.op _ (38, [some (.ref 20), some (.int l1), some (.int x.1)], [.int l1], am_T0 x.2) rfl rfl ?_
    refine am_Rn.op _ (if l1 < 0 then 72 else 41, [some (.ref 20), some (.int l1), some (.int x.1)], [], am_T0 x.2) rfl rfl ?_
    rcases l2_i h with ⟨hc, h⟩ | ⟨hc, h⟩
    · refine am_Rn.ifT hc ?_
      cases h
      exact am_Rn.rt2 _ rfl rfl hz
    · refine am_Rn.ifF hc ?_
      refine am_Rn.op _ (42, [some (.ref 20), some (.int l1), some (.int x.1)], [.int l1], am_T0 x.2) rfl rfl ?_
      refine am_Rn.op _ (43, [some (.ref 20), some (.int l1), some (.int x.1)], [.int x.1, .int l1], am_T0 x.2) rfl rfl ?_
      refine am_Rn.op _ (44, [some (.ref 20), some (.int l1), some (.int x.1)], [.int (l1 + x.1)], am_T0 x.2) rfl rfl ?_
      refine am_Rn.op _ (45, [some (.ref 20), some (.int l1), some (.int x.1)], [.ref 20, .int (l1 + x.1)], am_T0 x.2) rfl rfl ?_
      refine am_Rn.op _ (48, [some (.ref 20), some (.int l1), some (.int x.1)], [.ref 30, .int (l1 + x.1)], am_T0 x.2) rfl rfl ?_
      refine am_Rn.op _ (49, [some (.ref 20), some (.int l1), some (.int x.1)], [.int 23808, .int (l1 + x.1)], am_T0 x.2) rfl rfl ?_
      refine am_Rn.op _ (if 23808 ≤ (l1 + x.1) then 72 else 52, [some (.ref 20), some (.int l1), some (.int x.1)], [], am_T0 x.2) rfl rfl ?_
      rcases l2_i h with ⟨hc, h⟩ | ⟨hc, h⟩
      · refine am_Rn.ifT hc ?_
        cases h
        exact am_Rn.rt2 _ rfl rfl hz
      · refine am_Rn.ifF hc ?_
        refine am_Rn.op _ (53, [some (.ref 20), some (.int l1), some (.int x.1)], [.ref 20], am_T0 x.2) rfl rfl ?_
        refine am_Rn.op _ (56, [some (.ref 20), some (.int l1), some (.int x.1)], [.ref 30], am_T0 x.2) rfl rfl ?_
        refine am_Rn.op _ (57, [some (.ref 20), some (.int l1), some (.int x.1)], [.int l1, .ref 30], am_T0 x.2) rfl rfl ?_
        refine am_Rn.op _ (58, [some (.ref 20), some (.int l1), some (.int x.1)], [.int x.1, .int l1, .ref 30], am_T0 x.2) rfl rfl ?_
        refine am_Rn.op _ (59, [some (.ref 20), some (.int l1), some (.int x.1)], [.int (l1 + x.1), .ref 30], am_T0 x.2) rfl rfl ?_
        refine am_Rn.op _ (60, [some (.ref 20), some (.int l1), some (.int x.1)], [.ref 20, .int (l1 + x.1), .ref 30], am_T0 x.2) rfl rfl ?_
        refine am_Rn.op _ (63, [some (.ref 20), some (.int l1), some (.int x.1)], [.ref 33, .int (l1 + x.1), .ref 30], am_T0 x.2) rfl rfl ?_
        refine am_Rn.op _ (64, [some (.ref 20), some (.int l1), some (.int x.1)], [.int x.1, .ref 33, .int (l1 + x.1), .ref 30], am_T0 x.2) rfl rfl ?_
        obtain ⟨hb1, h⟩ := l2_n h
        refine am_Rn.iald (n := 32) rfl rfl hb1 ?_
        show am_Rn _ _ _ _ (65, [some (.ref 20), some (.int l1), some (.int x.1)], [.int (x.2.1 33 (Int32.toNatClampNeg x.1)), .int (l1 + x.1), .ref 30], am_T0 x.2)
        obtain ⟨hb2, h⟩ := l2_n h
        refine am_Rn.iast (n := 23808) rfl rfl hb2 ?_
        show am_Rn _ _ _ _ (66, [some (.ref 20), some (.int l1), some (.int x.1)], [], am_T0 (st_i x.2 30 (Int32.toNatClampNeg (l1 + x.1)) (x.2.1 33 (Int32.toNatClampNeg x.1))))
        refine am_Rn.op _ (69, [some (.ref 20), some (.int l1), some (.int (x.1 + 1))], [], am_T0 (st_i x.2 30 (Int32.toNatClampNeg (l1 + x.1)) (x.2.1 33 (Int32.toNatClampNeg x.1)))) rfl rfl ?_
        refine am_Rn.op _ (31, [some (.ref 20), some (.int l1), some (.int (x.1 + 1))], [], am_T0 (st_i x.2 30 (Int32.toNatClampNeg (l1 + x.1)) (x.2.1 33 (Int32.toNatClampNeg x.1)))) rfl rfl ?_
        cases h
        exact hz 
theorem rfX2_store_31 (d N : Nat) (res : Option Value × am_S) (l1 : Int32) (x : Int32 × St) (y : St) (h : fX2_store_31 N l1 x = some y) (hq : QfX2_store_31 (d + 1) res l1 y) : PfX2_store_31 (d + 1) res l1 x := whl_ind _ _ (fun x z => rbfX2_store_31 d N res l1 x z) N x y h hq
def bfX2_store_2 (N : Nat) (l1 : Int32) (x : Int32 × St) : Option ((Int32 × St) ⊕ (St)) := (if 4 ≤ x.1 then some (.inr (x.2)) else (if x.1 < 0 ∨ 4 ≤ Int32.toNatClampNeg x.1 then none else (fX7_lower N 33 (0 + x.1) (x.2.1 31 (Int32.toNatClampNeg x.1)) x.2).bind (fun q4 => some (.inl ((x.1 + 1), q4)))))
def fX2_store_2 (N : Nat) (l1 : Int32) (x : Int32 × St) : Option (St) := whl N (bfX2_store_2 N l1 ) x
set_option maxRecDepth 20000 in
theorem rbfX2_store_2 (d N : Nat) (res : Option Value × am_S) (l1 : Int32) (x : Int32 × St) (z : (Int32 × St) ⊕ (St)) (h : bfX2_store_2 N l1 x = some z) (hz : Sum.elim (PfX2_store_2 (d + 1) res l1 ) (QfX2_store_2 (d + 1) res l1 ) z) : PfX2_store_2 (d + 1) res l1 x := by
  unfold bfX2_store_2 at h
  show am_Rn (am_C (d + 1)) (am_ct 20) (am_rk 20) res (2, [some (.ref 20), some (.int l1), some (.int x.1)], [], am_T0 x.2)
  refine am_Rn.op _ (3, [some (.ref 20), some (.int l1), some (.int x.1)], [.int x.1], am_T0 x.2) rfl rfl ?_
  refine am_Rn.op _ (4, [some (.ref 20), some (.int l1), some (.int x.1)], [.int 4, .int x.1], am_T0 x.2) rfl rfl ?_
  refine am_Rn.op _ (if 4 ≤ x.1 then 29 else 7, [some (.ref 20), some (.int l1), some (.int x.1)], [], am_T0 x.2) rfl rfl ?_
  rcases l2_i h with ⟨hc, h⟩ | ⟨hc, h⟩
  · refine am_Rn.ifT hc ?_
    cases h
    exact hz _
  · refine am_Rn.ifF hc ?_
    refine am_Rn.op _ (8, [some (.ref 20), some (.int l1), some (.int x.1)], [.ref 20], am_T0 x.2) rfl rfl ?_
    refine am_Rn.op _ (11, [some (.ref 20), some (.int l1), some (.int x.1)], [.ref 33], am_T0 x.2) rfl rfl ?_
    refine am_Rn.op _ (12, [some (.ref 20), some (.int l1), some (.int x.1)], [.int 0, .ref 33], am_T0 x.2) rfl rfl ?_
    refine am_Rn.op _ (13, [some (.ref 20), some (.int l1), some (.int x.1)], [.int x.1, .int 0, .ref 33], am_T0 x.2) rfl rfl ?_
    refine am_Rn.op _ (14, [some (.ref 20), some (.int l1), some (.int x.1)], [.int (0 + x.1), .ref 33], am_T0 x.2) rfl rfl ?_
    refine am_Rn.op _ (15, [some (.ref 20), some (.int l1), some (.int x.1)], [.ref 20, .int (0 + x.1), .ref 33], am_T0 x.2) rfl rfl ?_
    refine am_Rn.op _ (18, [some (.ref 20), some (.int l1), some (.int x.1)], [.ref 31, .int (0 + x.1), .ref 33], am_T0 x.2) rfl rfl ?_
    refine am_Rn.op _ (19, [some (.ref 20), some (.int l1), some (.int x.1)], [.int x.1, .ref 31, .int (0 + x.1), .ref 33], am_T0 x.2) rfl rfl ?_
    obtain ⟨hb3, h⟩ := l2_n h
    refine am_Rn.iald (n := 4) rfl rfl hb3 ?_
    show am_Rn _ _ _ _ (20, [some (.ref 20), some (.int l1), some (.int x.1)], [.int (x.2.1 31 (Int32.toNatClampNeg x.1)), .int (0 + x.1), .ref 33], am_T0 x.2)
    obtain ⟨q4, hq4, h⟩ := l2_b h
    refine am_Rn.cl _ none (am_T0 q4) rfl rfl (rfX7_lower (d + 0) N 33 (0 + x.1) (x.2.1 31 (Int32.toNatClampNeg x.1)) rfl x.2 q4 hq4) ?_
    show am_Rn _ _ _ _ (23, [some (.ref 20), some (.int l1), some (.int x.1)], [], am_T0 q4)
    refine am_Rn.op _ (26, [some (.ref 20), some (.int l1), some (.int (x.1 + 1))], [], am_T0 q4) rfl rfl ?_
    refine am_Rn.op _ (2, [some (.ref 20), some (.int l1), some (.int (x.1 + 1))], [], am_T0 q4) rfl rfl ?_
    cases h
    exact hz 
theorem rfX2_store_2 (d N : Nat) (res : Option Value × am_S) (l1 : Int32) (x : Int32 × St) (y : St) (h : fX2_store_2 N l1 x = some y) (hq : QfX2_store_2 (d + 1) res l1 y) : PfX2_store_2 (d + 1) res l1 x := whl_ind _ _ (fun x z => rbfX2_store_2 d N res l1 x z) N x y h hq
def fX2_store (N : Nat) (l1 : Int32) (S : St) : Option St := (fX2_store_2 N l1 (0, S)).bind (fun y5 => (fX2_store_31 N l1 (0, y5)).bind (fun y7 => some y7))
set_option maxRecDepth 20000 in
theorem rfX2_store (d N : Nat) (l1 : Int32) (S : St) (z : St) (h : fX2_store N l1 S = some z) : am_C (d + 2) 20 [.ref 20, .int l1] (am_T0 S) (none, am_T0 z) := by
  unfold fX2_store at h
  show am_Rn (am_C (d + 1)) (am_ct 20) (am_rk 20) (none, am_T0 z) (0, [some (.ref 20), some (.int l1), none], [], am_T0 S)
  refine am_Rn.op _ (1, [some (.ref 20), some (.int l1), none], [.int 0], am_T0 S) rfl rfl ?_
  refine am_Rn.op _ (2, [some (.ref 20), some (.int l1), some (.int 0)], [], am_T0 S) rfl rfl ?_
  obtain ⟨y5, hy5, h⟩ := l2_b h
  refine rfX2_store_2 d N _ l1 (0, S) y5 hy5 ?_ 
  intro w6
  show am_Rn _ _ _ _ (29, [some (.ref 20), some (.int l1), w6], [], am_T0 y5)
  refine am_Rn.op _ (30, [some (.ref 20), some (.int l1), w6], [.int 0], am_T0 y5) rfl rfl ?_
  refine am_Rn.op _ (31, [some (.ref 20), some (.int l1), some (.int 0)], [], am_T0 y5) rfl rfl ?_
  obtain ⟨y7, hy7, h⟩ := l2_b h
  refine rfX2_store_31 d N _ l1 (0, y5) y7 hy7 ?_ 
  cases h
  exact rfl
