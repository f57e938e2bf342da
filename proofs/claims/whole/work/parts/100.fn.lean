-- X7_isRoutine
def fX7_isRoutine_15 (N : Nat) (s0 : Int32) (S : St) : Option (Int32 × St) := (if s0 = 0 ∨ s0 = 1 then some (s0, S) else none)
set_option maxRecDepth 20000 in
theorem rfX7_isRoutine_15 (d N : Nat) (s0 : Int32) (S : St) (z : (Int32 × St)) (h : fX7_isRoutine_15 N s0 S = some z) (w0 : Option Value) : am_Rn (am_C (d + 0)) (am_ct 99) (am_rk 99) (some (.int z.1), am_T0 z.2) (15, [w0], [.int s0], am_T0 S) := by
  unfold fX7_isRoutine_15 at h
  obtain ⟨hb1, h⟩ := l2_y h
  cases h
  exact am_Rn.rt _ rfl (l2_rz hb1)
def fX7_isRoutine (N : Nat) (l0 : Int32) (S : St) : Option (Int32 × St) := (if l0 < 0 then fX7_isRoutine_15 N 0 S else (if 8 ≤ l0 then fX7_isRoutine_15 N 0 S else fX7_isRoutine_15 N 1 S))
set_option maxRecDepth 20000 in
theorem rfX7_isRoutine (d N : Nat) (l0 : Int32) (S : St) (z : (Int32 × St)) (h : fX7_isRoutine N l0 S = some z) : am_C (d + 1) 99 [.int l0] (am_T0 S) (some (.int z.1), am_T0 z.2) := by
  unfold fX7_isRoutine at h
  show am_Rn (am_C (d + 0)) (am_ct 99) (am_rk 99) (some (.int z.1), am_T0 z.2) (0, [some (.int l0)], [], am_T0 S)
  refine am_Rn.op _ (1, [some (.int l0)], [.int l0], am_T0 S) rfl rfl ?_
  refine am_Rn.op _ (if l0 < 0 then 14 else 4, [some (.int l0)], [], am_T0 S) rfl rfl ?_
  rcases l2_i h with ⟨hc, h⟩ | ⟨hc, h⟩
  · refine am_Rn.ifT hc ?_
    refine am_Rn.op _ (15, [some (.int l0)], [.int 0], am_T0 S) rfl rfl ?_
    exact rfX7_isRoutine_15 d N 0 S _ h _
  · refine am_Rn.ifF hc ?_
    refine am_Rn.op _ (5, [some (.int l0)], [.int l0], am_T0 S) rfl rfl ?_
    refine am_Rn.op _ (7, [some (.int l0)], [.int 8, .int l0], am_T0 S) rfl rfl ?_
    refine am_Rn.op _ (if 8 ≤ l0 then 14 else 10, [some (.int l0)], [], am_T0 S) rfl rfl ?_
    rcases l2_i h with ⟨hc, h⟩ | ⟨hc, h⟩
    · refine am_Rn.ifT hc ?_
      refine am_Rn.op _ (15, [some (.int l0)], [.int 0], am_T0 S) rfl rfl ?_
      exact rfX7_isRoutine_15 d N 0 S _ h _
    · refine am_Rn.ifF hc ?_
      refine am_Rn.op _ (11, [some (.int l0)], [.int 1], am_T0 S) rfl rfl ?_
      refine am_Rn.op _ (15, [some (.int l0)], [.int 1], am_T0 S) rfl rfl ?_
      exact rfX7_isRoutine_15 d N 1 S _ h _
-- X7_isSet
def fX7_isSet_14 (N : Nat) (s0 : Int32) (S : St) : Option (Int32 × St) := (if s0 = 0 ∨ s0 = 1 then some (s0, S) else none)
set_option maxRecDepth 20000 in
theorem rfX7_isSet_14 (d N : Nat) (s0 : Int32) (S : St) (z : (Int32 × St)) (h : fX7_isSet_14 N s0 S = some z) (w0 : Option Value) : am_Rn (am_C (d + 0)) (am_ct 101) (am_rk 101) (some (.int z.1), am_T0 z.2) (14, [w0], [.int s0], am_T0 S) := by
  unfold fX7_isSet_14 at h
  obtain ⟨hb1, h⟩ := l2_y h
  cases h
  exact am_Rn.rt _ rfl (l2_rz hb1)
def fX7_isSet (N : Nat) (l0 : Int32) (S : St) : Option (Int32 × St) := (if l0 < 0 then fX7_isSet_14 N 0 S else (if 4 ≤ l0 then fX7_isSet_14 N 0 S else fX7_isSet_14 N 1 S))
set_option maxRecDepth 20000 in
theorem rfX7_isSet (d N : Nat) (l0 : Int32) (S : St) (z : (Int32 × St)) (h : fX7_isSet N l0 S = some z) : am_C (d + 1) 101 [.int l0] (am_T0 S) (some (.int z.1), am_T0 z.2) := by
  unfold fX7_isSet at h
  show am_Rn (am_C (d + 0)) (am_ct 101) (am_rk 101) (some (.int z.1), am_T0 z.2) (0, [some (.int l0)], [], am_T0 S)
  refine am_Rn.op _ (1, [some (.int l0)], [.int l0], am_T0 S) rfl rfl ?_
  refine am_Rn.op _ (if l0 < 0 then 13 else 4, [some (.int l0)], [], am_T0 S) rfl rfl ?_
  rcases l2_i h with ⟨hc, h⟩ | ⟨hc, h⟩
  · refine am_Rn.ifT hc ?_
    refine am_Rn.op _ (14, [some (.int l0)], [.int 0], am_T0 S) rfl rfl ?_
    exact rfX7_isSet_14 d N 0 S _ h _
  · refine am_Rn.ifF hc ?_
    refine am_Rn.op _ (5, [some (.int l0)], [.int l0], am_T0 S) rfl rfl ?_
    refine am_Rn.op _ (6, [some (.int l0)], [.int 4, .int l0], am_T0 S) rfl rfl ?_
    refine am_Rn.op _ (if 4 ≤ l0 then 13 else 9, [some (.int l0)], [], am_T0 S) rfl rfl ?_
    rcases l2_i h with ⟨hc, h⟩ | ⟨hc, h⟩
    · refine am_Rn.ifT hc ?_
      refine am_Rn.op _ (14, [some (.int l0)], [.int 0], am_T0 S) rfl rfl ?_
      exact rfX7_isSet_14 d N 0 S _ h _
    · refine am_Rn.ifF hc ?_
      refine am_Rn.op _ (10, [some (.int l0)], [.int 1], am_T0 S) rfl rfl ?_
      refine am_Rn.op _ (14, [some (.int l0)], [.int 1], am_T0 S) rfl rfl ?_
      exact rfX7_isSet_14 d N 1 S _ h _
-- X7_isExit
def fX7_isExit_15 (N : Nat) (s0 : Int32) (S : St) : Option (Int32 × St) := (if s0 = 0 ∨ s0 = 1 then some (s0, S) else none)
set_option maxRecDepth 20000 in
theorem rfX7_isExit_15 (d N : Nat) (s0 : Int32) (S : St) (z : (Int32 × St)) (h : fX7_isExit_15 N s0 S = some z) (w0 : Option Value) : am_Rn (am_C (d + 0)) (am_ct 102) (am_rk 102) (some (.int z.1), am_T0 z.2) (15, [w0], [.int s0], am_T0 S) := by
  unfold fX7_isExit_15 at h
  obtain ⟨hb1, h⟩ := l2_y h
  cases h
  exact am_Rn.rt _ rfl (l2_rz hb1)
def fX7_isExit (N : Nat) (l0 : Int32) (S : St) : Option (Int32 × St) := (if l0 < 0 then fX7_isExit_15 N 0 S else (if 7 ≤ l0 then fX7_isExit_15 N 0 S else fX7_isExit_15 N 1 S))
set_option maxRecDepth 20000 in
theorem rfX7_isExit (d N : Nat) (l0 : Int32) (S : St) (z : (Int32 × St)) (h : fX7_isExit N l0 S = some z) : am_C (d + 1) 102 [.int l0] (am_T0 S) (some (.int z.1), am_T0 z.2) := by
  unfold fX7_isExit at h
  show am_Rn (am_C (d + 0)) (am_ct 102) (am_rk 102) (some (.int z.1), am_T0 z.2) (0, [some (.int l0)], [], am_T0 S)
  refine am_Rn.op _ (1, [some (.int l0)], [.int l0], am_T0 S) rfl rfl ?_
  refine am_Rn.op _ (if l0 < 0 then 14 else 4, [some (.int l0)], [], am_T0 S) rfl rfl ?_
  rcases l2_i h with ⟨hc, h⟩ | ⟨hc, h⟩
  · refine am_Rn.ifT hc ?_
    refine am_Rn.op _ (15, [some (.int l0)], [.int 0], am_T0 S) rfl rfl ?_
    exact rfX7_isExit_15 d N 0 S _ h _
  · refine am_Rn.ifF hc ?_
    refine am_Rn.op _ (5, [some (.int l0)], [.int l0], am_T0 S) rfl rfl ?_
    refine am_Rn.op _ (7, [some (.int l0)], [.int 7, .int l0], am_T0 S) rfl rfl ?_
    refine am_Rn.op _ (if 7 ≤ l0 then 14 else 10, [some (.int l0)], [], am_T0 S) rfl rfl ?_
    rcases l2_i h with ⟨hc, h⟩ | ⟨hc, h⟩
    · refine am_Rn.ifT hc ?_
      refine am_Rn.op _ (15, [some (.int l0)], [.int 0], am_T0 S) rfl rfl ?_
      exact rfX7_isExit_15 d N 0 S _ h _
    · refine am_Rn.ifF hc ?_
      refine am_Rn.op _ (11, [some (.int l0)], [.int 1], am_T0 S) rfl rfl ?_
      refine am_Rn.op _ (15, [some (.int l0)], [.int 1], am_T0 S) rfl rfl ?_
      exact rfX7_isExit_15 d N 1 S _ h _
-- X0_cell
def fX0_cell_60 (N : Nat) (s0 : Int32) (S : St) : Option (Int32 × St) := some (s0, S)
set_option maxRecDepth 20000 in
theorem rfX0_cell_60 (d N : Nat) (s0 : Int32) (S : St) (z : (Int32 × St)) (h : fX0_cell_60 N s0 S = some z) (w0 : Option Value) (w1 : Option Value) (w2 : Option Value) (w3 : Option Value) (w4 : Option Value) (w5 : Option Value) : am_Rn (am_C (d + 1)) (am_ct 1) (am_rk 1) (some (.int z.1), am_T0 z.2) (60, [w0, w1, w2, w3, w4, w5], [.int s0], am_T0 S) := by
  unfold fX0_cell_60 at h
  cases h
  exact am_Rn.rt _ rfl rfl
def fX0_cell_34 (N : Nat) (l1 : Int32) (l2 : Int32) (l3 : Int32) (l4 : Int32) (s0 : Int32) (S : St) : Option (Int32 × St) := (if s0 = 0 then fX0_cell_60 N (-1) S else fX0_cell_60 N ((((((l1 * 4) + l2) * 7) + l3) * 4) + l4) S)
set_option maxRecDepth 20000 in
theorem rfX0_cell_34 (d N : Nat) (l1 : Int32) (l2 : Int32) (l3 : Int32) (l4 : Int32) (s0 : Int32) (S : St) (z : (Int32 × St)) (h : fX0_cell_34 N l1 l2 l3 l4 s0 S = some z) (w0 : Option Value) (w5 : Option Value) : am_Rn (am_C (d + 1)) (am_ct 1) (am_rk 1) (some (.int z.1), am_T0 z.2) (34, [w0, some (.int l1), some (.int l2), some (.int l3), some (.int l4), w5], [.int s0], am_T0 S) := by
  unfold fX0_cell_34 at h
  refine am_Rn.op _ (36, [w0, some (.int l1), some (.int l2), some (.int l3), some (.int l4), some (.int s0)], [], am_T0 S) rfl rfl ?_
  refine am_Rn.op _ (38, [w0, some (.int l1), some (.int l2), some (.int l3), some (.int l4), some (.int s0)], [.int s0], am_T0 S) rfl rfl ?_
  refine am_Rn.op _ (if s0 = 0 then 59 else 41, [w0, some (.int l1), some (.int l2), some (.int l3), some (.int l4), some (.int s0)], [], am_T0 S) rfl rfl ?_
  rcases l2_i h with ⟨hc, h⟩ | ⟨hc, h⟩
  · refine am_Rn.ifT hc ?_
    refine am_Rn.op _ (60, [w0, some (.int l1), some (.int l2), some (.int l3), some (.int l4), some (.int s0)], [.int (-1)], am_T0 S) rfl rfl ?_
    exact rfX0_cell_60 d N (-1) S _ h _ _ _ _ _ _
  · refine am_Rn.ifF hc ?_
    refine am_Rn.op _ (42, [w0, some (.int l1), some (.int l2), some (.int l3), some (.int l4), some (.int s0)], [.int l1], am_T0 S) rfl rfl ?_
    refine am_Rn.op _ (43, [w0, some (.int l1), some (.int l2), some (.int l3), some (.int l4), some (.int s0)], [.int 4, .int l1], am_T0 S) rfl rfl ?_
    refine am_Rn.op _ (44, [w0, some (.int l1), some (.int l2), some (.int l3), some (.int l4), some (.int s0)], [.int (l1 * 4)], am_T0 S) rfl rfl ?_
    refine am_Rn.op _ (45, [w0, some (.int l1), some (.int l2), some (.int l3), some (.int l4), some (.int s0)], [.int l2, .int (l1 * 4)], am_T0 S) rfl rfl ?_
    refine am_Rn.op _ (46, [w0, some (.int l1), some (.int l2), some (.int l3), some (.int l4), some (.int s0)], [.int ((l1 * 4) + l2)], am_T0 S) rfl rfl ?_
    refine am_Rn.op _ (48, [w0, some (.int l1), some (.int l2), some (.int l3), some (.int l4), some (.int s0)], [.int 7, .int ((l1 * 4) + l2)], am_T0 S) rfl rfl ?_
    refine am_Rn.op _ (49, [w0, some (.int l1), some (.int l2), some (.int l3), some (.int l4), some (.int s0)], [.int (((l1 * 4) + l2) * 7)], am_T0 S) rfl rfl ?_
    refine am_Rn.op _ (50, [w0, some (.int l1), some (.int l2), some (.int l3), some (.int l4), some (.int s0)], [.int l3, .int (((l1 * 4) + l2) * 7)], am_T0 S) rfl rfl ?_
    refine am_Rn.op _ (51, [w0, some (.int l1), some (.int l2), some (.int l3), some (.int l4), some (.int s0)], [.int ((((l1 * 4) + l2) * 7) + l3)], am_T0 S) rfl rfl ?_
    refine am_Rn.op _ (52, [w0, some (.int l1), some (.int l2), some (.int l3), some (.int l4), some (.int s0)], [.int 4, .int ((((l1 * 4) + l2) * 7) + l3)], am_T0 S) rfl rfl ?_
    refine am_Rn.op _ (53, [w0, some (.int l1), some (.int l2), some (.int l3), some (.int l4), some (.int s0)], [.int (((((l1 * 4) + l2) * 7) + l3) * 4)], am_T0 S) rfl rfl ?_
    refine am_Rn.op _ (55, [w0, some (.int l1), some (.int l2), some (.int l3), some (.int l4), some (.int s0)], [.int l4, .int (((((l1 * 4) + l2) * 7) + l3) * 4)], am_T0 S) rfl rfl ?_
    refine am_Rn.op _ (56, [w0, some (.int l1), some (.int l2), some (.int l3), some (.int l4), some (.int s0)], [.int ((((((l1 * 4) + l2) * 7) + l3) * 4) + l4)], am_T0 S) rfl rfl ?_
    refine am_Rn.op _ (60, [w0, some (.int l1), some (.int l2), some (.int l3), some (.int l4), some (.int s0)], [.int ((((((l1 * 4) + l2) * 7) + l3) * 4) + l4)], am_T0 S) rfl rfl ?_
    exact rfX0_cell_60 d N ((((((l1 * 4) + l2) * 7) + l3) * 4) + l4) S _ h _ _ _ _ _ _
def fX0_cell_33 (N : Nat) (l1 : Int32) (l2 : Int32) (l3 : Int32) (l4 : Int32) (S : St) : Option (Int32 × St) := fX0_cell_34 N l1 l2 l3 l4 0 S
set_option maxRecDepth 20000 in
theorem rfX0_cell_33 (d N : Nat) (l1 : Int32) (l2 : Int32) (l3 : Int32) (l4 : Int32) (S : St) (z : (Int32 × St)) (h : fX0_cell_33 N l1 l2 l3 l4 S = some z) (w0 : Option Value) (w5 : Option Value) : am_Rn (am_C (d + 1)) (am_ct 1) (am_rk 1) (some (.int z.1), am_T0 z.2) (33, [w0, some (.int l1), some (.int l2), some (.int l3), some (.int l4), w5], [], am_T0 S) := by
  unfold fX0_cell_33 at h
  refine am_Rn.op _ (34, [w0, some (.int l1), some (.int l2), some (.int l3), some (.int l4), w5], [.int 0], am_T0 S) rfl rfl ?_
  exact rfX0_cell_34 d N l1 l2 l3 l4 0 S _ h _ _
def fX0_cell (N : Nat) (l1 : Int32) (l2 : Int32) (l3 : Int32) (l4 : Int32) (S : St) : Option (Int32 × St) := (fX7_isRoutine N l1 S).bind (fun q1 => (if q1.1 = 0 then fX0_cell_33 N l1 l2 l3 l4 q1.2 else (fX7_isSet N l2 q1.2).bind (fun q2 => (if q2.1 = 0 then fX0_cell_33 N l1 l2 l3 l4 q2.2 else (fX7_isExit N l3 q2.2).bind (fun q3 => (if q3.1 = 0 then fX0_cell_33 N l1 l2 l3 l4 q3.2 else (fX7_isSet N l4 q3.2).bind (fun q4 => (if q4.1 = 0 then fX0_cell_33 N l1 l2 l3 l4 q4.2 else fX0_cell_34 N l1 l2 l3 l4 1 q4.2))))))))
set_option maxRecDepth 20000 in
theorem rfX0_cell (d N : Nat) (l1 : Int32) (l2 : Int32) (l3 : Int32) (l4 : Int32) (S : St) (z : (Int32 × St)) (h : fX0_cell N l1 l2 l3 l4 S = some z) : am_C (d + 2) 1 [.ref 18, .int l1, .int l2, .int l3, .int l4] (am_T0 S) (some (.int z.1), am_T0 z.2) := by
  unfold fX0_cell at h
  show am_Rn (am_C (d + 1)) (am_ct 1) (am_rk 1) (some (.int z.1), am_T0 z.2) (0, [some (.ref 18), some (.int l1), some (.int l2), some (.int l3), some (.int l4), none], [], am_T0 S)
  refine am_Rn.op _ (1, [some (.ref 18), some (.int l1), some (.int l2), some (.int l3), some (.int l4), none], [.int l1], am_T0 S) rfl rfl ?_
  obtain ⟨q1, hq1, h⟩ := l2_b h
  refine am_Rn.cl _ (some (.int q1.1)) (am_T0 q1.2) rfl rfl (rfX7_isRoutine (d + 0) N l1 S q1 hq1) ?_
  show am_Rn _ _ _ _ (4, [some (.ref 18), some (.int l1), some (.int l2), some (.int l3), some (.int l4), none], [.int q1.1], am_T0 q1.2)
  refine am_Rn.op _ (if q1.1 = 0 then 33 else 7, [some (.ref 18), some (.int l1), some (.int l2), some (.int l3), some (.int l4), none], [], am_T0 q1.2) rfl rfl ?_
  rcases l2_i h with ⟨hc, h⟩ | ⟨hc, h⟩
  · refine am_Rn.ifT hc ?_
    exact rfX0_cell_33 d N l1 l2 l3 l4 q1.2 _ h _ _
  · refine am_Rn.ifF hc ?_
    refine am_Rn.op _ (8, [some (.ref 18), some (.int l1), some (.int l2), some (.int l3), some (.int l4), none], [.int l2], am_T0 q1.2) rfl rfl ?_
    obtain ⟨q2, hq2, h⟩ := l2_b h
    refine am_Rn.cl _ (some (.int q2.1)) (am_T0 q2.2) rfl rfl (rfX7_isSet (d + 0) N l2 q1.2 q2 hq2) ?_
    show am_Rn _ _ _ _ (11, [some (.ref 18), some (.int l1), some (.int l2), some (.int l3), some (.int l4), none], [.int q2.1], am_T0 q2.2)
    refine am_Rn.op _ (if q2.1 = 0 then 33 else 14, [some (.ref 18), some (.int l1), some (.int l2), some (.int l3), some (.int l4), none], [], am_T0 q2.2) rfl rfl ?_
    rcases l2_i h with ⟨hc, h⟩ | ⟨hc, h⟩
    · refine am_Rn.ifT hc ?_
      exact rfX0_cell_33 d N l1 l2 l3 l4 q2.2 _ h _ _
    · refine am_Rn.ifF hc ?_
      refine am_Rn.op _ (15, [some (.ref 18), some (.int l1), some (.int l2), some (.int l3), some (.int l4), none], [.int l3], am_T0 q2.2) rfl rfl ?_
      obtain ⟨q3, hq3, h⟩ := l2_b h
      refine am_Rn.cl _ (some (.int q3.1)) (am_T0 q3.2) rfl rfl (rfX7_isExit (d + 0) N l3 q2.2 q3 hq3) ?_
      show am_Rn _ _ _ _ (18, [some (.ref 18), some (.int l1), some (.int l2), some (.int l3), some (.int l4), none], [.int q3.1], am_T0 q3.2)
      refine am_Rn.op _ (if q3.1 = 0 then 33 else 21, [some (.ref 18), some (.int l1), some (.int l2), some (.int l3), some (.int l4), none], [], am_T0 q3.2) rfl rfl ?_
      rcases l2_i h with ⟨hc, h⟩ | ⟨hc, h⟩
      · refine am_Rn.ifT hc ?_
        exact rfX0_cell_33 d N l1 l2 l3 l4 q3.2 _ h _ _
      · refine am_Rn.ifF hc ?_
        refine am_Rn.op _ (23, [some (.ref 18), some (.int l1), some (.int l2), some (.int l3), some (.int l4), none], [.int l4], am_T0 q3.2) rfl rfl ?_
        obtain ⟨q4, hq4, h⟩ := l2_b h
        refine am_Rn.cl _ (some (.int q4.1)) (am_T0 q4.2) rfl rfl (rfX7_isSet (d + 0) N l4 q3.2 q4 hq4) ?_
        show am_Rn _ _ _ _ (26, [some (.ref 18), some (.int l1), some (.int l2), some (.int l3), some (.int l4), none], [.int q4.1], am_T0 q4.2)
        refine am_Rn.op _ (if q4.1 = 0 then 33 else 29, [some (.ref 18), some (.int l1), some (.int l2), some (.int l3), some (.int l4), none], [], am_T0 q4.2) rfl rfl ?_
        rcases l2_i h with ⟨hc, h⟩ | ⟨hc, h⟩
        · refine am_Rn.ifT hc ?_
          exact rfX0_cell_33 d N l1 l2 l3 l4 q4.2 _ h _ _
        · refine am_Rn.ifF hc ?_
          refine am_Rn.op _ (30, [some (.ref 18), some (.int l1), some (.int l2), some (.int l3), some (.int l4), none], [.int 1], am_T0 q4.2) rfl rfl ?_
          refine am_Rn.op _ (34, [some (.ref 18), some (.int l1), some (.int l2), some (.int l3), some (.int l4), none], [.int 1], am_T0 q4.2) rfl rfl ?_
          exact rfX0_cell_34 d N l1 l2 l3 l4 1 q4.2 _ h _ _
-- X0_fewest
def fX0_fewest_38 (N : Nat) (s0 : Int32) (S : St) : Option (Int32 × St) := some (s0, S)
set_option maxRecDepth 20000 in
theorem rfX0_fewest_38 (d N : Nat) (s0 : Int32) (S : St) (z : (Int32 × St)) (h : fX0_fewest_38 N s0 S = some z) (w0 : Option Value) (w1 : Option Value) (w2 : Option Value) (w3 : Option Value) (w4 : Option Value) (w5 : Option Value) : am_Rn (am_C (d + 2)) (am_ct 2) (am_rk 2) (some (.int z.1), am_T0 z.2) (38, [w0, w1, w2, w3, w4, w5], [.int s0], am_T0 S) := by
  unfold fX0_fewest_38 at h
  cases h
  exact am_Rn.rt _ rfl rfl
def fX0_fewest (N : Nat) (l1 : Int32) (l2 : Int32) (l3 : Int32) (l4 : Int32) (S : St) : Option (Int32 × St) := (fX0_cell N l1 l2 l3 l4 S).bind (fun q1 => (if q1.1 < 0 then fX0_fewest_38 N 1000000 q1.2 else (if 896 ≤ q1.1 then fX0_fewest_38 N 1000000 q1.2 else (if q1.1 < 0 ∨ 896 ≤ Int32.toNatClampNeg q1.1 then none else fX0_fewest_38 N (q1.2.1 19 (Int32.toNatClampNeg q1.1)) q1.2))))
set_option maxRecDepth 20000 in
theorem rfX0_fewest (d N : Nat) (l1 : Int32) (l2 : Int32) (l3 : Int32) (l4 : Int32) (S : St) (z : (Int32 × St)) (h : fX0_fewest N l1 l2 l3 l4 S = some z) : am_C (d + 3) 2 [.ref 18, .int l1, .int l2, .int l3, .int l4] (am_T0 S) (some (.int z.1), am_T0 z.2) := by
  unfold fX0_fewest at h
  show am_Rn (am_C (d + 2)) (am_ct 2) (am_rk 2) (some (.int z.1), am_T0 z.2) (0, [some (.ref 18), some (.int l1), some (.int l2), some (.int l3), some (.int l4), none], [], am_T0 S)
  refine am_Rn.op _ (1, [some (.ref 18), some (.int l1), some (.int l2), some (.int l3), some (.int l4), none], [.ref 18], am_T0 S) rfl rfl ?_
  refine am_Rn.op _ (2, [some (.ref 18), some (.int l1), some (.int l2), some (.int l3), some (.int l4), none], [.int l1, .ref 18], am_T0 S) rfl rfl ?_
  refine am_Rn.op _ (3, [some (.ref 18), some (.int l1), some (.int l2), some (.int l3), some (.int l4), none], [.int l2, .int l1, .ref 18], am_T0 S) rfl rfl ?_
  refine am_Rn.op _ (4, [some (.ref 18), some (.int l1), some (.int l2), some (.int l3), some (.int l4), none], [.int l3, .int l2, .int l1, .ref 18], am_T0 S) rfl rfl ?_
  refine am_Rn.op _ (6, [some (.ref 18), some (.int l1), some (.int l2), some (.int l3), some (.int l4), none], [.int l4, .int l3, .int l2, .int l1, .ref 18], am_T0 S) rfl rfl ?_
  obtain ⟨q1, hq1, h⟩ := l2_b h
  refine am_Rn.cl _ (some (.int q1.1)) (am_T0 q1.2) rfl rfl (rfX0_cell (d + 0) N l1 l2 l3 l4 S q1 hq1) ?_
  show am_Rn _ _ _ _ (9, [some (.ref 18), some (.int l1), some (.int l2), some (.int l3), some (.int l4), none], [.int q1.1], am_T0 q1.2)
  refine am_Rn.op _ (11, [some (.ref 18), some (.int l1), some (.int l2), some (.int l3), some (.int l4), some (.int q1.1)], [], am_T0 q1.2) rfl rfl ?_
  refine am_Rn.op _ (13, [some (.ref 18), some (.int l1), some (.int l2), some (.int l3), some (.int l4), some (.int q1.1)], [.int q1.1], am_T0 q1.2) rfl rfl ?_
  refine am_Rn.op _ (if q1.1 < 0 then 36 else 16, [some (.ref 18), some (.int l1), some (.int l2), some (.int l3), some (.int l4), some (.int q1.1)], [], am_T0 q1.2) rfl rfl ?_
  rcases l2_i h with ⟨hc, h⟩ | ⟨hc, h⟩
  · refine am_Rn.ifT hc ?_
    refine am_Rn.op _ (38, [some (.ref 18), some (.int l1), some (.int l2), some (.int l3), some (.int l4), some (.int q1.1)], [.int 1000000], am_T0 q1.2) rfl rfl ?_
    exact rfX0_fewest_38 d N 1000000 q1.2 _ h _ _ _ _ _ _
  · refine am_Rn.ifF hc ?_
    refine am_Rn.op _ (18, [some (.ref 18), some (.int l1), some (.int l2), some (.int l3), some (.int l4), some (.int q1.1)], [.int q1.1], am_T0 q1.2) rfl rfl ?_
    refine am_Rn.op _ (19, [some (.ref 18), some (.int l1), some (.int l2), some (.int l3), some (.int l4), some (.int q1.1)], [.ref 18, .int q1.1], am_T0 q1.2) rfl rfl ?_
    refine am_Rn.op _ (22, [some (.ref 18), some (.int l1), some (.int l2), some (.int l3), some (.int l4), some (.int q1.1)], [.ref 19, .int q1.1], am_T0 q1.2) rfl rfl ?_
    refine am_Rn.op _ (23, [some (.ref 18), some (.int l1), some (.int l2), some (.int l3), some (.int l4), some (.int q1.1)], [.int 896, .int q1.1], am_T0 q1.2) rfl rfl ?_
    refine am_Rn.op _ (if 896 ≤ q1.1 then 36 else 26, [some (.ref 18), some (.int l1), some (.int l2), some (.int l3), some (.int l4), some (.int q1.1)], [], am_T0 q1.2) rfl rfl ?_
    rcases l2_i h with ⟨hc, h⟩ | ⟨hc, h⟩
    · refine am_Rn.ifT hc ?_
      refine am_Rn.op _ (38, [some (.ref 18), some (.int l1), some (.int l2), some (.int l3), some (.int l4), some (.int q1.1)], [.int 1000000], am_T0 q1.2) rfl rfl ?_
      exact rfX0_fewest_38 d N 1000000 q1.2 _ h _ _ _ _ _ _
    · refine am_Rn.ifF hc ?_
      refine am_Rn.op _ (27, [some (.ref 18), some (.int l1), some (.int l2), some (.int l3), some (.int l4), some (.int q1.1)], [.ref 18], am_T0 q1.2) rfl rfl ?_
      refine am_Rn.op _ (30, [some (.ref 18), some (.int l1), some (.int l2), some (.int l3), some (.int l4), some (.int q1.1)], [.ref 19], am_T0 q1.2) rfl rfl ?_
      refine am_Rn.op _ (32, [some (.ref 18), some (.int l1), some (.int l2), some (.int l3), some (.int l4), some (.int q1.1)], [.int q1.1, .ref 19], am_T0 q1.2) rfl rfl ?_
      obtain ⟨hb2, h⟩ := l2_n h
      refine am_Rn.iald (n := 896) rfl rfl hb2 ?_
      show am_Rn _ _ _ _ (33, [some (.ref 18), some (.int l1), some (.int l2), some (.int l3), some (.int l4), some (.int q1.1)], [.int (q1.2.1 19 (Int32.toNatClampNeg q1.1))], am_T0 q1.2)
      refine am_Rn.op _ (38, [some (.ref 18), some (.int l1), some (.int l2), some (.int l3), some (.int l4), some (.int q1.1)], [.int (q1.2.1 19 (Int32.toNatClampNeg q1.1))], am_T0 q1.2) rfl rfl ?_
      exact rfX0_fewest_38 d N (q1.2.1 19 (Int32.toNatClampNeg q1.1)) q1.2 _ h _ _ _ _ _ _
-- X0_canLeave
def PfX0_canLeave_3 (d : Nat) (res : Option Value × am_S) (l1 : Int32) (l2 : Int32) (l3 : Int32) (x : Int32 × St) : Prop := am_Rn (am_C d) (am_ct 3) (am_rk 3) res (3, [some (.ref 18), some (.int l1), some (.int l2), some (.int l3), some (.int x.1)], [], am_T0 x.2)
def QfX0_canLeave_3 (d : Nat) (res : Option Value × am_S) (l1 : Int32) (l2 : Int32) (l3 : Int32) (y : (Int32 × St)) : Prop := res = (some (.int y.1), am_T0 y.2)
def bfX0_canLeave_3 (N : Nat) (l1 : Int32) (l2 : Int32) (l3 : Int32) (x : Int32 × St) : Option ((Int32 × St) ⊕ ((Int32 × St))) := (if 4 ≤ x.1 then some (.inr (0, x.2)) else (fX0_fewest N l1 l2 l3 x.1 x.2).bind (fun q1 => (if 1000000 ≤ q1.1 then some (.inl ((x.1 + 1), q1.2)) else some (.inr (1, q1.2)))))
def fX0_canLeave_3 (N : Nat) (l1 : Int32) (l2 : Int32) (l3 : Int32) (x : Int32 × St) : Option ((Int32 × St)) := whl N (bfX0_canLeave_3 N l1 l2 l3 ) x
set_option maxRecDepth 20000 in
theorem rbfX0_canLeave_3 (d N : Nat) (res : Option Value × am_S) (l1 : Int32) (l2 : Int32) (l3 : Int32) (x : Int32 × St) (z : (Int32 × St) ⊕ ((Int32 × St))) (h : bfX0_canLeave_3 N l1 l2 l3 x = some z) (hz : Sum.elim (PfX0_canLeave_3 (d + 3) res l1 l2 l3 ) (QfX0_canLeave_3 (d + 3) res l1 l2 l3 ) z) : PfX0_canLeave_3 (d + 3) res l1 l2 l3 x := by
  unfold bfX0_canLeave_3 at h
  show am_Rn (am_C (d + 3)) (am_ct 3) (am_rk 3) res (3, [some (.ref 18), some (.int l1), some (.int l2), some (.int l3), some (.int x.1)], [], am_T0 x.2)
  refine am_Rn.op _ (5, [some (.ref 18), some (.int l1), some (.int l2), some (.int l3), some (.int x.1)], [.int x.1], am_T0 x.2) rfl rfl ?_
  refine am_Rn.op _ (6, [some (.ref 18), some (.int l1), some (.int l2), some (.int l3), some (.int x.1)], [.int 4, .int x.1], am_T0 x.2) rfl rfl ?_
  refine am_Rn.op _ (if 4 ≤ x.1 then 31 else 9, [some (.ref 18), some (.int l1), some (.int l2), some (.int l3), some (.int x.1)], [], am_T0 x.2) rfl rfl ?_
  rcases l2_i h with ⟨hc, h⟩ | ⟨hc, h⟩
  · refine am_Rn.ifT hc ?_
    refine am_Rn.op _ (32, [some (.ref 18), some (.int l1), some (.int l2), some (.int l3), some (.int x.1)], [.int 0], am_T0 x.2) rfl rfl ?_
    cases h
    exact am_Rn.rt2 _ rfl rfl hz
  · refine am_Rn.ifF hc ?_
    refine am_Rn.op _ (10, [some (.ref 18), some (.int l1), some (.int l2), some (.int l3), some (.int x.1)], [.ref 18], am_T0 x.2) rfl rfl ?_
    refine am_Rn.op _ (11, [some (.ref 18), some (.int l1), some (.int l2), some (.int l3), some (.int x.1)], [.int l1, .ref 18], am_T0 x.2) rfl rfl ?_
    refine am_Rn.op _ (12, [some (.ref 18), some (.int l1), some (.int l2), some (.int l3), some (.int x.1)], [.int l2, .int l1, .ref 18], am_T0 x.2) rfl rfl ?_
    refine am_Rn.op _ (13, [some (.ref 18), some (.int l1), some (.int l2), some (.int l3), some (.int x.1)], [.int l3, .int l2, .int l1, .ref 18], am_T0 x.2) rfl rfl ?_
    refine am_Rn.op _ (15, [some (.ref 18), some (.int l1), some (.int l2), some (.int l3), some (.int x.1)], [.int x.1, .int l3, .int l2, .int l1, .ref 18], am_T0 x.2) rfl rfl ?_
    obtain ⟨q1, hq1, h⟩ := l2_b h
    refine am_Rn.cl _ (some (.int q1.1)) (am_T0 q1.2) rfl rfl (rfX0_fewest (d + 0) N l1 l2 l3 x.1 x.2 q1 hq1) ?_
    show am_Rn _ _ _ _ (18, [some (.ref 18), some (.int l1), some (.int l2), some (.int l3), some (.int x.1)], [.int q1.1], am_T0 q1.2)
    refine am_Rn.op _ (20, [some (.ref 18), some (.int l1), some (.int l2), some (.int l3), some (.int x.1)], [.int 1000000, .int q1.1], am_T0 q1.2) rfl rfl ?_
    refine am_Rn.op _ (if 1000000 ≤ q1.1 then 25 else 23, [some (.ref 18), some (.int l1), some (.int l2), some (.int l3), some (.int x.1)], [], am_T0 q1.2) rfl rfl ?_
    rcases l2_i h with ⟨hc, h⟩ | ⟨hc, h⟩
    · refine am_Rn.ifT hc ?_
      refine am_Rn.op _ (28, [some (.ref 18), some (.int l1), some (.int l2), some (.int l3), some (.int (x.1 + 1))], [], am_T0 q1.2) rfl rfl ?_
      refine am_Rn.op _ (3, [some (.ref 18), some (.int l1), some (.int l2), some (.int l3), some (.int (x.1 + 1))], [], am_T0 q1.2) rfl rfl ?_
      cases h
      exact hz 
    · refine am_Rn.ifF hc ?_
      refine am_Rn.op _ (24, [some (.ref 18), some (.int l1), some (.int l2), some (.int l3), some (.int x.1)], [.int 1], am_T0 q1.2) rfl rfl ?_
      cases h
      exact am_Rn.rt2 _ rfl rfl hz
theorem rfX0_canLeave_3 (d N : Nat) (res : Option Value × am_S) (l1 : Int32) (l2 : Int32) (l3 : Int32) (x : Int32 × St) (y : (Int32 × St)) (h : fX0_canLeave_3 N l1 l2 l3 x = some y) (hq : QfX0_canLeave_3 (d + 3) res l1 l2 l3 y) : PfX0_canLeave_3 (d + 3) res l1 l2 l3 x := whl_ind _ _ (fun x z => rbfX0_canLeave_3 d N res l1 l2 l3 x z) N x y h hq
def fX0_canLeave (N : Nat) (l1 : Int32) (l2 : Int32) (l3 : Int32) (S : St) : Option (Int32 × St) := (fX0_canLeave_3 N l1 l2 l3 (0, S)).bind (fun y2 => some (y2.1, y2.2))
set_option maxRecDepth 20000 in
theorem rfX0_canLeave (d N : Nat) (l1 : Int32) (l2 : Int32) (l3 : Int32) (S : St) (z : (Int32 × St)) (h : fX0_canLeave N l1 l2 l3 S = some z) : am_C (d + 4) 3 [.ref 18, .int l1, .int l2, .int l3] (am_T0 S) (some (.int z.1), am_T0 z.2) := by
  unfold fX0_canLeave at h
  show am_Rn (am_C (d + 3)) (am_ct 3) (am_rk 3) (some (.int z.1), am_T0 z.2) (0, [some (.ref 18), some (.int l1), some (.int l2), some (.int l3), none], [], am_T0 S)
  refine am_Rn.op _ (1, [some (.ref 18), some (.int l1), some (.int l2), some (.int l3), none], [.int 0], am_T0 S) rfl rfl ?_
  refine am_Rn.op _ (3, [some (.ref 18), some (.int l1), some (.int l2), some (.int l3), some (.int 0)], [], am_T0 S) rfl rfl ?_
  obtain ⟨y2, hy2, h⟩ := l2_b h
  refine rfX0_canLeave_3 d N _ l1 l2 l3 (0, S) y2 hy2 ?_ 
  cases h
  exact rfl
-- X0_put
def fX0_put (N : Nat) (l1 : Int32) (l2 : Int32) (l3 : Int32) (l4 : Int32) (l5 : Int32) (S : St) : Option (Int32 × St) := (fX0_cell N l1 l2 l3 l4 S).bind (fun q1 => (if q1.1 < 0 then some (0, q1.2) else (if 896 ≤ q1.1 then some (0, q1.2) else (if q1.1 < 0 ∨ 896 ≤ Int32.toNatClampNeg q1.1 then none else (if (q1.2.1 19 (Int32.toNatClampNeg q1.1)) = l5 then some (0, q1.2) else (if q1.1 < 0 ∨ 896 ≤ Int32.toNatClampNeg q1.1 then none else some (1, (st_i q1.2 19 (Int32.toNatClampNeg q1.1) l5))))))))
set_option maxRecDepth 20000 in
theorem rfX0_put (d N : Nat) (l1 : Int32) (l2 : Int32) (l3 : Int32) (l4 : Int32) (l5 : Int32) (S : St) (z : (Int32 × St)) (h : fX0_put N l1 l2 l3 l4 l5 S = some z) : am_C (d + 3) 4 [.ref 18, .int l1, .int l2, .int l3, .int l4, .int l5] (am_T0 S) (some (.int z.1), am_T0 z.2) := by
  unfold fX0_put at h
  show am_Rn (am_C (d + 2)) (am_ct 4) (am_rk 4) (some (.int z.1), am_T0 z.2) (0, [some (.ref 18), some (.int l1), some (.int l2), some (.int l3), some (.int l4), some (.int l5), none], [], am_T0 S)
  refine am_Rn.op _ (1, [some (.ref 18), some (.int l1), some (.int l2), some (.int l3), some (.int l4), some (.int l5), none], [.ref 18], am_T0 S) rfl rfl ?_
  refine am_Rn.op _ (2, [some (.ref 18), some (.int l1), some (.int l2), some (.int l3), some (.int l4), some (.int l5), none], [.int l1, .ref 18], am_T0 S) rfl rfl ?_
  refine am_Rn.op _ (3, [some (.ref 18), some (.int l1), some (.int l2), some (.int l3), some (.int l4), some (.int l5), none], [.int l2, .int l1, .ref 18], am_T0 S) rfl rfl ?_
  refine am_Rn.op _ (4, [some (.ref 18), some (.int l1), some (.int l2), some (.int l3), some (.int l4), some (.int l5), none], [.int l3, .int l2, .int l1, .ref 18], am_T0 S) rfl rfl ?_
  refine am_Rn.op _ (6, [some (.ref 18), some (.int l1), some (.int l2), some (.int l3), some (.int l4), some (.int l5), none], [.int l4, .int l3, .int l2, .int l1, .ref 18], am_T0 S) rfl rfl ?_
  obtain ⟨q1, hq1, h⟩ := l2_b h
  refine am_Rn.cl _ (some (.int q1.1)) (am_T0 q1.2) rfl rfl (rfX0_cell (d + 0) N l1 l2 l3 l4 S q1 hq1) ?_
  show am_Rn _ _ _ _ (9, [some (.ref 18), some (.int l1), some (.int l2), some (.int l3), some (.int l4), some (.int l5), none], [.int q1.1], am_T0 q1.2)
  refine am_Rn.op _ (11, [some (.ref 18), some (.int l1), some (.int l2), some (.int l3), some (.int l4), some (.int l5), some (.int q1.1)], [], am_T0 q1.2) rfl rfl ?_
  refine am_Rn.op _ (13, [some (.ref 18), some (.int l1), some (.int l2), some (.int l3), some (.int l4), some (.int l5), some (.int q1.1)], [.int q1.1], am_T0 q1.2) rfl rfl ?_
  refine am_Rn.op _ (if q1.1 < 0 then 38 else 16, [some (.ref 18), some (.int l1), some (.int l2), some (.int l3), some (.int l4), some (.int l5), some (.int q1.1)], [], am_T0 q1.2) rfl rfl ?_
  rcases l2_i h with ⟨hc, h⟩ | ⟨hc, h⟩
  · refine am_Rn.ifT hc ?_
    refine am_Rn.op _ (39, [some (.ref 18), some (.int l1), some (.int l2), some (.int l3), some (.int l4), some (.int l5), some (.int q1.1)], [.int 0], am_T0 q1.2) rfl rfl ?_
    cases h
    exact am_Rn.rt _ rfl rfl
  · refine am_Rn.ifF hc ?_
    refine am_Rn.op _ (18, [some (.ref 18), some (.int l1), some (.int l2), some (.int l3), some (.int l4), some (.int l5), some (.int q1.1)], [.int q1.1], am_T0 q1.2) rfl rfl ?_
    refine am_Rn.op _ (19, [some (.ref 18), some (.int l1), some (.int l2), some (.int l3), some (.int l4), some (.int l5), some (.int q1.1)], [.ref 18, .int q1.1], am_T0 q1.2) rfl rfl ?_
    refine am_Rn.op _ (22, [some (.ref 18), some (.int l1), some (.int l2), some (.int l3), some (.int l4), some (.int l5), some (.int q1.1)], [.ref 19, .int q1.1], am_T0 q1.2) rfl rfl ?_
    refine am_Rn.op _ (23, [some (.ref 18), some (.int l1), some (.int l2), some (.int l3), some (.int l4), some (.int l5), some (.int q1.1)], [.int 896, .int q1.1], am_T0 q1.2) rfl rfl ?_
    refine am_Rn.op _ (if 896 ≤ q1.1 then 38 else 26, [some (.ref 18), some (.int l1), some (.int l2), some (.int l3), some (.int l4), some (.int l5), some (.int q1.1)], [], am_T0 q1.2) rfl rfl ?_
    rcases l2_i h with ⟨hc, h⟩ | ⟨hc, h⟩
    · refine am_Rn.ifT hc ?_
      refine am_Rn.op _ (39, [some (.ref 18), some (.int l1), some (.int l2), some (.int l3), some (.int l4), some (.int l5), some (.int q1.1)], [.int 0], am_T0 q1.2) rfl rfl ?_
      cases h
      exact am_Rn.rt _ rfl rfl
    · refine am_Rn.ifF hc ?_
      refine am_Rn.op _ (27, [some (.ref 18), some (.int l1), some (.int l2), some (.int l3), some (.int l4), some (.int l5), some (.int q1.1)], [.ref 18], am_T0 q1.2) rfl rfl ?_
      refine am_Rn.op _ (30, [some (.ref 18), some (.int l1), some (.int l2), some (.int l3), some (.int l4), some (.int l5), some (.int q1.1)], [.ref 19], am_T0 q1.2) rfl rfl ?_
      refine am_Rn.op _ (32, [some (.ref 18), some (.int l1), some (.int l2), some (.int l3), some (.int l4), some (.int l5), some (.int q1.1)], [.int q1.1, .ref 19], am_T0 q1.2) rfl rfl ?_
      obtain ⟨hb2, h⟩ := l2_n h
      refine am_Rn.iald (n := 896) rfl rfl hb2 ?_
      show am_Rn _ _ _ _ (33, [some (.ref 18), some (.int l1), some (.int l2), some (.int l3), some (.int l4), some (.int l5), some (.int q1.1)], [.int (q1.2.1 19 (Int32.toNatClampNeg q1.1))], am_T0 q1.2)
      refine am_Rn.op _ (35, [some (.ref 18), some (.int l1), some (.int l2), some (.int l3), some (.int l4), some (.int l5), some (.int q1.1)], [.int l5, .int (q1.2.1 19 (Int32.toNatClampNeg q1.1))], am_T0 q1.2) rfl rfl ?_
      refine am_Rn.op _ (if (q1.2.1 19 (Int32.toNatClampNeg q1.1)) = l5 then 38 else 40, [some (.ref 18), some (.int l1), some (.int l2), some (.int l3), some (.int l4), some (.int l5), some (.int q1.1)], [], am_T0 q1.2) rfl rfl ?_
      rcases l2_i h with ⟨hc, h⟩ | ⟨hc, h⟩
      · refine am_Rn.ifT hc ?_
        refine am_Rn.op _ (39, [some (.ref 18), some (.int l1), some (.int l2), some (.int l3), some (.int l4), some (.int l5), some (.int q1.1)], [.int 0], am_T0 q1.2) rfl rfl ?_
        cases h
        exact am_Rn.rt _ rfl rfl
      · refine am_Rn.ifF hc ?_
        refine am_Rn.op _ (41, [some (.ref 18), some (.int l1), some (.int l2), some (.int l3), some (.int l4), some (.int l5), some (.int q1.1)], [.ref 18], am_T0 q1.2) rfl rfl ?_
        refine am_Rn.op _ (44, [some (.ref 18), some (.int l1), some (.int l2), some (.int l3), some (.int l4), some (.int l5), some (.int q1.1)], [.ref 19], am_T0 q1.2) rfl rfl ?_
        refine am_Rn.op _ (46, [some (.ref 18), some (.int l1), some (.int l2), some (.int l3), some (.int l4), some (.int l5), some (.int q1.1)], [.int q1.1, .ref 19], am_T0 q1.2) rfl rfl ?_
        refine am_Rn.op _ (48, [some (.ref 18), some (.int l1), some (.int l2), some (.int l3), some (.int l4), some (.int l5), some (.int q1.1)], [.int l5, .int q1.1, .ref 19], am_T0 q1.2) rfl rfl ?_
        obtain ⟨hb3, h⟩ := l2_n h
        refine am_Rn.iast (n := 896) rfl rfl hb3 ?_
        show am_Rn _ _ _ _ (49, [some (.ref 18), some (.int l1), some (.int l2), some (.int l3), some (.int l4), some (.int l5), some (.int q1.1)], [], am_T0 (st_i q1.2 19 (Int32.toNatClampNeg q1.1) l5))
        refine am_Rn.op _ (50, [some (.ref 18), some (.int l1), some (.int l2), some (.int l3), some (.int l4), some (.int l5), some (.int q1.1)], [.int 1], am_T0 (st_i q1.2 19 (Int32.toNatClampNeg q1.1) l5)) rfl rfl ?_
        cases h
        exact am_Rn.rt _ rfl rfl
-- X0_clear
def PfX0_clear_2 (d : Nat) (res : Option Value × am_S) (l1 : Int32) (x : Int32 × St) : Prop := ∀ (w3 w4 : Option Value), am_Rn (am_C d) (am_ct 5) (am_rk 5) res (2, [some (.ref 18), some (.int l1), some (.int x.1), w3, w4], [], am_T0 x.2)
def QfX0_clear_2 (d : Nat) (res : Option Value × am_S) (l1 : Int32) (y : St) : Prop := res = (none, am_T0 y)
def PfX0_clear_9 (d : Nat) (res : Option Value × am_S) (l1 : Int32) (l2 : Int32) (x : Int32 × St) : Prop := ∀ (w4 : Option Value), am_Rn (am_C d) (am_ct 5) (am_rk 5) res (9, [some (.ref 18), some (.int l1), some (.int l2), some (.int x.1), w4], [], am_T0 x.2)
def QfX0_clear_9 (d : Nat) (res : Option Value × am_S) (l1 : Int32) (l2 : Int32) (y : St) : Prop := ∀ (w3 w4 : Option Value), am_Rn (am_C d) (am_ct 5) (am_rk 5) res (48, [some (.ref 18), some (.int l1), some (.int l2), w3, w4], [], am_T0 y)
def PfX0_clear_18 (d : Nat) (res : Option Value × am_S) (l1 : Int32) (l2 : Int32) (l3 : Int32) (x : Int32 × St) : Prop := am_Rn (am_C d) (am_ct 5) (am_rk 5) res (18, [some (.ref 18), some (.int l1), some (.int l2), some (.int l3), some (.int x.1)], [], am_T0 x.2)
def QfX0_clear_18 (d : Nat) (res : Option Value × am_S) (l1 : Int32) (l2 : Int32) (l3 : Int32) (y : St) : Prop := ∀ (w4 : Option Value), am_Rn (am_C d) (am_ct 5) (am_rk 5) res (42, [some (.ref 18), some (.int l1), some (.int l2), some (.int l3), w4], [], am_T0 y)
def bfX0_clear_18 (N : Nat) (l1 : Int32) (l2 : Int32) (l3 : Int32) (x : Int32 × St) : Option ((Int32 × St) ⊕ (St)) := (if 4 ≤ x.1 then some (.inr (x.2)) else (fX0_put N l1 l2 l3 x.1 1000000 x.2).bind (fun q1 => some (.inl ((x.1 + 1), q1.2))))
def fX0_clear_18 (N : Nat) (l1 : Int32) (l2 : Int32) (l3 : Int32) (x : Int32 × St) : Option (St) := whl N (bfX0_clear_18 N l1 l2 l3 ) x
set_option maxRecDepth 20000 in
theorem rbfX0_clear_18 (d N : Nat) (res : Option Value × am_S) (l1 : Int32) (l2 : Int32) (l3 : Int32) (x : Int32 × St) (z : (Int32 × St) ⊕ (St)) (h : bfX0_clear_18 N l1 l2 l3 x = some z) (hz : Sum.elim (PfX0_clear_18 (d + 3) res l1 l2 l3 ) (QfX0_clear_18 (d + 3) res l1 l2 l3 ) z) : PfX0_clear_18 (d + 3) res l1 l2 l3 x := by
  unfold bfX0_clear_18 at h
  show am_Rn (am_C (d + 3)) (am_ct 5) (am_rk 5) res (18, [some (.ref 18), some (.int l1), some (.int l2), some (.int l3), some (.int x.1)], [], am_T0 x.2)
  refine am_Rn.op _ (20, [some (.ref 18), some (.int l1), some (.int l2), some (.int l3), some (.int x.1)], [.int x.1], am_T0 x.2) rfl rfl ?_
  refine am_Rn.op _ (21, [some (.ref 18), some (.int l1), some (.int l2), some (.int l3), some (.int x.1)], [.int 4, .int x.1], am_T0 x.2) rfl rfl ?_
  refine am_Rn.op _ (if 4 ≤ x.1 then 42 else 24, [some (.ref 18), some (.int l1), some (.int l2), some (.int l3), some (.int x.1)], [], am_T0 x.2) rfl rfl ?_
  rcases l2_i h with ⟨hc, h⟩ | ⟨hc, h⟩
  · refine am_Rn.ifT hc ?_
    cases h
    exact hz _
  · refine am_Rn.ifF hc ?_
    refine am_Rn.op _ (25, [some (.ref 18), some (.int l1), some (.int l2), some (.int l3), some (.int x.1)], [.ref 18], am_T0 x.2) rfl rfl ?_
    refine am_Rn.op _ (26, [some (.ref 18), some (.int l1), some (.int l2), some (.int l3), some (.int x.1)], [.int l1, .ref 18], am_T0 x.2) rfl rfl ?_
    refine am_Rn.op _ (27, [some (.ref 18), some (.int l1), some (.int l2), some (.int l3), some (.int x.1)], [.int l2, .int l1, .ref 18], am_T0 x.2) rfl rfl ?_
    refine am_Rn.op _ (28, [some (.ref 18), some (.int l1), some (.int l2), some (.int l3), some (.int x.1)], [.int l3, .int l2, .int l1, .ref 18], am_T0 x.2) rfl rfl ?_
    refine am_Rn.op _ (30, [some (.ref 18), some (.int l1), some (.int l2), some (.int l3), some (.int x.1)], [.int x.1, .int l3, .int l2, .int l1, .ref 18], am_T0 x.2) rfl rfl ?_
    refine am_Rn.op _ (32, [some (.ref 18), some (.int l1), some (.int l2), some (.int l3), some (.int x.1)], [.int 1000000, .int x.1, .int l3, .int l2, .int l1, .ref 18], am_T0 x.2) rfl rfl ?_
    obtain ⟨q1, hq1, h⟩ := l2_b h
    refine am_Rn.cl _ (some (.int q1.1)) (am_T0 q1.2) rfl rfl (rfX0_put (d + 0) N l1 l2 l3 x.1 1000000 x.2 q1 hq1) ?_
    show am_Rn _ _ _ _ (35, [some (.ref 18), some (.int l1), some (.int l2), some (.int l3), some (.int x.1)], [.int q1.1], am_T0 q1.2)
    refine am_Rn.op _ (36, [some (.ref 18), some (.int l1), some (.int l2), some (.int l3), some (.int x.1)], [], am_T0 q1.2) rfl rfl ?_
    refine am_Rn.op _ (39, [some (.ref 18), some (.int l1), some (.int l2), some (.int l3), some (.int (x.1 + 1))], [], am_T0 q1.2) rfl rfl ?_
    refine am_Rn.op _ (18, [some (.ref 18), some (.int l1), some (.int l2), some (.int l3), some (.int (x.1 + 1))], [], am_T0 q1.2) rfl rfl ?_
    cases h
    exact hz 
theorem rfX0_clear_18 (d N : Nat) (res : Option Value × am_S) (l1 : Int32) (l2 : Int32) (l3 : Int32) (x : Int32 × St) (y : St) (h : fX0_clear_18 N l1 l2 l3 x = some y) (hq : QfX0_clear_18 (d + 3) res l1 l2 l3 y) : PfX0_clear_18 (d + 3) res l1 l2 l3 x := whl_ind _ _ (fun x z => rbfX0_clear_18 d N res l1 l2 l3 x z) N x y h hq
def bfX0_clear_9 (N : Nat) (l1 : Int32) (l2 : Int32) (x : Int32 × St) : Option ((Int32 × St) ⊕ (St)) := (if 7 ≤ x.1 then some (.inr (x.2)) else (fX0_clear_18 N l1 l2 x.1 (0, x.2)).bind (fun y2 => some (.inl ((x.1 + 1), y2))))
def fX0_clear_9 (N : Nat) (l1 : Int32) (l2 : Int32) (x : Int32 × St) : Option (St) := whl N (bfX0_clear_9 N l1 l2 ) x
set_option maxRecDepth 20000 in
theorem rbfX0_clear_9 (d N : Nat) (res : Option Value × am_S) (l1 : Int32) (l2 : Int32) (x : Int32 × St) (z : (Int32 × St) ⊕ (St)) (h : bfX0_clear_9 N l1 l2 x = some z) (hz : Sum.elim (PfX0_clear_9 (d + 3) res l1 l2 ) (QfX0_clear_9 (d + 3) res l1 l2 ) z) : PfX0_clear_9 (d + 3) res l1 l2 x := by
  unfold bfX0_clear_9 at h
  show ∀ (w4 : Option Value), am_Rn (am_C (d + 3)) (am_ct 5) (am_rk 5) res (9, [some (.ref 18), some (.int l1), some (.int l2), some (.int x.1), w4], [], am_T0 x.2)
  intro w4
  refine am_Rn.op _ (10, [some (.ref 18), some (.int l1), some (.int l2), some (.int x.1), w4], [.int x.1], am_T0 x.2) rfl rfl ?_
  refine am_Rn.op _ (12, [some (.ref 18), some (.int l1), some (.int l2), some (.int x.1), w4], [.int 7, .int x.1], am_T0 x.2) rfl rfl ?_
  refine am_Rn.op _ (if 7 ≤ x.1 then 48 else 15, [some (.ref 18), some (.int l1), some (.int l2), some (.int x.1), w4], [], am_T0 x.2) rfl rfl ?_
  rcases l2_i h with ⟨hc, h⟩ | ⟨hc, h⟩
  · refine am_Rn.ifT hc ?_
    cases h
    exact hz _ _
  · refine am_Rn.ifF hc ?_
    refine am_Rn.op _ (16, [some (.ref 18), some (.int l1), some (.int l2), some (.int x.1), w4], [.int 0], am_T0 x.2) rfl rfl ?_
    refine am_Rn.op _ (18, [some (.ref 18), some (.int l1), some (.int l2), some (.int x.1), some (.int 0)], [], am_T0 x.2) rfl rfl ?_
    obtain ⟨y2, hy2, h⟩ := l2_b h
    refine rfX0_clear_18 d N _ l1 l2 x.1 (0, x.2) y2 hy2 ?_ 
    intro w3
    show am_Rn _ _ _ _ (42, [some (.ref 18), some (.int l1), some (.int l2), some (.int x.1), w3], [], am_T0 y2)
    refine am_Rn.op _ (45, [some (.ref 18), some (.int l1), some (.int l2), some (.int (x.1 + 1)), w3], [], am_T0 y2) rfl rfl ?_
    refine am_Rn.op _ (9, [some (.ref 18), some (.int l1), some (.int l2), some (.int (x.1 + 1)), w3], [], am_T0 y2) rfl rfl ?_
    cases h
    exact hz _
theorem rfX0_clear_9 (d N : Nat) (res : Option Value × am_S) (l1 : Int32) (l2 : Int32) (x : Int32 × St) (y : St) (h : fX0_clear_9 N l1 l2 x = some y) (hq : QfX0_clear_9 (d + 3) res l1 l2 y) : PfX0_clear_9 (d + 3) res l1 l2 x := whl_ind _ _ (fun x z => rbfX0_clear_9 d N res l1 l2 x z) N x y h hq
def bfX0_clear_2 (N : Nat) (l1 : Int32) (x : Int32 × St) : Option ((Int32 × St) ⊕ (St)) := (if 4 ≤ x.1 then some (.inr x.2) else (fX0_clear_9 N l1 x.1 (0, x.2)).bind (fun y4 => some (.inl ((x.1 + 1), y4))))
def fX0_clear_2 (N : Nat) (l1 : Int32) (x : Int32 × St) : Option (St) := whl N (bfX0_clear_2 N l1 ) x
set_option maxRecDepth 20000 in
theorem rbfX0_clear_2 (d N : Nat) (res : Option Value × am_S) (l1 : Int32) (x : Int32 × St) (z : (Int32 × St) ⊕ (St)) (h : bfX0_clear_2 N l1 x = some z) (hz : Sum.elim (PfX0_clear_2 (d + 3) res l1 ) (QfX0_clear_2 (d + 3) res l1 ) z) : PfX0_clear_2 (d + 3) res l1 x := by
  unfold bfX0_clear_2 at h
  show ∀ (w3 w4 : Option Value), am_Rn (am_C (d + 3)) (am_ct 5) (am_rk 5) res (2, [some (.ref 18), some (.int l1), some (.int x.1), w3, w4], [], am_T0 x.2)
  intro w3 w4
  refine am_Rn.op _ (3, [some (.ref 18), some (.int l1), some (.int x.1), w3, w4], [.int x.1], am_T0 x.2) rfl rfl ?_
  refine am_Rn.op _ (4, [some (.ref 18), some (.int l1), some (.int x.1), w3, w4], [.int 4, .int x.1], am_T0 x.2) rfl rfl ?_
  refine am_Rn.op _ (if 4 ≤ x.1 then 54 else 7, [some (.ref 18), some (.int l1), some (.int x.1), w3, w4], [], am_T0 x.2) rfl rfl ?_
  rcases l2_i h with ⟨hc, h⟩ | ⟨hc, h⟩
  · refine am_Rn.ifT hc ?_
    cases h
    exact am_Rn.rt2 _ rfl rfl hz
  · refine am_Rn.ifF hc ?_
    refine am_Rn.op _ (8, [some (.ref 18), some (.int l1), some (.int x.1), w3, w4], [.int 0], am_T0 x.2) rfl rfl ?_
    refine am_Rn.op _ (9, [some (.ref 18), some (.int l1), some (.int x.1), some (.int 0), w4], [], am_T0 x.2) rfl rfl ?_
    obtain ⟨y4, hy4, h⟩ := l2_b h
    refine rfX0_clear_9 d N _ l1 x.1 (0, x.2) y4 hy4 ?_ _
    intro w5 w6
    show am_Rn _ _ _ _ (48, [some (.ref 18), some (.int l1), some (.int x.1), w5, w6], [], am_T0 y4)
    refine am_Rn.op _ (51, [some (.ref 18), some (.int l1), some (.int (x.1 + 1)), w5, w6], [], am_T0 y4) rfl rfl ?_
    refine am_Rn.op _ (2, [some (.ref 18), some (.int l1), some (.int (x.1 + 1)), w5, w6], [], am_T0 y4) rfl rfl ?_
    cases h
    exact hz _ _
theorem rfX0_clear_2 (d N : Nat) (res : Option Value × am_S) (l1 : Int32) (x : Int32 × St) (y : St) (h : fX0_clear_2 N l1 x = some y) (hq : QfX0_clear_2 (d + 3) res l1 y) : PfX0_clear_2 (d + 3) res l1 x := whl_ind _ _ (fun x z => rbfX0_clear_2 d N res l1 x z) N x y h hq
def fX0_clear (N : Nat) (l1 : Int32) (S : St) : Option St := (fX0_clear_2 N l1 (0, S)).bind (fun y7 => some y7)
set_option maxRecDepth 20000 in
theorem rfX0_clear (d N : Nat) (l1 : Int32) (S : St) (z : St) (h : fX0_clear N l1 S = some z) : am_C (d + 4) 5 [.ref 18, .int l1] (am_T0 S) (none, am_T0 z) := by
  unfold fX0_clear at h
  show am_Rn (am_C (d + 3)) (am_ct 5) (am_rk 5) (none, am_T0 z) (0, [some (.ref 18), some (.int l1), none, none, none], [], am_T0 S)
  refine am_Rn.op _ (1, [some (.ref 18), some (.int l1), none, none, none], [.int 0], am_T0 S) rfl rfl ?_
  refine am_Rn.op _ (2, [some (.ref 18), some (.int l1), some (.int 0), none, none], [], am_T0 S) rfl rfl ?_
  obtain ⟨y7, hy7, h⟩ := l2_b h
  refine rfX0_clear_2 d N _ l1 (0, S) y7 hy7 ?_ _ _
  cases h
  exact rfl
-- X7_isKind
def fX7_isKind_15 (N : Nat) (s0 : Int32) (S : St) : Option (Int32 × St) := (if s0 = 0 ∨ s0 = 1 then some (s0, S) else none)
set_option maxRecDepth 20000 in
theorem rfX7_isKind_15 (d N : Nat) (s0 : Int32) (S : St) (z : (Int32 × St)) (h : fX7_isKind_15 N s0 S = some z) (w0 : Option Value) : am_Rn (am_C (d + 0)) (am_ct 100) (am_rk 100) (some (.int z.1), am_T0 z.2) (15, [w0], [.int s0], am_T0 S) := by
  unfold fX7_isKind_15 at h
  obtain ⟨hb1, h⟩ := l2_y h
  cases h
  exact am_Rn.rt _ rfl (l2_rz hb1)
def fX7_isKind (N : Nat) (l0 : Int32) (S : St) : Option (Int32 × St) := (if l0 < 0 then fX7_isKind_15 N 0 S else (if 6 ≤ l0 then fX7_isKind_15 N 0 S else fX7_isKind_15 N 1 S))
set_option maxRecDepth 20000 in
theorem rfX7_isKind (d N : Nat) (l0 : Int32) (S : St) (z : (Int32 × St)) (h : fX7_isKind N l0 S = some z) : am_C (d + 1) 100 [.int l0] (am_T0 S) (some (.int z.1), am_T0 z.2) := by
  unfold fX7_isKind at h
  show am_Rn (am_C (d + 0)) (am_ct 100) (am_rk 100) (some (.int z.1), am_T0 z.2) (0, [some (.int l0)], [], am_T0 S)
  refine am_Rn.op _ (1, [some (.int l0)], [.int l0], am_T0 S) rfl rfl ?_
  refine am_Rn.op _ (if l0 < 0 then 14 else 4, [some (.int l0)], [], am_T0 S) rfl rfl ?_
  rcases l2_i h with ⟨hc, h⟩ | ⟨hc, h⟩
  · refine am_Rn.ifT hc ?_
    refine am_Rn.op _ (15, [some (.int l0)], [.int 0], am_T0 S) rfl rfl ?_
    exact rfX7_isKind_15 d N 0 S _ h _
  · refine am_Rn.ifF hc ?_
    refine am_Rn.op _ (5, [some (.int l0)], [.int l0], am_T0 S) rfl rfl ?_
    refine am_Rn.op _ (7, [some (.int l0)], [.int 6, .int l0], am_T0 S) rfl rfl ?_
    refine am_Rn.op _ (if 6 ≤ l0 then 14 else 10, [some (.int l0)], [], am_T0 S) rfl rfl ?_
    rcases l2_i h with ⟨hc, h⟩ | ⟨hc, h⟩
    · refine am_Rn.ifT hc ?_
      refine am_Rn.op _ (15, [some (.int l0)], [.int 0], am_T0 S) rfl rfl ?_
      exact rfX7_isKind_15 d N 0 S _ h _
    · refine am_Rn.ifF hc ?_
      refine am_Rn.op _ (11, [some (.int l0)], [.int 1], am_T0 S) rfl rfl ?_
      refine am_Rn.op _ (15, [some (.int l0)], [.int 1], am_T0 S) rfl rfl ?_
      exact rfX7_isKind_15 d N 1 S _ h _
-- X1_above
def fX1_above_17 (N : Nat) (s0 : Int32) (S : St) : Option (Int32 × St) := some (s0, S)
set_option maxRecDepth 20000 in
theorem rfX1_above_17 (d N : Nat) (s0 : Int32) (S : St) (z : (Int32 × St)) (h : fX1_above_17 N s0 S = some z) (w0 : Option Value) (w1 : Option Value) : am_Rn (am_C (d + 1)) (am_ct 7) (am_rk 7) (some (.int z.1), am_T0 z.2) (17, [w0, w1], [.int s0], am_T0 S) := by
  unfold fX1_above_17 at h
  cases h
  exact am_Rn.rt _ rfl rfl
def fX1_above (N : Nat) (l1 : Int32) (S : St) : Option (Int32 × St) := (fX7_isKind N l1 S).bind (fun q1 => (if q1.1 = 0 then fX1_above_17 N 0 q1.2 else (if l1 < 0 ∨ 6 ≤ Int32.toNatClampNeg l1 then none else fX1_above_17 N (q1.2.1 15 (Int32.toNatClampNeg l1)) q1.2)))
set_option maxRecDepth 20000 in
theorem rfX1_above (d N : Nat) (l1 : Int32) (S : St) (z : (Int32 × St)) (h : fX1_above N l1 S = some z) : am_C (d + 2) 7 [.ref 13, .int l1] (am_T0 S) (some (.int z.1), am_T0 z.2) := by
  unfold fX1_above at h
  show am_Rn (am_C (d + 1)) (am_ct 7) (am_rk 7) (some (.int z.1), am_T0 z.2) (0, [some (.ref 13), some (.int l1)], [], am_T0 S)
  refine am_Rn.op _ (1, [some (.ref 13), some (.int l1)], [.int l1], am_T0 S) rfl rfl ?_
  obtain ⟨q1, hq1, h⟩ := l2_b h
  refine am_Rn.cl _ (some (.int q1.1)) (am_T0 q1.2) rfl rfl (rfX7_isKind (d + 0) N l1 S q1 hq1) ?_
  show am_Rn _ _ _ _ (4, [some (.ref 13), some (.int l1)], [.int q1.1], am_T0 q1.2)
  refine am_Rn.op _ (if q1.1 = 0 then 16 else 7, [some (.ref 13), some (.int l1)], [], am_T0 q1.2) rfl rfl ?_
  rcases l2_i h with ⟨hc, h⟩ | ⟨hc, h⟩
  · refine am_Rn.ifT hc ?_
    refine am_Rn.op _ (17, [some (.ref 13), some (.int l1)], [.int 0], am_T0 q1.2) rfl rfl ?_
    exact rfX1_above_17 d N 0 q1.2 _ h _ _
  · refine am_Rn.ifF hc ?_
    refine am_Rn.op _ (8, [some (.ref 13), some (.int l1)], [.ref 13], am_T0 q1.2) rfl rfl ?_
    refine am_Rn.op _ (11, [some (.ref 13), some (.int l1)], [.ref 15], am_T0 q1.2) rfl rfl ?_
    refine am_Rn.op _ (12, [some (.ref 13), some (.int l1)], [.int l1, .ref 15], am_T0 q1.2) rfl rfl ?_
    obtain ⟨hb2, h⟩ := l2_n h
    refine am_Rn.iald (n := 6) rfl rfl hb2 ?_
    show am_Rn _ _ _ _ (13, [some (.ref 13), some (.int l1)], [.int (q1.2.1 15 (Int32.toNatClampNeg l1))], am_T0 q1.2)
    refine am_Rn.op _ (17, [some (.ref 13), some (.int l1)], [.int (q1.2.1 15 (Int32.toNatClampNeg l1))], am_T0 q1.2) rfl rfl ?_
    exact rfX1_above_17 d N (q1.2.1 15 (Int32.toNatClampNeg l1)) q1.2 _ h _ _
-- X7_has
def fX7_has_14 (N : Nat) (s0 : Int32) (S : St) : Option (Int32 × St) := (if s0 = 0 ∨ s0 = 1 then some (s0, S) else none)
set_option maxRecDepth 20000 in
theorem rfX7_has_14 (d N : Nat) (s0 : Int32) (S : St) (z : (Int32 × St)) (h : fX7_has_14 N s0 S = some z) (w0 : Option Value) (w1 : Option Value) : am_Rn (am_C (d + 0)) (am_ct 103) (am_rk 103) (some (.int z.1), am_T0 z.2) (14, [w0, w1], [.int s0], am_T0 S) := by
  unfold fX7_has_14 at h
  obtain ⟨hb1, h⟩ := l2_y h
  cases h
  exact am_Rn.rt _ rfl (l2_rz hb1)
def fX7_has (N : Nat) (l0 : Int32) (l1 : Int32) (S : St) : Option (Int32 × St) := (if ((l0 >>> (l1 &&& 31)) &&& 1) = 1 then fX7_has_14 N 1 S else fX7_has_14 N 0 S)
set_option maxRecDepth 20000 in
theorem rfX7_has (d N : Nat) (l0 : Int32) (l1 : Int32) (S : St) (z : (Int32 × St)) (h : fX7_has N l0 l1 S = some z) : am_C (d + 1) 103 [.int l0, .int l1] (am_T0 S) (some (.int z.1), am_T0 z.2) := by
  unfold fX7_has at h
  show am_Rn (am_C (d + 0)) (am_ct 103) (am_rk 103) (some (.int z.1), am_T0 z.2) (0, [some (.int l0), some (.int l1)], [], am_T0 S)
  refine am_Rn.op _ (1, [some (.int l0), some (.int l1)], [.int l0], am_T0 S) rfl rfl ?_
  refine am_Rn.op _ (2, [some (.int l0), some (.int l1)], [.int l1, .int l0], am_T0 S) rfl rfl ?_
  refine am_Rn.op _ (3, [some (.int l0), some (.int l1)], [.int (l0 >>> (l1 &&& 31))], am_T0 S) rfl rfl ?_
  refine am_Rn.op _ (4, [some (.int l0), some (.int l1)], [.int 1, .int (l0 >>> (l1 &&& 31))], am_T0 S) rfl rfl ?_
  refine am_Rn.op _ (5, [some (.int l0), some (.int l1)], [.int ((l0 >>> (l1 &&& 31)) &&& 1)], am_T0 S) rfl rfl ?_
  refine am_Rn.op _ (6, [some (.int l0), some (.int l1)], [.int 1, .int ((l0 >>> (l1 &&& 31)) &&& 1)], am_T0 S) rfl rfl ?_
  refine am_Rn.op _ (if ((l0 >>> (l1 &&& 31)) &&& 1) = 1 then 9 else 13, [some (.int l0), some (.int l1)], [], am_T0 S) rfl rfl ?_
  rcases l2_i h with ⟨hc, h⟩ | ⟨hc, h⟩
  · refine am_Rn.ifT hc ?_
    refine am_Rn.op _ (10, [some (.int l0), some (.int l1)], [.int 1], am_T0 S) rfl rfl ?_
    refine am_Rn.op _ (14, [some (.int l0), some (.int l1)], [.int 1], am_T0 S) rfl rfl ?_
    exact rfX7_has_14 d N 1 S _ h _ _
  · refine am_Rn.ifF hc ?_
    refine am_Rn.op _ (14, [some (.int l0), some (.int l1)], [.int 0], am_T0 S) rfl rfl ?_
    exact rfX7_has_14 d N 0 S _ h _ _
-- X1_findAbove
def PfX1_findAbove_2 (d : Nat) (res : Option Value × am_S) (x : Int32 × St) : Prop := ∀ (w2 w3 : Option Value), am_Rn (am_C d) (am_ct 9) (am_rk 9) res (2, [some (.ref 13), some (.int x.1), w2, w3], [], am_T0 x.2)
def QfX1_findAbove_2 (d : Nat) (res : Option Value × am_S) (y : St) : Prop := res = (none, am_T0 y)
def PfX1_findAbove_19 (d : Nat) (res : Option Value × am_S) (l1 : Int32) (x : Int32 × Int32 × St) : Prop := am_Rn (am_C d) (am_ct 9) (am_rk 9) res (19, [some (.ref 13), some (.int l1), some (.int x.1), some (.int x.2.1)], [], am_T0 x.2.2)
def QfX1_findAbove_19 (d : Nat) (res : Option Value × am_S) (l1 : Int32) (y : St) : Prop := ∀ (w2 w3 : Option Value), am_Rn (am_C d) (am_ct 9) (am_rk 9) res (57, [some (.ref 13), some (.int l1), w2, w3], [], am_T0 y)
def bfX1_findAbove_19 (N : Nat) (l1 : Int32) (x : Int32 × Int32 × St) : Option ((Int32 × Int32 × St) ⊕ (St)) := (if 6 ≤ x.2.1 then some (.inr (x.2.2)) else (fX7_isKind N x.1 x.2.2).bind (fun q1 => (if q1.1 = 0 then some (.inr (q1.2)) else (if l1 < 0 ∨ 6 ≤ Int32.toNatClampNeg l1 then none else (if l1 < 0 ∨ 6 ≤ Int32.toNatClampNeg l1 then none else (if x.1 < 0 ∨ 6 ≤ Int32.toNatClampNeg x.1 then none else some (.inl (((st_i q1.2 15 (Int32.toNatClampNeg l1) ((q1.2.1 15 (Int32.toNatClampNeg l1)) ||| (1 <<< (x.1 &&& 31)))).1 14 (Int32.toNatClampNeg x.1)), (x.2.1 + 1), (st_i q1.2 15 (Int32.toNatClampNeg l1) ((q1.2.1 15 (Int32.toNatClampNeg l1)) ||| (1 <<< (x.1 &&& 31))))))))))))
def fX1_findAbove_19 (N : Nat) (l1 : Int32) (x : Int32 × Int32 × St) : Option (St) := whl N (bfX1_findAbove_19 N l1 ) x
set_option maxRecDepth 20000 in
theorem rbfX1_findAbove_19 (d N : Nat) (res : Option Value × am_S) (l1 : Int32) (x : Int32 × Int32 × St) (z : (Int32 × Int32 × St) ⊕ (St)) (h : bfX1_findAbove_19 N l1 x = some z) (hz : Sum.elim (PfX1_findAbove_19 (d + 1) res l1 ) (QfX1_findAbove_19 (d + 1) res l1 ) z) : PfX1_findAbove_19 (d + 1) res l1 x := by
  unfold bfX1_findAbove_19 at h
  show am_Rn (am_C (d + 1)) (am_ct 9) (am_rk 9) res (19, [some (.ref 13), some (.int l1), some (.int x.1), some (.int x.2.1)], [], am_T0 x.2.2)
  refine am_Rn.op _ (20, [some (.ref 13), some (.int l1), some (.int x.1), some (.int x.2.1)], [.int x.2.1], am_T0 x.2.2) rfl rfl ?_
  refine am_Rn.op _ (22, [some (.ref 13), some (.int l1), some (.int x.1), some (.int x.2.1)], [.int 6, .int x.2.1], am_T0 x.2.2) rfl rfl ?_
  refine am_Rn.op _ (if 6 ≤ x.2.1 then 57 else 25, [some (.ref 13), some (.int l1), some (.int x.1), some (.int x.2.1)], [], am_T0 x.2.2) rfl rfl ?_
  rcases l2_i h with ⟨hc, h⟩ | ⟨hc, h⟩
  · refine am_Rn.ifT hc ?_
    cases h
    exact hz _ _
  · refine am_Rn.ifF hc ?_
    refine am_Rn.op _ (26, [some (.ref 13), some (.int l1), some (.int x.1), some (.int x.2.1)], [.int x.1], am_T0 x.2.2) rfl rfl ?_
    obtain ⟨q1, hq1, h⟩ := l2_b h
    refine am_Rn.cl _ (some (.int q1.1)) (am_T0 q1.2) rfl rfl (rfX7_isKind (d + 0) N x.1 x.2.2 q1 hq1) ?_
    show am_Rn _ _ _ _ (29, [some (.ref 13), some (.int l1), some (.int x.1), some (.int x.2.1)], [.int q1.1], am_T0 q1.2)
    refine am_Rn.op _ (if q1.1 = 0 then 57 else 32, [some (.ref 13), some (.int l1), some (.int x.1), some (.int x.2.1)], [], am_T0 q1.2) rfl rfl ?_
    rcases l2_i h with ⟨hc, h⟩ | ⟨hc, h⟩
    · refine am_Rn.ifT hc ?_
      cases h
      exact hz _ _
    · refine am_Rn.ifF hc ?_
      refine am_Rn.op _ (33, [some (.ref 13), some (.int l1), some (.int x.1), some (.int x.2.1)], [.ref 13], am_T0 q1.2) rfl rfl ?_
      refine am_Rn.op _ (36, [some (.ref 13), some (.int l1), some (.int x.1), some (.int x.2.1)], [.ref 15], am_T0 q1.2) rfl rfl ?_
      refine am_Rn.op _ (37, [some (.ref 13), some (.int l1), some (.int x.1), some (.int x.2.1)], [.int l1, .ref 15], am_T0 q1.2) rfl rfl ?_
      refine am_Rn.op _ (38, [some (.ref 13), some (.int l1), some (.int x.1), some (.int x.2.1)], [.int l1, .ref 15, .int l1, .ref 15], am_T0 q1.2) rfl rfl ?_
      obtain ⟨hb2, h⟩ := l2_n h
      refine am_Rn.iald (n := 6) rfl rfl hb2 ?_
      show am_Rn _ _ _ _ (39, [some (.ref 13), some (.int l1), some (.int x.1), some (.int x.2.1)], [.int (q1.2.1 15 (Int32.toNatClampNeg l1)), .int l1, .ref 15], am_T0 q1.2)
      refine am_Rn.op _ (40, [some (.ref 13), some (.int l1), some (.int x.1), some (.int x.2.1)], [.int 1, .int (q1.2.1 15 (Int32.toNatClampNeg l1)), .int l1, .ref 15], am_T0 q1.2) rfl rfl ?_
      refine am_Rn.op _ (41, [some (.ref 13), some (.int l1), some (.int x.1), some (.int x.2.1)], [.int x.1, .int 1, .int (q1.2.1 15 (Int32.toNatClampNeg l1)), .int l1, .ref 15], am_T0 q1.2) rfl rfl ?_
      refine am_Rn.op _ (42, [some (.ref 13), some (.int l1), some (.int x.1), some (.int x.2.1)], [.int (1 <<< (x.1 &&& 31)), .int (q1.2.1 15 (Int32.toNatClampNeg l1)), .int l1, .ref 15], am_T0 q1.2) rfl rfl ?_
      refine am_Rn.op _ (43, [some (.ref 13), some (.int l1), some (.int x.1), some (.int x.2.1)], [.int ((q1.2.1 15 (Int32.toNatClampNeg l1)) ||| (1 <<< (x.1 &&& 31))), .int l1, .ref 15], am_T0 q1.2) rfl rfl ?_
      obtain ⟨hb3, h⟩ := l2_n h
      refine am_Rn.iast (n := 6) rfl rfl hb3 ?_
      show am_Rn _ _ _ _ (44, [some (.ref 13), some (.int l1), some (.int x.1), some (.int x.2.1)], [], am_T0 (st_i q1.2 15 (Int32.toNatClampNeg l1) ((q1.2.1 15 (Int32.toNatClampNeg l1)) ||| (1 <<< (x.1 &&& 31)))))
      refine am_Rn.op _ (45, [some (.ref 13), some (.int l1), some (.int x.1), some (.int x.2.1)], [.ref 13], am_T0 (st_i q1.2 15 (Int32.toNatClampNeg l1) ((q1.2.1 15 (Int32.toNatClampNeg l1)) ||| (1 <<< (x.1 &&& 31))))) rfl rfl ?_
      refine am_Rn.op _ (48, [some (.ref 13), some (.int l1), some (.int x.1), some (.int x.2.1)], [.ref 14], am_T0 (st_i q1.2 15 (Int32.toNatClampNeg l1) ((q1.2.1 15 (Int32.toNatClampNeg l1)) ||| (1 <<< (x.1 &&& 31))))) rfl rfl ?_
      refine am_Rn.op _ (49, [some (.ref 13), some (.int l1), some (.int x.1), some (.int x.2.1)], [.int x.1, .ref 14], am_T0 (st_i q1.2 15 (Int32.toNatClampNeg l1) ((q1.2.1 15 (Int32.toNatClampNeg l1)) ||| (1 <<< (x.1 &&& 31))))) rfl rfl ?_
      obtain ⟨hb4, h⟩ := l2_n h
      refine am_Rn.iald (n := 6) rfl rfl hb4 ?_
      show am_Rn _ _ _ _ (50, [some (.ref 13), some (.int l1), some (.int x.1), some (.int x.2.1)], [.int ((st_i q1.2 15 (Int32.toNatClampNeg l1) ((q1.2.1 15 (Int32.toNatClampNeg l1)) ||| (1 <<< (x.1 &&& 31)))).1 14 (Int32.toNatClampNeg x.1))], am_T0 (st_i q1.2 15 (Int32.toNatClampNeg l1) ((q1.2.1 15 (Int32.toNatClampNeg l1)) ||| (1 <<< (x.1 &&& 31)))))
      refine am_Rn.op _ (51, [some (.ref 13), some (.int l1), some (.int ((st_i q1.2 15 (Int32.toNatClampNeg l1) ((q1.2.1 15 (Int32.toNatClampNeg l1)) ||| (1 <<< (x.1 &&& 31)))).1 14 (Int32.toNatClampNeg x.1))), some (.int x.2.1)], [], am_T0 (st_i q1.2 15 (Int32.toNatClampNeg l1) ((q1.2.1 15 (Int32.toNatClampNeg l1)) ||| (1 <<< (x.1 &&& 31))))) rfl rfl ?_
      refine am_Rn.op _ (54, [some (.ref 13), some (.int l1), some (.int ((st_i q1.2 15 (Int32.toNatClampNeg l1) ((q1.2.1 15 (Int32.toNatClampNeg l1)) ||| (1 <<< (x.1 &&& 31)))).1 14 (Int32.toNatClampNeg x.1))), some (.int (x.2.1 + 1))], [], am_T0 (st_i q1.2 15 (Int32.toNatClampNeg l1) ((q1.2.1 15 (Int32.toNatClampNeg l1)) ||| (1 <<< (x.1 &&& 31))))) rfl rfl ?_
      refine am_Rn.op _ (19, [some (.ref 13), some (.int l1), some (.int ((st_i q1.2 15 (Int32.toNatClampNeg l1) ((q1.2.1 15 (Int32.toNatClampNeg l1)) ||| (1 <<< (x.1 &&& 31)))).1 14 (Int32.toNatClampNeg x.1))), some (.int (x.2.1 + 1))], [], am_T0 (st_i q1.2 15 (Int32.toNatClampNeg l1) ((q1.2.1 15 (Int32.toNatClampNeg l1)) ||| (1 <<< (x.1 &&& 31))))) rfl rfl ?_
      cases h
      exact hz 
theorem rfX1_findAbove_19 (d N : Nat) (res : Option Value × am_S) (l1 : Int32) (x : Int32 × Int32 × St) (y : St) (h : fX1_findAbove_19 N l1 x = some y) (hq : QfX1_findAbove_19 (d + 1) res l1 y) : PfX1_findAbove_19 (d + 1) res l1 x := whl_ind _ _ (fun x z => rbfX1_findAbove_19 d N res l1 x z) N x y h hq
def bfX1_findAbove_2 (N : Nat) (x : Int32 × St) : Option ((Int32 × St) ⊕ (St)) := (if 6 ≤ x.1 then some (.inr x.2) else (if x.1 < 0 ∨ 6 ≤ Int32.toNatClampNeg x.1 then none else (fX1_findAbove_19 N x.1 (x.1, 0, (st_i x.2 15 (Int32.toNatClampNeg x.1) 0))).bind (fun y6 => some (.inl ((x.1 + 1), y6)))))
def fX1_findAbove_2 (N : Nat) (x : Int32 × St) : Option (St) := whl N (bfX1_findAbove_2 N ) x
set_option maxRecDepth 20000 in
theorem rbfX1_findAbove_2 (d N : Nat) (res : Option Value × am_S) (x : Int32 × St) (z : (Int32 × St) ⊕ (St)) (h : bfX1_findAbove_2 N x = some z) (hz : Sum.elim (PfX1_findAbove_2 (d + 1) res ) (QfX1_findAbove_2 (d + 1) res ) z) : PfX1_findAbove_2 (d + 1) res x := by
  unfold bfX1_findAbove_2 at h
  show ∀ (w2 w3 : Option Value), am_Rn (am_C (d + 1)) (am_ct 9) (am_rk 9) res (2, [some (.ref 13), some (.int x.1), w2, w3], [], am_T0 x.2)
  intro w2 w3
  refine am_Rn.op _ (3, [some (.ref 13), some (.int x.1), w2, w3], [.int x.1], am_T0 x.2) rfl rfl ?_
  refine am_Rn.op _ (5, [some (.ref 13), some (.int x.1), w2, w3], [.int 6, .int x.1], am_T0 x.2) rfl rfl ?_
  refine am_Rn.op _ (if 6 ≤ x.1 then 63 else 8, [some (.ref 13), some (.int x.1), w2, w3], [], am_T0 x.2) rfl rfl ?_
  rcases l2_i h with ⟨hc, h⟩ | ⟨hc, h⟩
  · refine am_Rn.ifT hc ?_
    cases h
    exact am_Rn.rt2 _ rfl rfl hz
  · refine am_Rn.ifF hc ?_
    refine am_Rn.op _ (9, [some (.ref 13), some (.int x.1), w2, w3], [.ref 13], am_T0 x.2) rfl rfl ?_
    refine am_Rn.op _ (12, [some (.ref 13), some (.int x.1), w2, w3], [.ref 15], am_T0 x.2) rfl rfl ?_
    refine am_Rn.op _ (13, [some (.ref 13), some (.int x.1), w2, w3], [.int x.1, .ref 15], am_T0 x.2) rfl rfl ?_
    refine am_Rn.op _ (14, [some (.ref 13), some (.int x.1), w2, w3], [.int 0, .int x.1, .ref 15], am_T0 x.2) rfl rfl ?_
    obtain ⟨hb5, h⟩ := l2_n h
    refine am_Rn.iast (n := 6) rfl rfl hb5 ?_
    show am_Rn _ _ _ _ (15, [some (.ref 13), some (.int x.1), w2, w3], [], am_T0 (st_i x.2 15 (Int32.toNatClampNeg x.1) 0))
    refine am_Rn.op _ (16, [some (.ref 13), some (.int x.1), w2, w3], [.int x.1], am_T0 (st_i x.2 15 (Int32.toNatClampNeg x.1) 0)) rfl rfl ?_
    refine am_Rn.op _ (17, [some (.ref 13), some (.int x.1), some (.int x.1), w3], [], am_T0 (st_i x.2 15 (Int32.toNatClampNeg x.1) 0)) rfl rfl ?_
    refine am_Rn.op _ (18, [some (.ref 13), some (.int x.1), some (.int x.1), w3], [.int 0], am_T0 (st_i x.2 15 (Int32.toNatClampNeg x.1) 0)) rfl rfl ?_
    refine am_Rn.op _ (19, [some (.ref 13), some (.int x.1), some (.int x.1), some (.int 0)], [], am_T0 (st_i x.2 15 (Int32.toNatClampNeg x.1) 0)) rfl rfl ?_
    obtain ⟨y6, hy6, h⟩ := l2_b h
    refine rfX1_findAbove_19 d N _ x.1 (x.1, 0, (st_i x.2 15 (Int32.toNatClampNeg x.1) 0)) y6 hy6 ?_ 
    intro w7 w8
    show am_Rn _ _ _ _ (57, [some (.ref 13), some (.int x.1), w7, w8], [], am_T0 y6)
    refine am_Rn.op _ (60, [some (.ref 13), some (.int (x.1 + 1)), w7, w8], [], am_T0 y6) rfl rfl ?_
    refine am_Rn.op _ (2, [some (.ref 13), some (.int (x.1 + 1)), w7, w8], [], am_T0 y6) rfl rfl ?_
    cases h
    exact hz _ _
theorem rfX1_findAbove_2 (d N : Nat) (res : Option Value × am_S) (x : Int32 × St) (y : St) (h : fX1_findAbove_2 N x = some y) (hq : QfX1_findAbove_2 (d + 1) res y) : PfX1_findAbove_2 (d + 1) res x := whl_ind _ _ (fun x z => rbfX1_findAbove_2 d N res x z) N x y h hq
def fX1_findAbove (N : Nat) (S : St) : Option St := (fX1_findAbove_2 N (0, S)).bind (fun y9 => some y9)
set_option maxRecDepth 20000 in
theorem rfX1_findAbove (d N : Nat) (S : St) (z : St) (h : fX1_findAbove N S = some z) : am_C (d + 2) 9 [.ref 13] (am_T0 S) (none, am_T0 z) := by
  unfold fX1_findAbove at h
  show am_Rn (am_C (d + 1)) (am_ct 9) (am_rk 9) (none, am_T0 z) (0, [some (.ref 13), none, none, none], [], am_T0 S)
  refine am_Rn.op _ (1, [some (.ref 13), none, none, none], [.int 0], am_T0 S) rfl rfl ?_
  refine am_Rn.op _ (2, [some (.ref 13), some (.int 0), none, none], [], am_T0 S) rfl rfl ?_
  obtain ⟨y9, hy9, h⟩ := l2_b h
  refine rfX1_findAbove_2 d N _  (0, S) y9 hy9 ?_ _ _
  cases h
  exact rfl
-- X1_place
def fX1_place_19 (N : Nat) (l1 : Int32) (l2 : Int32) (S : St) : Option (Int32 × St) := (fX1_above N l2 S).bind (fun q1 => (fX7_has N q1.1 l1 q1.2).bind (fun q2 => (if q2.1 = 0 then (if l1 < 0 ∨ 6 ≤ Int32.toNatClampNeg l1 then none else (fX1_findAbove N (st_i q2.2 14 (Int32.toNatClampNeg l1) l2)).bind (fun q4 => some (1, q4))) else some (0, q2.2))))
set_option maxRecDepth 20000 in
theorem rfX1_place_19 (d N : Nat) (l1 : Int32) (l2 : Int32) (S : St) (z : (Int32 × St)) (h : fX1_place_19 N l1 l2 S = some z) : am_Rn (am_C (d + 2)) (am_ct 8) (am_rk 8) (some (.int z.1), am_T0 z.2) (19, [some (.ref 13), some (.int l1), some (.int l2)], [], am_T0 S) := by
  unfold fX1_place_19 at h
  refine am_Rn.op _ (20, [some (.ref 13), some (.int l1), some (.int l2)], [.ref 13], am_T0 S) rfl rfl ?_
  refine am_Rn.op _ (21, [some (.ref 13), some (.int l1), some (.int l2)], [.int l2, .ref 13], am_T0 S) rfl rfl ?_
  obtain ⟨q1, hq1, h⟩ := l2_b h
  refine am_Rn.cl _ (some (.int q1.1)) (am_T0 q1.2) rfl rfl (rfX1_above (d + 0) N l2 S q1 hq1) ?_
  show am_Rn _ _ _ _ (24, [some (.ref 13), some (.int l1), some (.int l2)], [.int q1.1], am_T0 q1.2)
  refine am_Rn.op _ (25, [some (.ref 13), some (.int l1), some (.int l2)], [.int l1, .int q1.1], am_T0 q1.2) rfl rfl ?_
  obtain ⟨q2, hq2, h⟩ := l2_b h
  refine am_Rn.cl _ (some (.int q2.1)) (am_T0 q2.2) rfl rfl (rfX7_has (d + 1) N q1.1 l1 q1.2 q2 hq2) ?_
  show am_Rn _ _ _ _ (28, [some (.ref 13), some (.int l1), some (.int l2)], [.int q2.1], am_T0 q2.2)
  refine am_Rn.op _ (if q2.1 = 0 then 33 else 31, [some (.ref 13), some (.int l1), some (.int l2)], [], am_T0 q2.2) rfl rfl ?_
  rcases l2_i h with ⟨hc, h⟩ | ⟨hc, h⟩
  · refine am_Rn.ifT hc ?_
    refine am_Rn.op _ (34, [some (.ref 13), some (.int l1), some (.int l2)], [.ref 13], am_T0 q2.2) rfl rfl ?_
    refine am_Rn.op _ (37, [some (.ref 13), some (.int l1), some (.int l2)], [.ref 14], am_T0 q2.2) rfl rfl ?_
    refine am_Rn.op _ (38, [some (.ref 13), some (.int l1), some (.int l2)], [.int l1, .ref 14], am_T0 q2.2) rfl rfl ?_
    refine am_Rn.op _ (39, [some (.ref 13), some (.int l1), some (.int l2)], [.int l2, .int l1, .ref 14], am_T0 q2.2) rfl rfl ?_
    obtain ⟨hb3, h⟩ := l2_n h
    refine am_Rn.iast (n := 6) rfl rfl hb3 ?_
    show am_Rn _ _ _ _ (40, [some (.ref 13), some (.int l1), some (.int l2)], [], am_T0 (st_i q2.2 14 (Int32.toNatClampNeg l1) l2))
    refine am_Rn.op _ (41, [some (.ref 13), some (.int l1), some (.int l2)], [.ref 13], am_T0 (st_i q2.2 14 (Int32.toNatClampNeg l1) l2)) rfl rfl ?_
    obtain ⟨q4, hq4, h⟩ := l2_b h
    refine am_Rn.cl _ none (am_T0 q4) rfl rfl (rfX1_findAbove (d + 0) N (st_i q2.2 14 (Int32.toNatClampNeg l1) l2) q4 hq4) ?_
    show am_Rn _ _ _ _ (44, [some (.ref 13), some (.int l1), some (.int l2)], [], am_T0 q4)
    refine am_Rn.op _ (45, [some (.ref 13), some (.int l1), some (.int l2)], [.int 1], am_T0 q4) rfl rfl ?_
    cases h
    exact am_Rn.rt _ rfl rfl
  · refine am_Rn.ifF hc ?_
    refine am_Rn.op _ (32, [some (.ref 13), some (.int l1), some (.int l2)], [.int 0], am_T0 q2.2) rfl rfl ?_
    cases h
    exact am_Rn.rt _ rfl rfl
def fX1_place (N : Nat) (l1 : Int32) (l2 : Int32) (S : St) : Option (Int32 × St) := (fX7_isKind N l1 S).bind (fun q5 => (if q5.1 = 0 then some (0, q5.2) else (if l2 = (-1) then fX1_place_19 N l1 l2 q5.2 else (fX7_isKind N l2 q5.2).bind (fun q6 => (if q6.1 = 0 then some (0, q6.2) else fX1_place_19 N l1 l2 q6.2)))))
set_option maxRecDepth 20000 in
theorem rfX1_place (d N : Nat) (l1 : Int32) (l2 : Int32) (S : St) (z : (Int32 × St)) (h : fX1_place N l1 l2 S = some z) : am_C (d + 3) 8 [.ref 13, .int l1, .int l2] (am_T0 S) (some (.int z.1), am_T0 z.2) := by
  unfold fX1_place at h
  show am_Rn (am_C (d + 2)) (am_ct 8) (am_rk 8) (some (.int z.1), am_T0 z.2) (0, [some (.ref 13), some (.int l1), some (.int l2)], [], am_T0 S)
  refine am_Rn.op _ (1, [some (.ref 13), some (.int l1), some (.int l2)], [.int l1], am_T0 S) rfl rfl ?_
  obtain ⟨q5, hq5, h⟩ := l2_b h
  refine am_Rn.cl _ (some (.int q5.1)) (am_T0 q5.2) rfl rfl (rfX7_isKind (d + 1) N l1 S q5 hq5) ?_
  show am_Rn _ _ _ _ (4, [some (.ref 13), some (.int l1), some (.int l2)], [.int q5.1], am_T0 q5.2)
  refine am_Rn.op _ (if q5.1 = 0 then 31 else 7, [some (.ref 13), some (.int l1), some (.int l2)], [], am_T0 q5.2) rfl rfl ?_
  rcases l2_i h with ⟨hc, h⟩ | ⟨hc, h⟩
  · refine am_Rn.ifT hc ?_
    refine am_Rn.op _ (32, [some (.ref 13), some (.int l1), some (.int l2)], [.int 0], am_T0 q5.2) rfl rfl ?_
    cases h
    exact am_Rn.rt _ rfl rfl
  · refine am_Rn.ifF hc ?_
    refine am_Rn.op _ (8, [some (.ref 13), some (.int l1), some (.int l2)], [.int l2], am_T0 q5.2) rfl rfl ?_
    refine am_Rn.op _ (9, [some (.ref 13), some (.int l1), some (.int l2)], [.int (-1), .int l2], am_T0 q5.2) rfl rfl ?_
    refine am_Rn.op _ (if l2 = (-1) then 19 else 12, [some (.ref 13), some (.int l1), some (.int l2)], [], am_T0 q5.2) rfl rfl ?_
    rcases l2_i h with ⟨hc, h⟩ | ⟨hc, h⟩
    · refine am_Rn.ifT hc ?_
      exact rfX1_place_19 d N l1 l2 q5.2 _ h 
    · refine am_Rn.ifF hc ?_
      refine am_Rn.op _ (13, [some (.ref 13), some (.int l1), some (.int l2)], [.int l2], am_T0 q5.2) rfl rfl ?_
      obtain ⟨q6, hq6, h⟩ := l2_b h
      refine am_Rn.cl _ (some (.int q6.1)) (am_T0 q6.2) rfl rfl (rfX7_isKind (d + 1) N l2 q5.2 q6 hq6) ?_
      show am_Rn _ _ _ _ (16, [some (.ref 13), some (.int l1), some (.int l2)], [.int q6.1], am_T0 q6.2)
      refine am_Rn.op _ (if q6.1 = 0 then 31 else 19, [some (.ref 13), some (.int l1), some (.int l2)], [], am_T0 q6.2) rfl rfl ?_
      rcases l2_i h with ⟨hc, h⟩ | ⟨hc, h⟩
      · refine am_Rn.ifT hc ?_
        refine am_Rn.op _ (32, [some (.ref 13), some (.int l1), some (.int l2)], [.int 0], am_T0 q6.2) rfl rfl ?_
        cases h
        exact am_Rn.rt _ rfl rfl
      · refine am_Rn.ifF hc ?_
        exact rfX1_place_19 d N l1 l2 q6.2 _ h 
-- X5_blocks
def fX5_blocks (N : Nat) (n0 : Nat) (S : St) : Option (Int32 × St) := some ((S.1 (TA n0) 8), S)
set_option maxRecDepth 20000 in
theorem rfX5_blocks (d N : Nat) (n0 : Nat) (S : St) (z : (Int32 × St)) (h : fX5_blocks N n0 S = some z) : am_C (d + 1) 54 [.ref (TA n0)] (am_T0 S) (some (.int z.1), am_T0 z.2) := by
  unfold fX5_blocks at h
  show am_Rn (am_C (d + 0)) (am_ct 54) (am_rk 54) (some (.int z.1), am_T0 z.2) (0, [some (.ref (TA n0))], [], am_T0 S)
  refine am_Rn.op _ (1, [some (.ref (TA n0))], [.ref (TA n0)], am_T0 S) rfl rfl ?_
  refine am_Rn.getf rfl (l2_isO n0 S) rfl ?_
  show am_Rn _ _ _ _ (4, [some (.ref (TA n0))], [.int (S.1 (TA n0) 8)], am_T0 S)
  cases h
  exact am_Rn.rt _ rfl rfl
-- X5_raisesAgain
def fX5_raisesAgain_27 (N : Nat) (s0 : Int32) (S : St) : Option (Int32 × St) := (if s0 = 0 ∨ s0 = 1 then some (s0, S) else none)
set_option maxRecDepth 20000 in
theorem rfX5_raisesAgain_27 (d N : Nat) (s0 : Int32) (S : St) (z : (Int32 × St)) (h : fX5_raisesAgain_27 N s0 S = some z) (w0 : Option Value) (w1 : Option Value) : am_Rn (am_C (d + 0)) (am_ct 59) (am_rk 59) (some (.int z.1), am_T0 z.2) (27, [w0, w1], [.int s0], am_T0 S) := by
  unfold fX5_raisesAgain_27 at h
  obtain ⟨hb1, h⟩ := l2_y h
  cases h
  exact am_Rn.rt _ rfl (l2_rz hb1)
def fX5_raisesAgain (N : Nat) (n0 : Nat) (l1 : Int32) (S : St) : Option (Int32 × St) := (if l1 < 0 then fX5_raisesAgain_27 N 0 S else (if 31 ≤ l1 then fX5_raisesAgain_27 N 0 S else (if l1 < 0 ∨ 31 ≤ Int32.toNatClampNeg l1 then none else (if (S.1 (TA n0 + 6) (Int32.toNatClampNeg l1)) = 0 then fX5_raisesAgain_27 N 0 S else fX5_raisesAgain_27 N 1 S))))
set_option maxRecDepth 20000 in
theorem rfX5_raisesAgain (d N : Nat) (n0 : Nat) (l1 : Int32) (S : St) (z : (Int32 × St)) (h : fX5_raisesAgain N n0 l1 S = some z) : am_C (d + 1) 59 [.ref (TA n0), .int l1] (am_T0 S) (some (.int z.1), am_T0 z.2) := by
  unfold fX5_raisesAgain at h
  show am_Rn (am_C (d + 0)) (am_ct 59) (am_rk 59) (some (.int z.1), am_T0 z.2) (0, [some (.ref (TA n0)), some (.int l1)], [], am_T0 S)
  refine am_Rn.op _ (1, [some (.ref (TA n0)), some (.int l1)], [.int l1], am_T0 S) rfl rfl ?_
  refine am_Rn.op _ (if l1 < 0 then 26 else 4, [some (.ref (TA n0)), some (.int l1)], [], am_T0 S) rfl rfl ?_
  rcases l2_i h with ⟨hc, h⟩ | ⟨hc, h⟩
  · refine am_Rn.ifT hc ?_
    refine am_Rn.op _ (27, [some (.ref (TA n0)), some (.int l1)], [.int 0], am_T0 S) rfl rfl ?_
    exact rfX5_raisesAgain_27 d N 0 S _ h _ _
  · refine am_Rn.ifF hc ?_
    refine am_Rn.op _ (5, [some (.ref (TA n0)), some (.int l1)], [.int l1], am_T0 S) rfl rfl ?_
    refine am_Rn.op _ (6, [some (.ref (TA n0)), some (.int l1)], [.ref (TA n0), .int l1], am_T0 S) rfl rfl ?_
    refine am_Rn.getf rfl (l2_isO n0 S) (l2_ref n0 6 S (by decide) rfl) ?_
    show am_Rn _ _ _ _ (9, [some (.ref (TA n0)), some (.int l1)], [.ref (TA n0 + 6), .int l1], am_T0 S)
    refine am_Rn.alen (n := 31) rfl (l2_alen n0 6 S (by decide) (by decide) (by decide)) ?_
    show am_Rn _ _ _ _ (10, [some (.ref (TA n0)), some (.int l1)], [.int 31, .int l1], am_T0 S)
    refine am_Rn.op _ (if 31 ≤ l1 then 26 else 13, [some (.ref (TA n0)), some (.int l1)], [], am_T0 S) rfl rfl ?_
    rcases l2_i h with ⟨hc, h⟩ | ⟨hc, h⟩
    · refine am_Rn.ifT hc ?_
      refine am_Rn.op _ (27, [some (.ref (TA n0)), some (.int l1)], [.int 0], am_T0 S) rfl rfl ?_
      exact rfX5_raisesAgain_27 d N 0 S _ h _ _
    · refine am_Rn.ifF hc ?_
      refine am_Rn.op _ (14, [some (.ref (TA n0)), some (.int l1)], [.ref (TA n0)], am_T0 S) rfl rfl ?_
      refine am_Rn.getf rfl (l2_isO n0 S) (l2_ref n0 6 S (by decide) rfl) ?_
      show am_Rn _ _ _ _ (17, [some (.ref (TA n0)), some (.int l1)], [.ref (TA n0 + 6)], am_T0 S)
      refine am_Rn.op _ (18, [some (.ref (TA n0)), some (.int l1)], [.int l1, .ref (TA n0 + 6)], am_T0 S) rfl rfl ?_
      obtain ⟨hb2, h⟩ := l2_n h
      refine am_Rn.bald2 (n := 31) rfl (l2_len n0 6 S (by decide) (by decide)) hb2 ?_
      show am_Rn _ _ _ _ (19, [some (.ref (TA n0)), some (.int l1)], [.int (S.1 (TA n0 + 6) (Int32.toNatClampNeg l1))], am_T0 S)
      refine am_Rn.op _ (if (S.1 (TA n0 + 6) (Int32.toNatClampNeg l1)) = 0 then 26 else 22, [some (.ref (TA n0)), some (.int l1)], [], am_T0 S) rfl rfl ?_
      rcases l2_i h with ⟨hc, h⟩ | ⟨hc, h⟩
      · refine am_Rn.ifT hc ?_
        refine am_Rn.op _ (27, [some (.ref (TA n0)), some (.int l1)], [.int 0], am_T0 S) rfl rfl ?_
        exact rfX5_raisesAgain_27 d N 0 S _ h _ _
      · refine am_Rn.ifF hc ?_
        refine am_Rn.op _ (23, [some (.ref (TA n0)), some (.int l1)], [.int 1], am_T0 S) rfl rfl ?_
        refine am_Rn.op _ (27, [some (.ref (TA n0)), some (.int l1)], [.int 1], am_T0 S) rfl rfl ?_
        exact rfX5_raisesAgain_27 d N 1 S _ h _ _
-- X5_isBlock
def fX5_isBlock_23 (N : Nat) (s0 : Int32) (S : St) : Option (Int32 × St) := (if s0 = 0 ∨ s0 = 1 then some (s0, S) else none)
set_option maxRecDepth 20000 in
theorem rfX5_isBlock_23 (d N : Nat) (s0 : Int32) (S : St) (z : (Int32 × St)) (h : fX5_isBlock_23 N s0 S = some z) (w0 : Option Value) (w1 : Option Value) : am_Rn (am_C (d + 0)) (am_ct 53) (am_rk 53) (some (.int z.1), am_T0 z.2) (23, [w0, w1], [.int s0], am_T0 S) := by
  unfold fX5_isBlock_23 at h
  obtain ⟨hb1, h⟩ := l2_y h
  cases h
  exact am_Rn.rt _ rfl (l2_rz hb1)
def fX5_isBlock (N : Nat) (n0 : Nat) (l1 : Int32) (S : St) : Option (Int32 × St) := (if l1 < 0 then fX5_isBlock_23 N 0 S else (if (S.1 (TA n0) 8) ≤ l1 then fX5_isBlock_23 N 0 S else (if 31 ≤ l1 then fX5_isBlock_23 N 0 S else fX5_isBlock_23 N 1 S)))
set_option maxRecDepth 20000 in
theorem rfX5_isBlock (d N : Nat) (n0 : Nat) (l1 : Int32) (S : St) (z : (Int32 × St)) (h : fX5_isBlock N n0 l1 S = some z) : am_C (d + 1) 53 [.ref (TA n0), .int l1] (am_T0 S) (some (.int z.1), am_T0 z.2) := by
  unfold fX5_isBlock at h
  show am_Rn (am_C (d + 0)) (am_ct 53) (am_rk 53) (some (.int z.1), am_T0 z.2) (0, [some (.ref (TA n0)), some (.int l1)], [], am_T0 S)
  refine am_Rn.op _ (1, [some (.ref (TA n0)), some (.int l1)], [.int l1], am_T0 S) rfl rfl ?_
  refine am_Rn.op _ (if l1 < 0 then 22 else 4, [some (.ref (TA n0)), some (.int l1)], [], am_T0 S) rfl rfl ?_
  rcases l2_i h with ⟨hc, h⟩ | ⟨hc, h⟩
  · refine am_Rn.ifT hc ?_
    refine am_Rn.op _ (23, [some (.ref (TA n0)), some (.int l1)], [.int 0], am_T0 S) rfl rfl ?_
    exact rfX5_isBlock_23 d N 0 S _ h _ _
  · refine am_Rn.ifF hc ?_
    refine am_Rn.op _ (5, [some (.ref (TA n0)), some (.int l1)], [.int l1], am_T0 S) rfl rfl ?_
    refine am_Rn.op _ (6, [some (.ref (TA n0)), some (.int l1)], [.ref (TA n0), .int l1], am_T0 S) rfl rfl ?_
    refine am_Rn.getf rfl (l2_isO n0 S) rfl ?_
    show am_Rn _ _ _ _ (9, [some (.ref (TA n0)), some (.int l1)], [.int (S.1 (TA n0) 8), .int l1], am_T0 S)
    refine am_Rn.op _ (if (S.1 (TA n0) 8) ≤ l1 then 22 else 12, [some (.ref (TA n0)), some (.int l1)], [], am_T0 S) rfl rfl ?_
    rcases l2_i h with ⟨hc, h⟩ | ⟨hc, h⟩
    · refine am_Rn.ifT hc ?_
      refine am_Rn.op _ (23, [some (.ref (TA n0)), some (.int l1)], [.int 0], am_T0 S) rfl rfl ?_
      exact rfX5_isBlock_23 d N 0 S _ h _ _
    · refine am_Rn.ifF hc ?_
      refine am_Rn.op _ (13, [some (.ref (TA n0)), some (.int l1)], [.int l1], am_T0 S) rfl rfl ?_
      refine am_Rn.op _ (15, [some (.ref (TA n0)), some (.int l1)], [.int 31, .int l1], am_T0 S) rfl rfl ?_
      refine am_Rn.op _ (if 31 ≤ l1 then 22 else 18, [some (.ref (TA n0)), some (.int l1)], [], am_T0 S) rfl rfl ?_
      rcases l2_i h with ⟨hc, h⟩ | ⟨hc, h⟩
      · refine am_Rn.ifT hc ?_
        refine am_Rn.op _ (23, [some (.ref (TA n0)), some (.int l1)], [.int 0], am_T0 S) rfl rfl ?_
        exact rfX5_isBlock_23 d N 0 S _ h _ _
      · refine am_Rn.ifF hc ?_
        refine am_Rn.op _ (19, [some (.ref (TA n0)), some (.int l1)], [.int 1], am_T0 S) rfl rfl ?_
        refine am_Rn.op _ (23, [some (.ref (TA n0)), some (.int l1)], [.int 1], am_T0 S) rfl rfl ?_
        exact rfX5_isBlock_23 d N 1 S _ h _ _
-- X5_keeperOf
def fX5_keeperOf_18 (N : Nat) (s0 : Int32) (S : St) : Option (Int32 × St) := some (s0, S)
set_option maxRecDepth 20000 in
theorem rfX5_keeperOf_18 (d N : Nat) (s0 : Int32) (S : St) (z : (Int32 × St)) (h : fX5_keeperOf_18 N s0 S = some z) (w0 : Option Value) (w1 : Option Value) : am_Rn (am_C (d + 1)) (am_ct 58) (am_rk 58) (some (.int z.1), am_T0 z.2) (18, [w0, w1], [.int s0], am_T0 S) := by
  unfold fX5_keeperOf_18 at h
  cases h
  exact am_Rn.rt _ rfl rfl
def fX5_keeperOf (N : Nat) (n0 : Nat) (l1 : Int32) (S : St) : Option (Int32 × St) := (fX5_isBlock N n0 l1 S).bind (fun q1 => (if q1.1 = 0 then fX5_keeperOf_18 N (-1) q1.2 else (if l1 < 0 ∨ 31 ≤ Int32.toNatClampNeg l1 then none else fX5_keeperOf_18 N (q1.2.1 (TA n0 + 5) (Int32.toNatClampNeg l1)) q1.2)))
set_option maxRecDepth 20000 in
theorem rfX5_keeperOf (d N : Nat) (n0 : Nat) (l1 : Int32) (S : St) (z : (Int32 × St)) (h : fX5_keeperOf N n0 l1 S = some z) : am_C (d + 2) 58 [.ref (TA n0), .int l1] (am_T0 S) (some (.int z.1), am_T0 z.2) := by
  unfold fX5_keeperOf at h
  show am_Rn (am_C (d + 1)) (am_ct 58) (am_rk 58) (some (.int z.1), am_T0 z.2) (0, [some (.ref (TA n0)), some (.int l1)], [], am_T0 S)
  refine am_Rn.op _ (1, [some (.ref (TA n0)), some (.int l1)], [.ref (TA n0)], am_T0 S) rfl rfl ?_
  refine am_Rn.op _ (2, [some (.ref (TA n0)), some (.int l1)], [.int l1, .ref (TA n0)], am_T0 S) rfl rfl ?_
  obtain ⟨q1, hq1, h⟩ := l2_b h
  refine am_Rn.cl _ (some (.int q1.1)) (am_T0 q1.2) rfl (o_clv rfl rfl rfl (l2_isO n0 S)) (rfX5_isBlock (d + 0) N n0 l1 S q1 hq1) ?_
  show am_Rn _ _ _ _ (5, [some (.ref (TA n0)), some (.int l1)], [.int q1.1], am_T0 q1.2)
  refine am_Rn.op _ (if q1.1 = 0 then 17 else 8, [some (.ref (TA n0)), some (.int l1)], [], am_T0 q1.2) rfl rfl ?_
  rcases l2_i h with ⟨hc, h⟩ | ⟨hc, h⟩
  · refine am_Rn.ifT hc ?_
    refine am_Rn.op _ (18, [some (.ref (TA n0)), some (.int l1)], [.int (-1)], am_T0 q1.2) rfl rfl ?_
    exact rfX5_keeperOf_18 d N (-1) q1.2 _ h _ _
  · refine am_Rn.ifF hc ?_
    refine am_Rn.op _ (9, [some (.ref (TA n0)), some (.int l1)], [.ref (TA n0)], am_T0 q1.2) rfl rfl ?_
    refine am_Rn.getf rfl (l2_isO n0 q1.2) (l2_ref n0 5 q1.2 (by decide) rfl) ?_
    show am_Rn _ _ _ _ (12, [some (.ref (TA n0)), some (.int l1)], [.ref (TA n0 + 5)], am_T0 q1.2)
    refine am_Rn.op _ (13, [some (.ref (TA n0)), some (.int l1)], [.int l1, .ref (TA n0 + 5)], am_T0 q1.2) rfl rfl ?_
    obtain ⟨hb2, h⟩ := l2_n h
    refine am_Rn.iald (n := 31) rfl (l2_len n0 5 q1.2 (by decide) (by decide)) hb2 ?_
    show am_Rn _ _ _ _ (14, [some (.ref (TA n0)), some (.int l1)], [.int (q1.2.1 (TA n0 + 5) (Int32.toNatClampNeg l1))], am_T0 q1.2)
    refine am_Rn.op _ (18, [some (.ref (TA n0)), some (.int l1)], [.int (q1.2.1 (TA n0 + 5) (Int32.toNatClampNeg l1))], am_T0 q1.2) rfl rfl ?_
    exact rfX5_keeperOf_18 d N (q1.2.1 (TA n0 + 5) (Int32.toNatClampNeg l1)) q1.2 _ h _ _
-- X2_matters
def fX2_matters_42 (N : Nat) (s0 : Int32) (S : St) : Option (Int32 × St) := (if s0 = 0 ∨ s0 = 1 then some (s0, S) else none)
set_option maxRecDepth 20000 in
theorem rfX2_matters_42 (d N : Nat) (s0 : Int32) (S : St) (z : (Int32 × St)) (h : fX2_matters_42 N s0 S = some z) (w0 : Option Value) (w1 : Option Value) (w2 : Option Value) : am_Rn (am_C (d + 2)) (am_ct 14) (am_rk 14) (some (.int z.1), am_T0 z.2) (42, [w0, w1, w2], [.int s0], am_T0 S) := by
  unfold fX2_matters_42 at h
  obtain ⟨hb1, h⟩ := l2_y h
  cases h
  exact am_Rn.rt _ rfl (l2_rz hb1)
def fX2_matters (N : Nat) (l1 : Int32) (l2 : Int32) (S : St) : Option (Int32 × St) := (fX5_raisesAgain N (S.2 10) l1 S).bind (fun q2 => (if q2.1 = 0 then (if l2 = 0 then fX2_matters_42 N 1 q2.2 else fX2_matters_42 N 0 q2.2) else (fX1_above N l2 q2.2).bind (fun q3 => (fX5_keeperOf N (q3.2.2 10) l1 q3.2).bind (fun q4 => (fX7_has N q3.1 q4.1 q4.2).bind (fun q5 => fX2_matters_42 N q5.1 q5.2)))))
set_option maxRecDepth 20000 in
theorem rfX2_matters (d N : Nat) (l1 : Int32) (l2 : Int32) (S : St) (z : (Int32 × St)) (h : fX2_matters N l1 l2 S = some z) : am_C (d + 3) 14 [.ref 20, .int l1, .int l2] (am_T0 S) (some (.int z.1), am_T0 z.2) := by
  unfold fX2_matters at h
  show am_Rn (am_C (d + 2)) (am_ct 14) (am_rk 14) (some (.int z.1), am_T0 z.2) (0, [some (.ref 20), some (.int l1), some (.int l2)], [], am_T0 S)
  refine am_Rn.op _ (1, [some (.ref 20), some (.int l1), some (.int l2)], [.ref 20], am_T0 S) rfl rfl ?_
  refine am_Rn.op _ (4, [some (.ref 20), some (.int l1), some (.int l2)], [.ref (TA (S.2 10))], am_T0 S) rfl rfl ?_
  refine am_Rn.op _ (5, [some (.ref 20), some (.int l1), some (.int l2)], [.int l1, .ref (TA (S.2 10))], am_T0 S) rfl rfl ?_
  obtain ⟨q2, hq2, h⟩ := l2_b h
  refine am_Rn.cl _ (some (.int q2.1)) (am_T0 q2.2) rfl (o_clv rfl rfl rfl (l2_isO (S.2 10) S)) (rfX5_raisesAgain (d + 1) N (S.2 10) l1 S q2 hq2) ?_
  show am_Rn _ _ _ _ (8, [some (.ref 20), some (.int l1), some (.int l2)], [.int q2.1], am_T0 q2.2)
  refine am_Rn.op _ (if q2.1 = 0 then 33 else 11, [some (.ref 20), some (.int l1), some (.int l2)], [], am_T0 q2.2) rfl rfl ?_
  rcases l2_i h with ⟨hc, h⟩ | ⟨hc, h⟩
  · refine am_Rn.ifT hc ?_
    refine am_Rn.op _ (34, [some (.ref 20), some (.int l1), some (.int l2)], [.int l2], am_T0 q2.2) rfl rfl ?_
    refine am_Rn.op _ (if l2 = 0 then 37 else 41, [some (.ref 20), some (.int l1), some (.int l2)], [], am_T0 q2.2) rfl rfl ?_
    rcases l2_i h with ⟨hc, h⟩ | ⟨hc, h⟩
    · refine am_Rn.ifT hc ?_
      refine am_Rn.op _ (38, [some (.ref 20), some (.int l1), some (.int l2)], [.int 1], am_T0 q2.2) rfl rfl ?_
      refine am_Rn.op _ (42, [some (.ref 20), some (.int l1), some (.int l2)], [.int 1], am_T0 q2.2) rfl rfl ?_
      exact rfX2_matters_42 d N 1 q2.2 _ h _ _ _
    · refine am_Rn.ifF hc ?_
      refine am_Rn.op _ (42, [some (.ref 20), some (.int l1), some (.int l2)], [.int 0], am_T0 q2.2) rfl rfl ?_
      exact rfX2_matters_42 d N 0 q2.2 _ h _ _ _
  · refine am_Rn.ifF hc ?_
    refine am_Rn.op _ (12, [some (.ref 20), some (.int l1), some (.int l2)], [.ref 20], am_T0 q2.2) rfl rfl ?_
    refine am_Rn.op _ (15, [some (.ref 20), some (.int l1), some (.int l2)], [.ref 13], am_T0 q2.2) rfl rfl ?_
    refine am_Rn.op _ (16, [some (.ref 20), some (.int l1), some (.int l2)], [.int l2, .ref 13], am_T0 q2.2) rfl rfl ?_
    obtain ⟨q3, hq3, h⟩ := l2_b h
    refine am_Rn.cl _ (some (.int q3.1)) (am_T0 q3.2) rfl rfl (rfX1_above (d + 0) N l2 q2.2 q3 hq3) ?_
    show am_Rn _ _ _ _ (19, [some (.ref 20), some (.int l1), some (.int l2)], [.int q3.1], am_T0 q3.2)
    refine am_Rn.op _ (20, [some (.ref 20), some (.int l1), some (.int l2)], [.ref 20, .int q3.1], am_T0 q3.2) rfl rfl ?_
    refine am_Rn.op _ (23, [some (.ref 20), some (.int l1), some (.int l2)], [.ref (TA (q3.2.2 10)), .int q3.1], am_T0 q3.2) rfl rfl ?_
    refine am_Rn.op _ (24, [some (.ref 20), some (.int l1), some (.int l2)], [.int l1, .ref (TA (q3.2.2 10)), .int q3.1], am_T0 q3.2) rfl rfl ?_
    obtain ⟨q4, hq4, h⟩ := l2_b h
    refine am_Rn.cl _ (some (.int q4.1)) (am_T0 q4.2) rfl (o_clv rfl rfl rfl (l2_isO (q3.2.2 10) q3.2)) (rfX5_keeperOf (d + 0) N (q3.2.2 10) l1 q3.2 q4 hq4) ?_
    show am_Rn _ _ _ _ (27, [some (.ref 20), some (.int l1), some (.int l2)], [.int q4.1, .int q3.1], am_T0 q4.2)
    obtain ⟨q5, hq5, h⟩ := l2_b h
    refine am_Rn.cl _ (some (.int q5.1)) (am_T0 q5.2) rfl rfl (rfX7_has (d + 1) N q3.1 q4.1 q4.2 q5 hq5) ?_
    show am_Rn _ _ _ _ (30, [some (.ref 20), some (.int l1), some (.int l2)], [.int q5.1], am_T0 q5.2)
    refine am_Rn.op _ (42, [some (.ref 20), some (.int l1), some (.int l2)], [.int q5.1], am_T0 q5.2) rfl rfl ?_
    exact rfX2_matters_42 d N q5.1 q5.2 _ h _ _ _
-- J7_fill_53178
def PfJ7_fill_53178_5 (d : Nat) (res : Option Value × am_S) (a0 : Nat) (l1 : Int32) (l3 : Int32) (x : Int32 × St) : Prop := am_Rn (am_C d) (am_ct 169) (am_rk 169) res (5, [some (.ref a0), some (.int l1), some (.int x.1), some (.int l3)], [], am_T0 x.2)
def QfJ7_fill_53178_5 (d : Nat) (res : Option Value × am_S) (a0 : Nat) (l1 : Int32) (l3 : Int32) (y : St) : Prop := res = (none, am_T0 y)
def bfJ7_fill_53178_5 (N : Nat) (a0 : Nat) (l1 : Int32) (l3 : Int32) (x : Int32 × St) : Option ((Int32 × St) ⊕ (St)) := (if l3 ≤ x.1 then some (.inr x.2) else (if x.1 < 0 ∨ (alen a0) ≤ Int32.toNatClampNeg x.1 then none else some (.inl ((x.1 + 1), (st_i x.2 a0 (Int32.toNatClampNeg x.1) l1)))))
def fJ7_fill_53178_5 (N : Nat) (a0 : Nat) (l1 : Int32) (l3 : Int32) (x : Int32 × St) : Option (St) := whl N (bfJ7_fill_53178_5 N a0 l1 l3 ) x
set_option maxRecDepth 20000 in
theorem rbfJ7_fill_53178_5 (d N : Nat) (res : Option Value × am_S) (a0 : Nat) (l1 : Int32) (l3 : Int32) (ha0 : isIA a0 = true) (x : Int32 × St) (z : (Int32 × St) ⊕ (St)) (h : bfJ7_fill_53178_5 N a0 l1 l3 x = some z) (hz : Sum.elim (PfJ7_fill_53178_5 (d + 0) res a0 l1 l3 ) (QfJ7_fill_53178_5 (d + 0) res a0 l1 l3 ) z) : PfJ7_fill_53178_5 (d + 0) res a0 l1 l3 x := by
  unfold bfJ7_fill_53178_5 at h
  show am_Rn (am_C (d + 0)) (am_ct 169) (am_rk 169) res (5, [some (.ref a0), some (.int l1), some (.int x.1), some (.int l3)], [], am_T0 x.2)
  refine am_Rn.op _ (6, [some (.ref a0), some (.int l1), some (.int x.1), some (.int l3)], [.int x.1], am_T0 x.2) rfl rfl ?_
  refine am_Rn.op _ (7, [some (.ref a0), some (.int l1), some (.int x.1), some (.int l3)], [.int l3, .int x.1], am_T0 x.2) rfl rfl ?_
  refine am_Rn.op _ (if l3 ≤ x.1 then 20 else 10, [some (.ref a0), some (.int l1), some (.int x.1), some (.int l3)], [], am_T0 x.2) rfl rfl ?_
  rcases l2_i h with ⟨hc, h⟩ | ⟨hc, h⟩
  · refine am_Rn.ifT hc ?_
    cases h
    exact am_Rn.rt2 _ rfl rfl hz
  · refine am_Rn.ifF hc ?_
    refine am_Rn.op _ (11, [some (.ref a0), some (.int l1), some (.int x.1), some (.int l3)], [.ref a0], am_T0 x.2) rfl rfl ?_
    refine am_Rn.op _ (12, [some (.ref a0), some (.int l1), some (.int x.1), some (.int l3)], [.int x.1, .ref a0], am_T0 x.2) rfl rfl ?_
    refine am_Rn.op _ (13, [some (.ref a0), some (.int l1), some (.int x.1), some (.int l3)], [.int l1, .int x.1, .ref a0], am_T0 x.2) rfl rfl ?_
    obtain ⟨hb1, h⟩ := l2_n h
    refine am_Rn.iast (n := (alen a0)) rfl (l2_ia ha0 x.2) hb1 ?_
    show am_Rn _ _ _ _ (14, [some (.ref a0), some (.int l1), some (.int x.1), some (.int l3)], [], am_T0 (st_i x.2 a0 (Int32.toNatClampNeg x.1) l1))
    refine am_Rn.op _ (17, [some (.ref a0), some (.int l1), some (.int (x.1 + 1)), some (.int l3)], [], am_T0 (st_i x.2 a0 (Int32.toNatClampNeg x.1) l1)) rfl rfl ?_
    refine am_Rn.op _ (5, [some (.ref a0), some (.int l1), some (.int (x.1 + 1)), some (.int l3)], [], am_T0 (st_i x.2 a0 (Int32.toNatClampNeg x.1) l1)) rfl rfl ?_
    cases h
    exact hz 
theorem rfJ7_fill_53178_5 (d N : Nat) (res : Option Value × am_S) (a0 : Nat) (l1 : Int32) (l3 : Int32) (ha0 : isIA a0 = true) (x : Int32 × St) (y : St) (h : fJ7_fill_53178_5 N a0 l1 l3 x = some y) (hq : QfJ7_fill_53178_5 (d + 0) res a0 l1 l3 y) : PfJ7_fill_53178_5 (d + 0) res a0 l1 l3 x := whl_ind _ _ (fun x z => rbfJ7_fill_53178_5 d N res a0 l1 l3 ha0 x z) N x y h hq
def fJ7_fill_53178 (N : Nat) (a0 : Nat) (l1 : Int32) (S : St) : Option St := (fJ7_fill_53178_5 N a0 l1 (nI (alen a0)) (0, S)).bind (fun y2 => some y2)
set_option maxRecDepth 20000 in
theorem rfJ7_fill_53178 (d N : Nat) (a0 : Nat) (l1 : Int32) (ha0 : isIA a0 = true) (S : St) (z : St) (h : fJ7_fill_53178 N a0 l1 S = some z) : am_C (d + 1) 169 [.ref a0, .int l1] (am_T0 S) (none, am_T0 z) := by
  unfold fJ7_fill_53178 at h
  show am_Rn (am_C (d + 0)) (am_ct 169) (am_rk 169) (none, am_T0 z) (0, [some (.ref a0), some (.int l1), none, none], [], am_T0 S)
  refine am_Rn.op _ (1, [some (.ref a0), some (.int l1), none, none], [.int 0], am_T0 S) rfl rfl ?_
  refine am_Rn.op _ (2, [some (.ref a0), some (.int l1), some (.int 0), none], [], am_T0 S) rfl rfl ?_
  refine am_Rn.op _ (3, [some (.ref a0), some (.int l1), some (.int 0), none], [.ref a0], am_T0 S) rfl rfl ?_
  refine am_Rn.alen (n := (alen a0)) rfl (l2_iaa ha0 S) ?_
  show am_Rn _ _ _ _ (4, [some (.ref a0), some (.int l1), some (.int 0), none], [.int (nI (alen a0))], am_T0 S)
  refine am_Rn.op _ (5, [some (.ref a0), some (.int l1), some (.int 0), some (.int (nI (alen a0)))], [], am_T0 S) rfl rfl ?_
  obtain ⟨y2, hy2, h⟩ := l2_b h
  refine rfJ7_fill_53178_5 d N _ a0 l1 (nI (alen a0)) ha0 (0, S) y2 hy2 ?_ 
  cases h
  exact rfl
-- X7_lower
def fX7_lower_31 (N : Nat) (a0 : Nat) (l1 : Int32) (s0 : Int32) (S : St) : Option St := (if l1 < 0 ∨ (alen a0) ≤ Int32.toNatClampNeg l1 then none else (if (S.1 a0 (Int32.toNatClampNeg l1)) ≤ s0 then some S else (if l1 < 0 ∨ (alen a0) ≤ Int32.toNatClampNeg l1 then none else some (st_i S a0 (Int32.toNatClampNeg l1) s0))))
set_option maxRecDepth 20000 in
theorem rfX7_lower_31 (d N : Nat) (a0 : Nat) (l1 : Int32) (s0 : Int32) (ha0 : isIA a0 = true) (S : St) (z : St) (h : fX7_lower_31 N a0 l1 s0 S = some z) (w2 : Option Value) (w3 : Option Value) : am_Rn (am_C (d + 0)) (am_ct 105) (am_rk 105) (none, am_T0 z) (31, [some (.ref a0), some (.int l1), w2, w3], [.int s0], am_T0 S) := by
  unfold fX7_lower_31 at h
  refine am_Rn.op _ (32, [some (.ref a0), some (.int l1), w2, some (.int s0)], [], am_T0 S) rfl rfl ?_
  refine am_Rn.op _ (33, [some (.ref a0), some (.int l1), w2, some (.int s0)], [.int s0], am_T0 S) rfl rfl ?_
  refine am_Rn.op _ (34, [some (.ref a0), some (.int l1), w2, some (.int s0)], [.ref a0, .int s0], am_T0 S) rfl rfl ?_
  refine am_Rn.op _ (35, [some (.ref a0), some (.int l1), w2, some (.int s0)], [.int l1, .ref a0, .int s0], am_T0 S) rfl rfl ?_
  obtain ⟨hb1, h⟩ := l2_n h
  refine am_Rn.iald (n := (alen a0)) rfl (l2_ia ha0 S) hb1 ?_
  show am_Rn _ _ _ _ (36, [some (.ref a0), some (.int l1), w2, some (.int s0)], [.int (S.1 a0 (Int32.toNatClampNeg l1)), .int s0], am_T0 S)
  refine am_Rn.op _ (if (S.1 a0 (Int32.toNatClampNeg l1)) ≤ s0 then 43 else 39, [some (.ref a0), some (.int l1), w2, some (.int s0)], [], am_T0 S) rfl rfl ?_
  rcases l2_i h with ⟨hc, h⟩ | ⟨hc, h⟩
  · refine am_Rn.ifT hc ?_
    cases h
    exact am_Rn.rt _ rfl rfl
  · refine am_Rn.ifF hc ?_
    refine am_Rn.op _ (40, [some (.ref a0), some (.int l1), w2, some (.int s0)], [.ref a0], am_T0 S) rfl rfl ?_
    refine am_Rn.op _ (41, [some (.ref a0), some (.int l1), w2, some (.int s0)], [.int l1, .ref a0], am_T0 S) rfl rfl ?_
    refine am_Rn.op _ (42, [some (.ref a0), some (.int l1), w2, some (.int s0)], [.int s0, .int l1, .ref a0], am_T0 S) rfl rfl ?_
    obtain ⟨hb2, h⟩ := l2_n h
    refine am_Rn.iast (n := (alen a0)) rfl (l2_ia ha0 S) hb2 ?_
    show am_Rn _ _ _ _ (43, [some (.ref a0), some (.int l1), w2, some (.int s0)], [], am_T0 (st_i S a0 (Int32.toNatClampNeg l1) s0))
    cases h
    exact am_Rn.rt _ rfl rfl
def fX7_lower (N : Nat) (a0 : Nat) (l1 : Int32) (l2 : Int32) (S : St) : Option St := (if l1 < 0 then some S else (if (nI (alen a0)) ≤ l1 then some S else (if l2 < 1000000 then (if l2 ≤ 999 then fX7_lower_31 N a0 l1 l2 S else fX7_lower_31 N a0 l1 999 S) else some S)))
set_option maxRecDepth 20000 in
theorem rfX7_lower (d N : Nat) (a0 : Nat) (l1 : Int32) (l2 : Int32) (ha0 : isIA a0 = true) (S : St) (z : St) (h : fX7_lower N a0 l1 l2 S = some z) : am_C (d + 1) 105 [.ref a0, .int l1, .int l2] (am_T0 S) (none, am_T0 z) := by
  unfold fX7_lower at h
  show am_Rn (am_C (d + 0)) (am_ct 105) (am_rk 105) (none, am_T0 z) (0, [some (.ref a0), some (.int l1), some (.int l2), none], [], am_T0 S)
  refine am_Rn.op _ (1, [some (.ref a0), some (.int l1), some (.int l2), none], [.int l1], am_T0 S) rfl rfl ?_
  refine am_Rn.op _ (if l1 < 0 then 16 else 4, [some (.ref a0), some (.int l1), some (.int l2), none], [], am_T0 S) rfl rfl ?_
  rcases l2_i h with ⟨hc, h⟩ | ⟨hc, h⟩
  · refine am_Rn.ifT hc ?_
    cases h
    exact am_Rn.rt _ rfl rfl
  · refine am_Rn.ifF hc ?_
    refine am_Rn.op _ (5, [some (.ref a0), some (.int l1), some (.int l2), none], [.int l1], am_T0 S) rfl rfl ?_
    refine am_Rn.op _ (6, [some (.ref a0), some (.int l1), some (.int l2), none], [.ref a0, .int l1], am_T0 S) rfl rfl ?_
    refine am_Rn.alen (n := (alen a0)) rfl (l2_iaa ha0 S) ?_
    show am_Rn _ _ _ _ (7, [some (.ref a0), some (.int l1), some (.int l2), none], [.int (nI (alen a0)), .int l1], am_T0 S)
    refine am_Rn.op _ (if (nI (alen a0)) ≤ l1 then 16 else 10, [some (.ref a0), some (.int l1), some (.int l2), none], [], am_T0 S) rfl rfl ?_
    rcases l2_i h with ⟨hc, h⟩ | ⟨hc, h⟩
    · refine am_Rn.ifT hc ?_
      cases h
      exact am_Rn.rt _ rfl rfl
    · refine am_Rn.ifF hc ?_
      refine am_Rn.op _ (11, [some (.ref a0), some (.int l1), some (.int l2), none], [.int l2], am_T0 S) rfl rfl ?_
      refine am_Rn.op _ (13, [some (.ref a0), some (.int l1), some (.int l2), none], [.int 1000000, .int l2], am_T0 S) rfl rfl ?_
      refine am_Rn.op _ (if l2 < 1000000 then 17 else 16, [some (.ref a0), some (.int l1), some (.int l2), none], [], am_T0 S) rfl rfl ?_
      rcases l2_i h with ⟨hc, h⟩ | ⟨hc, h⟩
      · refine am_Rn.ifT hc ?_
        refine am_Rn.op _ (18, [some (.ref a0), some (.int l1), some (.int l2), none], [.int l2], am_T0 S) rfl rfl ?_
        refine am_Rn.op _ (21, [some (.ref a0), some (.int l1), some (.int l2), none], [.int 999, .int l2], am_T0 S) rfl rfl ?_
        refine am_Rn.op _ (if l2 ≤ 999 then 30 else 24, [some (.ref a0), some (.int l1), some (.int l2), none], [], am_T0 S) rfl rfl ?_
        rcases l2_i h with ⟨hc, h⟩ | ⟨hc, h⟩
        · refine am_Rn.ifT hc ?_
          refine am_Rn.op _ (31, [some (.ref a0), some (.int l1), some (.int l2), none], [.int l2], am_T0 S) rfl rfl ?_
          exact rfX7_lower_31 d N a0 l1 l2 ha0 S _ h _ _
        · refine am_Rn.ifF hc ?_
          refine am_Rn.op _ (27, [some (.ref a0), some (.int l1), some (.int l2), none], [.int 999], am_T0 S) rfl rfl ?_
          refine am_Rn.op _ (31, [some (.ref a0), some (.int l1), some (.int l2), none], [.int 999], am_T0 S) rfl rfl ?_
          exact rfX7_lower_31 d N a0 l1 999 ha0 S _ h _ _
      · refine am_Rn.ifF hc ?_
        cases h
        exact am_Rn.rt _ rfl rfl
-- X2_begin
def fX2_begin (N : Nat) (l1 : Int32) (S : St) : Option St := (fJ7_fill_53178 N 31 1000000 S).bind (fun q1 => (fX7_lower N 31 l1 0 q1).bind (fun q2 => (fJ7_fill_53178 N 33 1000000 q2).bind (fun q3 => some q3)))
set_option maxRecDepth 20000 in
theorem rfX2_begin (d N : Nat) (l1 : Int32) (S : St) (z : St) (h : fX2_begin N l1 S = some z) : am_C (d + 2) 18 [.ref 20, .int l1] (am_T0 S) (none, am_T0 z) := by
  unfold fX2_begin at h
  show am_Rn (am_C (d + 1)) (am_ct 18) (am_rk 18) (none, am_T0 z) (0, [some (.ref 20), some (.int l1)], [], am_T0 S)
  refine am_Rn.op _ (1, [some (.ref 20), some (.int l1)], [.ref 20], am_T0 S) rfl rfl ?_
  refine am_Rn.op _ (4, [some (.ref 20), some (.int l1)], [.ref 31], am_T0 S) rfl rfl ?_
  refine am_Rn.op _ (6, [some (.ref 20), some (.int l1)], [.int 1000000, .ref 31], am_T0 S) rfl rfl ?_
  obtain ⟨q1, hq1, h⟩ := l2_b h
  refine am_Rn.cl _ none (am_T0 q1) rfl rfl (rfJ7_fill_53178 (d + 0) N 31 1000000 rfl S q1 hq1) ?_
  show am_Rn _ _ _ _ (9, [some (.ref 20), some (.int l1)], [], am_T0 q1)
  refine am_Rn.op _ (10, [some (.ref 20), some (.int l1)], [.ref 20], am_T0 q1) rfl rfl ?_
  refine am_Rn.op _ (13, [some (.ref 20), some (.int l1)], [.ref 31], am_T0 q1) rfl rfl ?_
  refine am_Rn.op _ (14, [some (.ref 20), some (.int l1)], [.int l1, .ref 31], am_T0 q1) rfl rfl ?_
  refine am_Rn.op _ (15, [some (.ref 20), some (.int l1)], [.int 0, .int l1, .ref 31], am_T0 q1) rfl rfl ?_
  obtain ⟨q2, hq2, h⟩ := l2_b h
  refine am_Rn.cl _ none (am_T0 q2) rfl rfl (rfX7_lower (d + 0) N 31 l1 0 rfl q1 q2 hq2) ?_
  show am_Rn _ _ _ _ (18, [some (.ref 20), some (.int l1)], [], am_T0 q2)
  refine am_Rn.op _ (19, [some (.ref 20), some (.int l1)], [.ref 20], am_T0 q2) rfl rfl ?_
  refine am_Rn.op _ (22, [some (.ref 20), some (.int l1)], [.ref 33], am_T0 q2) rfl rfl ?_
  refine am_Rn.op _ (24, [some (.ref 20), some (.int l1)], [.int 1000000, .ref 33], am_T0 q2) rfl rfl ?_
  obtain ⟨q3, hq3, h⟩ := l2_b h
  refine am_Rn.cl _ none (am_T0 q3) rfl rfl (rfJ7_fill_53178 (d + 0) N 33 1000000 rfl q2 q3 hq3) ?_
  show am_Rn _ _ _ _ (27, [some (.ref 20), some (.int l1)], [], am_T0 q3)
  cases h
  exact am_Rn.rt _ rfl rfl
-- X5_firstOf
def fX5_firstOf_21 (N : Nat) (s0 : Int32) (S : St) : Option (Int32 × St) := some (s0, S)
set_option maxRecDepth 20000 in
theorem rfX5_firstOf_21 (d N : Nat) (s0 : Int32) (S : St) (z : (Int32 × St)) (h : fX5_firstOf_21 N s0 S = some z) (w0 : Option Value) (w1 : Option Value) : am_Rn (am_C (d + 1)) (am_ct 56) (am_rk 56) (some (.int z.1), am_T0 z.2) (21, [w0, w1], [.int s0], am_T0 S) := by
  unfold fX5_firstOf_21 at h
  cases h
  exact am_Rn.rt _ rfl rfl
def fX5_firstOf (N : Nat) (n0 : Nat) (l1 : Int32) (S : St) : Option (Int32 × St) := (fX5_isBlock N n0 l1 S).bind (fun q1 => (if q1.1 = 0 then fX5_firstOf_21 N (q1.2.1 (TA n0) 1) q1.2 else (if l1 < 0 ∨ 31 ≤ Int32.toNatClampNeg l1 then none else fX5_firstOf_21 N (q1.2.1 (TA n0 + 3) (Int32.toNatClampNeg l1)) q1.2)))
set_option maxRecDepth 20000 in
theorem rfX5_firstOf (d N : Nat) (n0 : Nat) (l1 : Int32) (S : St) (z : (Int32 × St)) (h : fX5_firstOf N n0 l1 S = some z) : am_C (d + 2) 56 [.ref (TA n0), .int l1] (am_T0 S) (some (.int z.1), am_T0 z.2) := by
  unfold fX5_firstOf at h
  show am_Rn (am_C (d + 1)) (am_ct 56) (am_rk 56) (some (.int z.1), am_T0 z.2) (0, [some (.ref (TA n0)), some (.int l1)], [], am_T0 S)
  refine am_Rn.op _ (1, [some (.ref (TA n0)), some (.int l1)], [.ref (TA n0)], am_T0 S) rfl rfl ?_
  refine am_Rn.op _ (2, [some (.ref (TA n0)), some (.int l1)], [.int l1, .ref (TA n0)], am_T0 S) rfl rfl ?_
  obtain ⟨q1, hq1, h⟩ := l2_b h
  refine am_Rn.cl _ (some (.int q1.1)) (am_T0 q1.2) rfl (o_clv rfl rfl rfl (l2_isO n0 S)) (rfX5_isBlock (d + 0) N n0 l1 S q1 hq1) ?_
  show am_Rn _ _ _ _ (5, [some (.ref (TA n0)), some (.int l1)], [.int q1.1], am_T0 q1.2)
  refine am_Rn.op _ (if q1.1 = 0 then 17 else 8, [some (.ref (TA n0)), some (.int l1)], [], am_T0 q1.2) rfl rfl ?_
  rcases l2_i h with ⟨hc, h⟩ | ⟨hc, h⟩
  · refine am_Rn.ifT hc ?_
    refine am_Rn.op _ (18, [some (.ref (TA n0)), some (.int l1)], [.ref (TA n0)], am_T0 q1.2) rfl rfl ?_
    refine am_Rn.getf rfl (l2_isO n0 q1.2) rfl ?_
    show am_Rn _ _ _ _ (21, [some (.ref (TA n0)), some (.int l1)], [.int (q1.2.1 (TA n0) 1)], am_T0 q1.2)
    exact rfX5_firstOf_21 d N (q1.2.1 (TA n0) 1) q1.2 _ h _ _
  · refine am_Rn.ifF hc ?_
    refine am_Rn.op _ (9, [some (.ref (TA n0)), some (.int l1)], [.ref (TA n0)], am_T0 q1.2) rfl rfl ?_
    refine am_Rn.getf rfl (l2_isO n0 q1.2) (l2_ref n0 3 q1.2 (by decide) rfl) ?_
    show am_Rn _ _ _ _ (12, [some (.ref (TA n0)), some (.int l1)], [.ref (TA n0 + 3)], am_T0 q1.2)
    refine am_Rn.op _ (13, [some (.ref (TA n0)), some (.int l1)], [.int l1, .ref (TA n0 + 3)], am_T0 q1.2) rfl rfl ?_
    obtain ⟨hb2, h⟩ := l2_n h
    refine am_Rn.iald (n := 31) rfl (l2_len n0 3 q1.2 (by decide) (by decide)) hb2 ?_
    show am_Rn _ _ _ _ (14, [some (.ref (TA n0)), some (.int l1)], [.int (q1.2.1 (TA n0 + 3) (Int32.toNatClampNeg l1))], am_T0 q1.2)
    refine am_Rn.op _ (21, [some (.ref (TA n0)), some (.int l1)], [.int (q1.2.1 (TA n0 + 3) (Int32.toNatClampNeg l1))], am_T0 q1.2) rfl rfl ?_
    exact rfX5_firstOf_21 d N (q1.2.1 (TA n0 + 3) (Int32.toNatClampNeg l1)) q1.2 _ h _ _
-- X5_closeOf
def fX5_closeOf_21 (N : Nat) (s0 : Int32) (S : St) : Option (Int32 × St) := some (s0, S)
set_option maxRecDepth 20000 in
theorem rfX5_closeOf_21 (d N : Nat) (s0 : Int32) (S : St) (z : (Int32 × St)) (h : fX5_closeOf_21 N s0 S = some z) (w0 : Option Value) (w1 : Option Value) : am_Rn (am_C (d + 1)) (am_ct 57) (am_rk 57) (some (.int z.1), am_T0 z.2) (21, [w0, w1], [.int s0], am_T0 S) := by
  unfold fX5_closeOf_21 at h
  cases h
  exact am_Rn.rt _ rfl rfl
def fX5_closeOf (N : Nat) (n0 : Nat) (l1 : Int32) (S : St) : Option (Int32 × St) := (fX5_isBlock N n0 l1 S).bind (fun q1 => (if q1.1 = 0 then fX5_closeOf_21 N (q1.2.1 (TA n0) 1) q1.2 else (if l1 < 0 ∨ 31 ≤ Int32.toNatClampNeg l1 then none else fX5_closeOf_21 N (q1.2.1 (TA n0 + 4) (Int32.toNatClampNeg l1)) q1.2)))
set_option maxRecDepth 20000 in
theorem rfX5_closeOf (d N : Nat) (n0 : Nat) (l1 : Int32) (S : St) (z : (Int32 × St)) (h : fX5_closeOf N n0 l1 S = some z) : am_C (d + 2) 57 [.ref (TA n0), .int l1] (am_T0 S) (some (.int z.1), am_T0 z.2) := by
  unfold fX5_closeOf at h
  show am_Rn (am_C (d + 1)) (am_ct 57) (am_rk 57) (some (.int z.1), am_T0 z.2) (0, [some (.ref (TA n0)), some (.int l1)], [], am_T0 S)
  refine am_Rn.op _ (1, [some (.ref (TA n0)), some (.int l1)], [.ref (TA n0)], am_T0 S) rfl rfl ?_
  refine am_Rn.op _ (2, [some (.ref (TA n0)), some (.int l1)], [.int l1, .ref (TA n0)], am_T0 S) rfl rfl ?_
  obtain ⟨q1, hq1, h⟩ := l2_b h
  refine am_Rn.cl _ (some (.int q1.1)) (am_T0 q1.2) rfl (o_clv rfl rfl rfl (l2_isO n0 S)) (rfX5_isBlock (d + 0) N n0 l1 S q1 hq1) ?_
  show am_Rn _ _ _ _ (5, [some (.ref (TA n0)), some (.int l1)], [.int q1.1], am_T0 q1.2)
  refine am_Rn.op _ (if q1.1 = 0 then 17 else 8, [some (.ref (TA n0)), some (.int l1)], [], am_T0 q1.2) rfl rfl ?_
  rcases l2_i h with ⟨hc, h⟩ | ⟨hc, h⟩
  · refine am_Rn.ifT hc ?_
    refine am_Rn.op _ (18, [some (.ref (TA n0)), some (.int l1)], [.ref (TA n0)], am_T0 q1.2) rfl rfl ?_
    refine am_Rn.getf rfl (l2_isO n0 q1.2) rfl ?_
    show am_Rn _ _ _ _ (21, [some (.ref (TA n0)), some (.int l1)], [.int (q1.2.1 (TA n0) 1)], am_T0 q1.2)
    exact rfX5_closeOf_21 d N (q1.2.1 (TA n0) 1) q1.2 _ h _ _
  · refine am_Rn.ifF hc ?_
    refine am_Rn.op _ (9, [some (.ref (TA n0)), some (.int l1)], [.ref (TA n0)], am_T0 q1.2) rfl rfl ?_
    refine am_Rn.getf rfl (l2_isO n0 q1.2) (l2_ref n0 4 q1.2 (by decide) rfl) ?_
    show am_Rn _ _ _ _ (12, [some (.ref (TA n0)), some (.int l1)], [.ref (TA n0 + 4)], am_T0 q1.2)
    refine am_Rn.op _ (13, [some (.ref (TA n0)), some (.int l1)], [.int l1, .ref (TA n0 + 4)], am_T0 q1.2) rfl rfl ?_
    obtain ⟨hb2, h⟩ := l2_n h
    refine am_Rn.iald (n := 31) rfl (l2_len n0 4 q1.2 (by decide) (by decide)) hb2 ?_
    show am_Rn _ _ _ _ (14, [some (.ref (TA n0)), some (.int l1)], [.int (q1.2.1 (TA n0 + 4) (Int32.toNatClampNeg l1))], am_T0 q1.2)
    refine am_Rn.op _ (21, [some (.ref (TA n0)), some (.int l1)], [.int (q1.2.1 (TA n0 + 4) (Int32.toNatClampNeg l1))], am_T0 q1.2) rfl rfl ?_
    exact rfX5_closeOf_21 d N (q1.2.1 (TA n0 + 4) (Int32.toNatClampNeg l1)) q1.2 _ h _ _
-- X2_isReached
def PfX2_isReached_2 (d : Nat) (res : Option Value × am_S) (x : Int32 × St) : Prop := am_Rn (am_C d) (am_ct 19) (am_rk 19) res (2, [some (.ref 20), some (.int x.1)], [], am_T0 x.2)
def QfX2_isReached_2 (d : Nat) (res : Option Value × am_S) (y : (Int32 × St)) : Prop := res = (some (.int y.1), am_T0 y.2)
def bfX2_isReached_2 (N : Nat) (x : Int32 × St) : Option ((Int32 × St) ⊕ ((Int32 × St))) := (if 4 ≤ x.1 then some (.inr (0, x.2)) else (if x.1 < 0 ∨ 4 ≤ Int32.toNatClampNeg x.1 then none else (if 1000000 ≤ (x.2.1 31 (Int32.toNatClampNeg x.1)) then some (.inl ((x.1 + 1), x.2)) else some (.inr (1, x.2)))))
def fX2_isReached_2 (N : Nat) (x : Int32 × St) : Option ((Int32 × St)) := whl N (bfX2_isReached_2 N ) x
set_option maxRecDepth 20000 in
theorem rbfX2_isReached_2 (d N : Nat) (res : Option Value × am_S) (x : Int32 × St) (z : (Int32 × St) ⊕ ((Int32 × St))) (h : bfX2_isReached_2 N x = some z) (hz : Sum.elim (PfX2_isReached_2 (d + 0) res ) (QfX2_isReached_2 (d + 0) res ) z) : PfX2_isReached_2 (d + 0) res x := by
  unfold bfX2_isReached_2 at h
  show am_Rn (am_C (d + 0)) (am_ct 19) (am_rk 19) res (2, [some (.ref 20), some (.int x.1)], [], am_T0 x.2)
  refine am_Rn.op _ (3, [some (.ref 20), some (.int x.1)], [.int x.1], am_T0 x.2) rfl rfl ?_
  refine am_Rn.op _ (4, [some (.ref 20), some (.int x.1)], [.int 4, .int x.1], am_T0 x.2) rfl rfl ?_
  refine am_Rn.op _ (if 4 ≤ x.1 then 26 else 7, [some (.ref 20), some (.int x.1)], [], am_T0 x.2) rfl rfl ?_
  rcases l2_i h with ⟨hc, h⟩ | ⟨hc, h⟩
  · refine am_Rn.ifT hc ?_
    refine am_Rn.op _ (27, [some (.ref 20), some (.int x.1)], [.int 0], am_T0 x.2) rfl rfl ?_
    cases h
    exact am_Rn.rt2 _ rfl rfl hz
  · refine am_Rn.ifF hc ?_
    refine am_Rn.op _ (8, [some (.ref 20), some (.int x.1)], [.ref 20], am_T0 x.2) rfl rfl ?_
    refine am_Rn.op _ (11, [some (.ref 20), some (.int x.1)], [.ref 31], am_T0 x.2) rfl rfl ?_
    refine am_Rn.op _ (12, [some (.ref 20), some (.int x.1)], [.int x.1, .ref 31], am_T0 x.2) rfl rfl ?_
    obtain ⟨hb1, h⟩ := l2_n h
    refine am_Rn.iald (n := 4) rfl rfl hb1 ?_
    show am_Rn _ _ _ _ (13, [some (.ref 20), some (.int x.1)], [.int (x.2.1 31 (Int32.toNatClampNeg x.1))], am_T0 x.2)
    refine am_Rn.op _ (15, [some (.ref 20), some (.int x.1)], [.int 1000000, .int (x.2.1 31 (Int32.toNatClampNeg x.1))], am_T0 x.2) rfl rfl ?_
    refine am_Rn.op _ (if 1000000 ≤ (x.2.1 31 (Int32.toNatClampNeg x.1)) then 20 else 18, [some (.ref 20), some (.int x.1)], [], am_T0 x.2) rfl rfl ?_
    rcases l2_i h with ⟨hc, h⟩ | ⟨hc, h⟩
    · refine am_Rn.ifT hc ?_
      refine am_Rn.op _ (23, [some (.ref 20), some (.int (x.1 + 1))], [], am_T0 x.2) rfl rfl ?_
      refine am_Rn.op _ (2, [some (.ref 20), some (.int (x.1 + 1))], [], am_T0 x.2) rfl rfl ?_
      cases h
      exact hz 
    · refine am_Rn.ifF hc ?_
      refine am_Rn.op _ (19, [some (.ref 20), some (.int x.1)], [.int 1], am_T0 x.2) rfl rfl ?_
      cases h
      exact am_Rn.rt2 _ rfl rfl hz
theorem rfX2_isReached_2 (d N : Nat) (res : Option Value × am_S) (x : Int32 × St) (y : (Int32 × St)) (h : fX2_isReached_2 N x = some y) (hq : QfX2_isReached_2 (d + 0) res y) : PfX2_isReached_2 (d + 0) res x := whl_ind _ _ (fun x z => rbfX2_isReached_2 d N res x z) N x y h hq
def fX2_isReached (N : Nat) (S : St) : Option (Int32 × St) := (fX2_isReached_2 N (0, S)).bind (fun y2 => some (y2.1, y2.2))
set_option maxRecDepth 20000 in
theorem rfX2_isReached (d N : Nat) (S : St) (z : (Int32 × St)) (h : fX2_isReached N S = some z) : am_C (d + 1) 19 [.ref 20] (am_T0 S) (some (.int z.1), am_T0 z.2) := by
  unfold fX2_isReached at h
  show am_Rn (am_C (d + 0)) (am_ct 19) (am_rk 19) (some (.int z.1), am_T0 z.2) (0, [some (.ref 20), none], [], am_T0 S)
  refine am_Rn.op _ (1, [some (.ref 20), none], [.int 0], am_T0 S) rfl rfl ?_
  refine am_Rn.op _ (2, [some (.ref 20), some (.int 0)], [], am_T0 S) rfl rfl ?_
  obtain ⟨y2, hy2, h⟩ := l2_b h
  refine rfX2_isReached_2 d N _  (0, S) y2 hy2 ?_ 
  cases h
  exact rfl
