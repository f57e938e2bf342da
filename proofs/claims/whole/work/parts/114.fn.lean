-- X8_steps
def fX8_steps_73 (N : Nat) (s0 : Int32) (S : St) : Option (Int32 × St) := some (s0, S)
set_option maxRecDepth 20000 in
theorem rfX8_steps_73 (d N : Nat) (s0 : Int32) (S : St) (z : (Int32 × St)) (h : fX8_steps_73 N s0 S = some z) (w0 : Option Value) (w1 : Option Value) (w2 : Option Value) (w3 : Option Value) (w4 : Option Value) (w5 : Option Value) : am_Rn (am_C (d + 9)) (am_ct 152) (am_rk 152) (some (.int z.1), am_T0 z.2) (73, [w0, w1, w2, w3, w4, w5], [.int s0], am_T0 S) := by
  unfold fX8_steps_73 at h
  cases h
  exact am_Rn.rt _ rfl rfl
def fX8_steps (N : Nat) (l1 : Int32) (l2 : Int32) (l3 : Int32) (l4 : Int32) (S : St) : Option (Int32 × St) := (fX8_isRoutine N l1 S).bind (fun q1 => (if q1.1 = 0 then some ((-1), q1.2) else (fX8_isState N l2 q1.2).bind (fun q2 => (if q2.1 = 0 then some ((-1), q2.2) else (if l3 < 0 then some ((-1), q2.2) else (if 6 < l3 then some ((-1), q2.2) else (fX8_isState N l4 q2.2).bind (fun q3 => (if q3.1 = 0 then some ((-1), q3.2) else (fX8_runs N q3.2).bind (fun q4 => (if ((((((l1 * 4) + l2) * 7) + l3) * 4) + l4) < 0 ∨ 896 ≤ Int32.toNatClampNeg ((((((l1 * 4) + l2) * 7) + l3) * 4) + l4) then none else (if (q4.1 141 (Int32.toNatClampNeg ((((((l1 * 4) + l2) * 7) + l3) * 4) + l4))) < 100000 then fX8_steps_73 N (q4.1 141 (Int32.toNatClampNeg ((((((l1 * 4) + l2) * 7) + l3) * 4) + l4))) q4 else fX8_steps_73 N (-1) q4)))))))))))
set_option maxRecDepth 20000 in
theorem rfX8_steps (d N : Nat) (l1 : Int32) (l2 : Int32) (l3 : Int32) (l4 : Int32) (S : St) (z : (Int32 × St)) (h : fX8_steps N l1 l2 l3 l4 S = some z) : am_C (d + 10) 152 [.ref 128, .int l1, .int l2, .int l3, .int l4] (am_T0 S) (some (.int z.1), am_T0 z.2) := by
  unfold fX8_steps at h
  show am_Rn (am_C (d + 9)) (am_ct 152) (am_rk 152) (some (.int z.1), am_T0 z.2) (0, [some (.ref 128), some (.int l1), some (.int l2), some (.int l3), some (.int l4), none], [], am_T0 S)
  refine am_Rn.op _ (1, [some (.ref 128), some (.int l1), some (.int l2), some (.int l3), some (.int l4), none], [.int l1], am_T0 S) rfl rfl ?_
  obtain ⟨q1, hq1, h⟩ := l2_b h
  refine am_Rn.cl _ (some (.int q1.1)) (am_T0 q1.2) rfl rfl (rfX8_isRoutine (d + 8) N l1 S q1 hq1) ?_
  show am_Rn _ _ _ _ (4, [some (.ref 128), some (.int l1), some (.int l2), some (.int l3), some (.int l4), none], [.int q1.1], am_T0 q1.2)
  refine am_Rn.op _ (if q1.1 = 0 then 32 else 7, [some (.ref 128), some (.int l1), some (.int l2), some (.int l3), some (.int l4), none], [], am_T0 q1.2) rfl rfl ?_
  rcases l2_i h with ⟨hc, h⟩ | ⟨hc, h⟩
  · refine am_Rn.ifT hc ?_
    refine am_Rn.op _ (33, [some (.ref 128), some (.int l1), some (.int l2), some (.int l3), some (.int l4), none], [.int (-1)], am_T0 q1.2) rfl rfl ?_
    cases h
    exact am_Rn.rt _ rfl rfl
  · refine am_Rn.ifF hc ?_
    refine am_Rn.op _ (8, [some (.ref 128), some (.int l1), some (.int l2), some (.int l3), some (.int l4), none], [.int l2], am_T0 q1.2) rfl rfl ?_
    obtain ⟨q2, hq2, h⟩ := l2_b h
    refine am_Rn.cl _ (some (.int q2.1)) (am_T0 q2.2) rfl rfl (rfX8_isState (d + 8) N l2 q1.2 q2 hq2) ?_
    show am_Rn _ _ _ _ (11, [some (.ref 128), some (.int l1), some (.int l2), some (.int l3), some (.int l4), none], [.int q2.1], am_T0 q2.2)
    refine am_Rn.op _ (if q2.1 = 0 then 32 else 14, [some (.ref 128), some (.int l1), some (.int l2), some (.int l3), some (.int l4), none], [], am_T0 q2.2) rfl rfl ?_
    rcases l2_i h with ⟨hc, h⟩ | ⟨hc, h⟩
    · refine am_Rn.ifT hc ?_
      refine am_Rn.op _ (33, [some (.ref 128), some (.int l1), some (.int l2), some (.int l3), some (.int l4), none], [.int (-1)], am_T0 q2.2) rfl rfl ?_
      cases h
      exact am_Rn.rt _ rfl rfl
    · refine am_Rn.ifF hc ?_
      refine am_Rn.op _ (15, [some (.ref 128), some (.int l1), some (.int l2), some (.int l3), some (.int l4), none], [.int l3], am_T0 q2.2) rfl rfl ?_
      refine am_Rn.op _ (if l3 < 0 then 32 else 18, [some (.ref 128), some (.int l1), some (.int l2), some (.int l3), some (.int l4), none], [], am_T0 q2.2) rfl rfl ?_
      rcases l2_i h with ⟨hc, h⟩ | ⟨hc, h⟩
      · refine am_Rn.ifT hc ?_
        refine am_Rn.op _ (33, [some (.ref 128), some (.int l1), some (.int l2), some (.int l3), some (.int l4), none], [.int (-1)], am_T0 q2.2) rfl rfl ?_
        cases h
        exact am_Rn.rt _ rfl rfl
      · refine am_Rn.ifF hc ?_
        refine am_Rn.op _ (19, [some (.ref 128), some (.int l1), some (.int l2), some (.int l3), some (.int l4), none], [.int l3], am_T0 q2.2) rfl rfl ?_
        refine am_Rn.op _ (21, [some (.ref 128), some (.int l1), some (.int l2), some (.int l3), some (.int l4), none], [.int 6, .int l3], am_T0 q2.2) rfl rfl ?_
        refine am_Rn.op _ (if 6 < l3 then 32 else 24, [some (.ref 128), some (.int l1), some (.int l2), some (.int l3), some (.int l4), none], [], am_T0 q2.2) rfl rfl ?_
        rcases l2_i h with ⟨hc, h⟩ | ⟨hc, h⟩
        · refine am_Rn.ifT hc ?_
          refine am_Rn.op _ (33, [some (.ref 128), some (.int l1), some (.int l2), some (.int l3), some (.int l4), none], [.int (-1)], am_T0 q2.2) rfl rfl ?_
          cases h
          exact am_Rn.rt _ rfl rfl
        · refine am_Rn.ifF hc ?_
          refine am_Rn.op _ (26, [some (.ref 128), some (.int l1), some (.int l2), some (.int l3), some (.int l4), none], [.int l4], am_T0 q2.2) rfl rfl ?_
          obtain ⟨q3, hq3, h⟩ := l2_b h
          refine am_Rn.cl _ (some (.int q3.1)) (am_T0 q3.2) rfl rfl (rfX8_isState (d + 8) N l4 q2.2 q3 hq3) ?_
          show am_Rn _ _ _ _ (29, [some (.ref 128), some (.int l1), some (.int l2), some (.int l3), some (.int l4), none], [.int q3.1], am_T0 q3.2)
          refine am_Rn.op _ (if q3.1 = 0 then 32 else 34, [some (.ref 128), some (.int l1), some (.int l2), some (.int l3), some (.int l4), none], [], am_T0 q3.2) rfl rfl ?_
          rcases l2_i h with ⟨hc, h⟩ | ⟨hc, h⟩
          · refine am_Rn.ifT hc ?_
            refine am_Rn.op _ (33, [some (.ref 128), some (.int l1), some (.int l2), some (.int l3), some (.int l4), none], [.int (-1)], am_T0 q3.2) rfl rfl ?_
            cases h
            exact am_Rn.rt _ rfl rfl
          · refine am_Rn.ifF hc ?_
            refine am_Rn.op _ (35, [some (.ref 128), some (.int l1), some (.int l2), some (.int l3), some (.int l4), none], [.ref 128], am_T0 q3.2) rfl rfl ?_
            obtain ⟨q4, hq4, h⟩ := l2_b h
            refine am_Rn.cl _ none (am_T0 q4) rfl rfl (rfX8_runs (d + 0) N q3.2 q4 hq4) ?_
            show am_Rn _ _ _ _ (38, [some (.ref 128), some (.int l1), some (.int l2), some (.int l3), some (.int l4), none], [], am_T0 q4)
            refine am_Rn.op _ (39, [some (.ref 128), some (.int l1), some (.int l2), some (.int l3), some (.int l4), none], [.ref 128], am_T0 q4) rfl rfl ?_
            refine am_Rn.op _ (42, [some (.ref 128), some (.int l1), some (.int l2), some (.int l3), some (.int l4), none], [.ref 141], am_T0 q4) rfl rfl ?_
            refine am_Rn.op _ (43, [some (.ref 128), some (.int l1), some (.int l2), some (.int l3), some (.int l4), none], [.int l1, .ref 141], am_T0 q4) rfl rfl ?_
            refine am_Rn.op _ (44, [some (.ref 128), some (.int l1), some (.int l2), some (.int l3), some (.int l4), none], [.int 4, .int l1, .ref 141], am_T0 q4) rfl rfl ?_
            refine am_Rn.op _ (45, [some (.ref 128), some (.int l1), some (.int l2), some (.int l3), some (.int l4), none], [.int (l1 * 4), .ref 141], am_T0 q4) rfl rfl ?_
            refine am_Rn.op _ (46, [some (.ref 128), some (.int l1), some (.int l2), some (.int l3), some (.int l4), none], [.int l2, .int (l1 * 4), .ref 141], am_T0 q4) rfl rfl ?_
            refine am_Rn.op _ (47, [some (.ref 128), some (.int l1), some (.int l2), some (.int l3), some (.int l4), none], [.int ((l1 * 4) + l2), .ref 141], am_T0 q4) rfl rfl ?_
            refine am_Rn.op _ (49, [some (.ref 128), some (.int l1), some (.int l2), some (.int l3), some (.int l4), none], [.int 7, .int ((l1 * 4) + l2), .ref 141], am_T0 q4) rfl rfl ?_
            refine am_Rn.op _ (50, [some (.ref 128), some (.int l1), some (.int l2), some (.int l3), some (.int l4), none], [.int (((l1 * 4) + l2) * 7), .ref 141], am_T0 q4) rfl rfl ?_
            refine am_Rn.op _ (51, [some (.ref 128), some (.int l1), some (.int l2), some (.int l3), some (.int l4), none], [.int l3, .int (((l1 * 4) + l2) * 7), .ref 141], am_T0 q4) rfl rfl ?_
            refine am_Rn.op _ (52, [some (.ref 128), some (.int l1), some (.int l2), some (.int l3), some (.int l4), none], [.int ((((l1 * 4) + l2) * 7) + l3), .ref 141], am_T0 q4) rfl rfl ?_
            refine am_Rn.op _ (53, [some (.ref 128), some (.int l1), some (.int l2), some (.int l3), some (.int l4), none], [.int 4, .int ((((l1 * 4) + l2) * 7) + l3), .ref 141], am_T0 q4) rfl rfl ?_
            refine am_Rn.op _ (54, [some (.ref 128), some (.int l1), some (.int l2), some (.int l3), some (.int l4), none], [.int (((((l1 * 4) + l2) * 7) + l3) * 4), .ref 141], am_T0 q4) rfl rfl ?_
            refine am_Rn.op _ (56, [some (.ref 128), some (.int l1), some (.int l2), some (.int l3), some (.int l4), none], [.int l4, .int (((((l1 * 4) + l2) * 7) + l3) * 4), .ref 141], am_T0 q4) rfl rfl ?_
            refine am_Rn.op _ (57, [some (.ref 128), some (.int l1), some (.int l2), some (.int l3), some (.int l4), none], [.int ((((((l1 * 4) + l2) * 7) + l3) * 4) + l4), .ref 141], am_T0 q4) rfl rfl ?_
            obtain ⟨hb5, h⟩ := l2_n h
            refine am_Rn.iald (n := 896) rfl rfl hb5 ?_
            show am_Rn _ _ _ _ (58, [some (.ref 128), some (.int l1), some (.int l2), some (.int l3), some (.int l4), none], [.int (q4.1 141 (Int32.toNatClampNeg ((((((l1 * 4) + l2) * 7) + l3) * 4) + l4)))], am_T0 q4)
            refine am_Rn.op _ (60, [some (.ref 128), some (.int l1), some (.int l2), some (.int l3), some (.int l4), some (.int (q4.1 141 (Int32.toNatClampNeg ((((((l1 * 4) + l2) * 7) + l3) * 4) + l4))))], [], am_T0 q4) rfl rfl ?_
            refine am_Rn.op _ (62, [some (.ref 128), some (.int l1), some (.int l2), some (.int l3), some (.int l4), some (.int (q4.1 141 (Int32.toNatClampNeg ((((((l1 * 4) + l2) * 7) + l3) * 4) + l4))))], [.int (q4.1 141 (Int32.toNatClampNeg ((((((l1 * 4) + l2) * 7) + l3) * 4) + l4)))], am_T0 q4) rfl rfl ?_
            refine am_Rn.op _ (64, [some (.ref 128), some (.int l1), some (.int l2), some (.int l3), some (.int l4), some (.int (q4.1 141 (Int32.toNatClampNeg ((((((l1 * 4) + l2) * 7) + l3) * 4) + l4))))], [.int 100000, .int (q4.1 141 (Int32.toNatClampNeg ((((((l1 * 4) + l2) * 7) + l3) * 4) + l4)))], am_T0 q4) rfl rfl ?_
            refine am_Rn.op _ (if (q4.1 141 (Int32.toNatClampNeg ((((((l1 * 4) + l2) * 7) + l3) * 4) + l4))) < 100000 then 71 else 67, [some (.ref 128), some (.int l1), some (.int l2), some (.int l3), some (.int l4), some (.int (q4.1 141 (Int32.toNatClampNeg ((((((l1 * 4) + l2) * 7) + l3) * 4) + l4))))], [], am_T0 q4) rfl rfl ?_
            rcases l2_i h with ⟨hc, h⟩ | ⟨hc, h⟩
            · refine am_Rn.ifT hc ?_
              refine am_Rn.op _ (73, [some (.ref 128), some (.int l1), some (.int l2), some (.int l3), some (.int l4), some (.int (q4.1 141 (Int32.toNatClampNeg ((((((l1 * 4) + l2) * 7) + l3) * 4) + l4))))], [.int (q4.1 141 (Int32.toNatClampNeg ((((((l1 * 4) + l2) * 7) + l3) * 4) + l4)))], am_T0 q4) rfl rfl ?_
              exact rfX8_steps_73 d N (q4.1 141 (Int32.toNatClampNeg ((((((l1 * 4) + l2) * 7) + l3) * 4) + l4))) q4 _ h _ _ _ _ _ _
            · refine am_Rn.ifF hc ?_
              refine am_Rn.op _ (68, [some (.ref 128), some (.int l1), some (.int l2), some (.int l3), some (.int l4), some (.int (q4.1 141 (Int32.toNatClampNeg ((((((l1 * 4) + l2) * 7) + l3) * 4) + l4))))], [.int (-1)], am_T0 q4) rfl rfl ?_
              refine am_Rn.op _ (73, [some (.ref 128), some (.int l1), some (.int l2), some (.int l3), some (.int l4), some (.int (q4.1 141 (Int32.toNatClampNeg ((((((l1 * 4) + l2) * 7) + l3) * 4) + l4))))], [.int (-1)], am_T0 q4) rfl rfl ?_
              exact rfX8_steps_73 d N (-1) q4 _ h _ _ _ _ _ _
-- X8_canLeave
def PfX8_canLeave_6 (d : Nat) (res : Option Value × am_S) (l1 : Int32) (l2 : Int32) (l3 : Int32) (x : Int32 × Int32 × St) : Prop := am_Rn (am_C d) (am_ct 153) (am_rk 153) res (6, [some (.ref 128), some (.int l1), some (.int l2), some (.int l3), some (.int x.1), some (.int x.2.1)], [], am_T0 x.2.2)
def QfX8_canLeave_6 (d : Nat) (res : Option Value × am_S) (l1 : Int32) (l2 : Int32) (l3 : Int32) (y : (Int32 × St)) : Prop := res = (some (.int y.1), am_T0 y.2)
def fX8_canLeave_35 (N : Nat) (l1 : Int32) (l2 : Int32) (l3 : Int32) (l5 : Int32) (s0 : Int32) (S : St) : Option ((Int32 × Int32 × St) ⊕ ((Int32 × St))) := some (.inl (s0, (l5 + 1), S))
set_option maxRecDepth 20000 in
theorem rfX8_canLeave_35 (d N : Nat) (res : Option Value × am_S) (l1 : Int32) (l2 : Int32) (l3 : Int32) (l5 : Int32) (s0 : Int32) (S : St) (z : (Int32 × Int32 × St) ⊕ ((Int32 × St))) (h : fX8_canLeave_35 N l1 l2 l3 l5 s0 S = some z) (hz : Sum.elim (PfX8_canLeave_6 (d + 10) res l1 l2 l3 ) (QfX8_canLeave_6 (d + 10) res l1 l2 l3 ) z) (w4 : Option Value) : am_Rn (am_C (d + 10)) (am_ct 153) (am_rk 153) res (35, [some (.ref 128), some (.int l1), some (.int l2), some (.int l3), w4, some (.int l5)], [.int s0], am_T0 S) := by
  unfold fX8_canLeave_35 at h
  refine am_Rn.op _ (37, [some (.ref 128), some (.int l1), some (.int l2), some (.int l3), some (.int s0), some (.int l5)], [], am_T0 S) rfl rfl ?_
  refine am_Rn.op _ (40, [some (.ref 128), some (.int l1), some (.int l2), some (.int l3), some (.int s0), some (.int (l5 + 1))], [], am_T0 S) rfl rfl ?_
  refine am_Rn.op _ (6, [some (.ref 128), some (.int l1), some (.int l2), some (.int l3), some (.int s0), some (.int (l5 + 1))], [], am_T0 S) rfl rfl ?_
  cases h
  exact hz 
def fX8_canLeave_30 (N : Nat) (l1 : Int32) (l2 : Int32) (l3 : Int32) (l5 : Int32) (S : St) : Option ((Int32 × Int32 × St) ⊕ ((Int32 × St))) := fX8_canLeave_35 N l1 l2 l3 l5 1 S
set_option maxRecDepth 20000 in
theorem rfX8_canLeave_30 (d N : Nat) (res : Option Value × am_S) (l1 : Int32) (l2 : Int32) (l3 : Int32) (l5 : Int32) (S : St) (z : (Int32 × Int32 × St) ⊕ ((Int32 × St))) (h : fX8_canLeave_30 N l1 l2 l3 l5 S = some z) (hz : Sum.elim (PfX8_canLeave_6 (d + 10) res l1 l2 l3 ) (QfX8_canLeave_6 (d + 10) res l1 l2 l3 ) z) (w4 : Option Value) : am_Rn (am_C (d + 10)) (am_ct 153) (am_rk 153) res (30, [some (.ref 128), some (.int l1), some (.int l2), some (.int l3), w4, some (.int l5)], [], am_T0 S) := by
  unfold fX8_canLeave_30 at h
  refine am_Rn.op _ (31, [some (.ref 128), some (.int l1), some (.int l2), some (.int l3), w4, some (.int l5)], [.int 1], am_T0 S) rfl rfl ?_
  refine am_Rn.op _ (35, [some (.ref 128), some (.int l1), some (.int l2), some (.int l3), w4, some (.int l5)], [.int 1], am_T0 S) rfl rfl ?_
  exact rfX8_canLeave_35 d N _ l1 l2 l3 l5 1 S _ h hz _
def bfX8_canLeave_6 (N : Nat) (l1 : Int32) (l2 : Int32) (l3 : Int32) (x : Int32 × Int32 × St) : Option ((Int32 × Int32 × St) ⊕ ((Int32 × St))) := (if 4 ≤ x.2.1 then (if x.1 = 0 ∨ x.1 = 1 then some (.inr (x.1, x.2.2)) else none) else (if x.1 = 0 then (fX8_steps N l1 l2 l3 x.2.1 x.2.2).bind (fun q2 => (if q2.1 = (-1) then fX8_canLeave_35 N l1 l2 l3 x.2.1 0 q2.2 else fX8_canLeave_30 N l1 l2 l3 x.2.1 q2.2)) else fX8_canLeave_30 N l1 l2 l3 x.2.1 x.2.2))
def fX8_canLeave_6 (N : Nat) (l1 : Int32) (l2 : Int32) (l3 : Int32) (x : Int32 × Int32 × St) : Option ((Int32 × St)) := whl N (bfX8_canLeave_6 N l1 l2 l3 ) x
set_option maxRecDepth 20000 in
theorem rbfX8_canLeave_6 (d N : Nat) (res : Option Value × am_S) (l1 : Int32) (l2 : Int32) (l3 : Int32) (x : Int32 × Int32 × St) (z : (Int32 × Int32 × St) ⊕ ((Int32 × St))) (h : bfX8_canLeave_6 N l1 l2 l3 x = some z) (hz : Sum.elim (PfX8_canLeave_6 (d + 10) res l1 l2 l3 ) (QfX8_canLeave_6 (d + 10) res l1 l2 l3 ) z) : PfX8_canLeave_6 (d + 10) res l1 l2 l3 x := by
  unfold bfX8_canLeave_6 at h
  show am_Rn (am_C (d + 10)) (am_ct 153) (am_rk 153) res (6, [some (.ref 128), some (.int l1), some (.int l2), some (.int l3), some (.int x.1), some (.int x.2.1)], [], am_T0 x.2.2)
  refine am_Rn.op _ (8, [some (.ref 128), some (.int l1), some (.int l2), some (.int l3), some (.int x.1), some (.int x.2.1)], [.int x.2.1], am_T0 x.2.2) rfl rfl ?_
  refine am_Rn.op _ (9, [some (.ref 128), some (.int l1), some (.int l2), some (.int l3), some (.int x.1), some (.int x.2.1)], [.int 4, .int x.2.1], am_T0 x.2.2) rfl rfl ?_
  refine am_Rn.op _ (if 4 ≤ x.2.1 then 43 else 12, [some (.ref 128), some (.int l1), some (.int l2), some (.int l3), some (.int x.1), some (.int x.2.1)], [], am_T0 x.2.2) rfl rfl ?_
  rcases l2_i h with ⟨hc, h⟩ | ⟨hc, h⟩
  · refine am_Rn.ifT hc ?_
    refine am_Rn.op _ (45, [some (.ref 128), some (.int l1), some (.int l2), some (.int l3), some (.int x.1), some (.int x.2.1)], [.int x.1], am_T0 x.2.2) rfl rfl ?_
    obtain ⟨hb1, h⟩ := l2_y h
    cases h
    exact am_Rn.rt2 _ rfl (l2_rz hb1) hz
  · refine am_Rn.ifF hc ?_
    refine am_Rn.op _ (14, [some (.ref 128), some (.int l1), some (.int l2), some (.int l3), some (.int x.1), some (.int x.2.1)], [.int x.1], am_T0 x.2.2) rfl rfl ?_
    refine am_Rn.op _ (if x.1 = 0 then 17 else 30, [some (.ref 128), some (.int l1), some (.int l2), some (.int l3), some (.int x.1), some (.int x.2.1)], [], am_T0 x.2.2) rfl rfl ?_
    rcases l2_i h with ⟨hc, h⟩ | ⟨hc, h⟩
    · refine am_Rn.ifT hc ?_
      refine am_Rn.op _ (18, [some (.ref 128), some (.int l1), some (.int l2), some (.int l3), some (.int x.1), some (.int x.2.1)], [.ref 128], am_T0 x.2.2) rfl rfl ?_
      refine am_Rn.op _ (19, [some (.ref 128), some (.int l1), some (.int l2), some (.int l3), some (.int x.1), some (.int x.2.1)], [.int l1, .ref 128], am_T0 x.2.2) rfl rfl ?_
      refine am_Rn.op _ (20, [some (.ref 128), some (.int l1), some (.int l2), some (.int l3), some (.int x.1), some (.int x.2.1)], [.int l2, .int l1, .ref 128], am_T0 x.2.2) rfl rfl ?_
      refine am_Rn.op _ (21, [some (.ref 128), some (.int l1), some (.int l2), some (.int l3), some (.int x.1), some (.int x.2.1)], [.int l3, .int l2, .int l1, .ref 128], am_T0 x.2.2) rfl rfl ?_
      refine am_Rn.op _ (23, [some (.ref 128), some (.int l1), some (.int l2), some (.int l3), some (.int x.1), some (.int x.2.1)], [.int x.2.1, .int l3, .int l2, .int l1, .ref 128], am_T0 x.2.2) rfl rfl ?_
      obtain ⟨q2, hq2, h⟩ := l2_b h
      refine am_Rn.cl _ (some (.int q2.1)) (am_T0 q2.2) rfl rfl (rfX8_steps (d + 0) N l1 l2 l3 x.2.1 x.2.2 q2 hq2) ?_
      show am_Rn _ _ _ _ (26, [some (.ref 128), some (.int l1), some (.int l2), some (.int l3), some (.int x.1), some (.int x.2.1)], [.int q2.1], am_T0 q2.2)
      refine am_Rn.op _ (27, [some (.ref 128), some (.int l1), some (.int l2), some (.int l3), some (.int x.1), some (.int x.2.1)], [.int (-1), .int q2.1], am_T0 q2.2) rfl rfl ?_
      refine am_Rn.op _ (if q2.1 = (-1) then 34 else 30, [some (.ref 128), some (.int l1), some (.int l2), some (.int l3), some (.int x.1), some (.int x.2.1)], [], am_T0 q2.2) rfl rfl ?_
      rcases l2_i h with ⟨hc, h⟩ | ⟨hc, h⟩
      · refine am_Rn.ifT hc ?_
        refine am_Rn.op _ (35, [some (.ref 128), some (.int l1), some (.int l2), some (.int l3), some (.int x.1), some (.int x.2.1)], [.int 0], am_T0 q2.2) rfl rfl ?_
        exact rfX8_canLeave_35 d N _ l1 l2 l3 x.2.1 0 q2.2 _ h hz _
      · refine am_Rn.ifF hc ?_
        exact rfX8_canLeave_30 d N _ l1 l2 l3 x.2.1 q2.2 _ h hz _
    · refine am_Rn.ifF hc ?_
      exact rfX8_canLeave_30 d N _ l1 l2 l3 x.2.1 x.2.2 _ h hz _
theorem rfX8_canLeave_6 (d N : Nat) (res : Option Value × am_S) (l1 : Int32) (l2 : Int32) (l3 : Int32) (x : Int32 × Int32 × St) (y : (Int32 × St)) (h : fX8_canLeave_6 N l1 l2 l3 x = some y) (hq : QfX8_canLeave_6 (d + 10) res l1 l2 l3 y) : PfX8_canLeave_6 (d + 10) res l1 l2 l3 x := whl_ind _ _ (fun x z => rbfX8_canLeave_6 d N res l1 l2 l3 x z) N x y h hq
def fX8_canLeave (N : Nat) (l1 : Int32) (l2 : Int32) (l3 : Int32) (S : St) : Option (Int32 × St) := (fX8_canLeave_6 N l1 l2 l3 (0, 0, S)).bind (fun y3 => some (y3.1, y3.2))
set_option maxRecDepth 20000 in
theorem rfX8_canLeave (d N : Nat) (l1 : Int32) (l2 : Int32) (l3 : Int32) (S : St) (z : (Int32 × St)) (h : fX8_canLeave N l1 l2 l3 S = some z) : am_C (d + 11) 153 [.ref 128, .int l1, .int l2, .int l3] (am_T0 S) (some (.int z.1), am_T0 z.2) := by
  unfold fX8_canLeave at h
  show am_Rn (am_C (d + 10)) (am_ct 153) (am_rk 153) (some (.int z.1), am_T0 z.2) (0, [some (.ref 128), some (.int l1), some (.int l2), some (.int l3), none, none], [], am_T0 S)
  refine am_Rn.op _ (1, [some (.ref 128), some (.int l1), some (.int l2), some (.int l3), none, none], [.int 0], am_T0 S) rfl rfl ?_
  refine am_Rn.op _ (3, [some (.ref 128), some (.int l1), some (.int l2), some (.int l3), some (.int 0), none], [], am_T0 S) rfl rfl ?_
  refine am_Rn.op _ (4, [some (.ref 128), some (.int l1), some (.int l2), some (.int l3), some (.int 0), none], [.int 0], am_T0 S) rfl rfl ?_
  refine am_Rn.op _ (6, [some (.ref 128), some (.int l1), some (.int l2), some (.int l3), some (.int 0), some (.int 0)], [], am_T0 S) rfl rfl ?_
  obtain ⟨y3, hy3, h⟩ := l2_b h
  refine rfX8_canLeave_6 d N _ l1 l2 l3 (0, 0, S) y3 hy3 ?_ 
  cases h
  exact rfl
-- X8_leaves
def PfX8_leaves_21 (d : Nat) (res : Option Value × am_S) (l1 : Int32) (l2 : Int32) (x : Int32 × Int32 × St) : Prop := am_Rn (am_C d) (am_ct 154) (am_rk 154) res (21, [some (.ref 128), some (.int l1), some (.int l2), some (.int x.1), some (.int x.2.1)], [], am_T0 x.2.2)
def QfX8_leaves_21 (d : Nat) (res : Option Value × am_S) (l1 : Int32) (l2 : Int32) (y : (Int32 × St)) : Prop := res = (some (.int y.1), am_T0 y.2)
def fX8_leaves_48 (N : Nat) (l1 : Int32) (l2 : Int32) (l3 : Int32) (l4 : Int32) (S : St) : Option ((Int32 × Int32 × St) ⊕ ((Int32 × St))) := some (.inl (l3, (l4 + 1), S))
set_option maxRecDepth 20000 in
theorem rfX8_leaves_48 (d N : Nat) (res : Option Value × am_S) (l1 : Int32) (l2 : Int32) (l3 : Int32) (l4 : Int32) (S : St) (z : (Int32 × Int32 × St) ⊕ ((Int32 × St))) (h : fX8_leaves_48 N l1 l2 l3 l4 S = some z) (hz : Sum.elim (PfX8_leaves_21 (d + 11) res l1 l2 ) (QfX8_leaves_21 (d + 11) res l1 l2 ) z) : am_Rn (am_C (d + 11)) (am_ct 154) (am_rk 154) res (48, [some (.ref 128), some (.int l1), some (.int l2), some (.int l3), some (.int l4)], [], am_T0 S) := by
  unfold fX8_leaves_48 at h
  refine am_Rn.op _ (51, [some (.ref 128), some (.int l1), some (.int l2), some (.int l3), some (.int (l4 + 1))], [], am_T0 S) rfl rfl ?_
  refine am_Rn.op _ (21, [some (.ref 128), some (.int l1), some (.int l2), some (.int l3), some (.int (l4 + 1))], [], am_T0 S) rfl rfl ?_
  cases h
  exact hz 
def bfX8_leaves_21 (N : Nat) (l1 : Int32) (l2 : Int32) (x : Int32 × Int32 × St) : Option ((Int32 × Int32 × St) ⊕ ((Int32 × St))) := (if 6 ≤ x.2.1 then some (.inr (x.1, x.2.2)) else (fX8_canLeave N l1 l2 (x.2.1 + 1) x.2.2).bind (fun q1 => (if q1.1 = 0 then fX8_leaves_48 N l1 l2 x.1 x.2.1 q1.2 else fX8_leaves_48 N l1 l2 (x.1 ||| (1 <<< (x.2.1 &&& 31))) x.2.1 q1.2)))
def fX8_leaves_21 (N : Nat) (l1 : Int32) (l2 : Int32) (x : Int32 × Int32 × St) : Option ((Int32 × St)) := whl N (bfX8_leaves_21 N l1 l2 ) x
set_option maxRecDepth 20000 in
theorem rbfX8_leaves_21 (d N : Nat) (res : Option Value × am_S) (l1 : Int32) (l2 : Int32) (x : Int32 × Int32 × St) (z : (Int32 × Int32 × St) ⊕ ((Int32 × St))) (h : bfX8_leaves_21 N l1 l2 x = some z) (hz : Sum.elim (PfX8_leaves_21 (d + 11) res l1 l2 ) (QfX8_leaves_21 (d + 11) res l1 l2 ) z) : PfX8_leaves_21 (d + 11) res l1 l2 x := by
  unfold bfX8_leaves_21 at h
  show am_Rn (am_C (d + 11)) (am_ct 154) (am_rk 154) res (21, [some (.ref 128), some (.int l1), some (.int l2), some (.int x.1), some (.int x.2.1)], [], am_T0 x.2.2)
  refine am_Rn.op _ (23, [some (.ref 128), some (.int l1), some (.int l2), some (.int x.1), some (.int x.2.1)], [.int x.2.1], am_T0 x.2.2) rfl rfl ?_
  refine am_Rn.op _ (25, [some (.ref 128), some (.int l1), some (.int l2), some (.int x.1), some (.int x.2.1)], [.int 6, .int x.2.1], am_T0 x.2.2) rfl rfl ?_
  refine am_Rn.op _ (if 6 ≤ x.2.1 then 54 else 28, [some (.ref 128), some (.int l1), some (.int l2), some (.int x.1), some (.int x.2.1)], [], am_T0 x.2.2) rfl rfl ?_
  rcases l2_i h with ⟨hc, h⟩ | ⟨hc, h⟩
  · refine am_Rn.ifT hc ?_
    refine am_Rn.op _ (55, [some (.ref 128), some (.int l1), some (.int l2), some (.int x.1), some (.int x.2.1)], [.int x.1], am_T0 x.2.2) rfl rfl ?_
    cases h
    exact am_Rn.rt2 _ rfl rfl hz
  · refine am_Rn.ifF hc ?_
    refine am_Rn.op _ (29, [some (.ref 128), some (.int l1), some (.int l2), some (.int x.1), some (.int x.2.1)], [.ref 128], am_T0 x.2.2) rfl rfl ?_
    refine am_Rn.op _ (30, [some (.ref 128), some (.int l1), some (.int l2), some (.int x.1), some (.int x.2.1)], [.int l1, .ref 128], am_T0 x.2.2) rfl rfl ?_
    refine am_Rn.op _ (31, [some (.ref 128), some (.int l1), some (.int l2), some (.int x.1), some (.int x.2.1)], [.int l2, .int l1, .ref 128], am_T0 x.2.2) rfl rfl ?_
    refine am_Rn.op _ (33, [some (.ref 128), some (.int l1), some (.int l2), some (.int x.1), some (.int x.2.1)], [.int x.2.1, .int l2, .int l1, .ref 128], am_T0 x.2.2) rfl rfl ?_
    refine am_Rn.op _ (34, [some (.ref 128), some (.int l1), some (.int l2), some (.int x.1), some (.int x.2.1)], [.int 1, .int x.2.1, .int l2, .int l1, .ref 128], am_T0 x.2.2) rfl rfl ?_
    refine am_Rn.op _ (35, [some (.ref 128), some (.int l1), some (.int l2), some (.int x.1), some (.int x.2.1)], [.int (x.2.1 + 1), .int l2, .int l1, .ref 128], am_T0 x.2.2) rfl rfl ?_
    obtain ⟨q1, hq1, h⟩ := l2_b h
    refine am_Rn.cl _ (some (.int q1.1)) (am_T0 q1.2) rfl rfl (rfX8_canLeave (d + 0) N l1 l2 (x.2.1 + 1) x.2.2 q1 hq1) ?_
    show am_Rn _ _ _ _ (38, [some (.ref 128), some (.int l1), some (.int l2), some (.int x.1), some (.int x.2.1)], [.int q1.1], am_T0 q1.2)
    refine am_Rn.op _ (if q1.1 = 0 then 48 else 41, [some (.ref 128), some (.int l1), some (.int l2), some (.int x.1), some (.int x.2.1)], [], am_T0 q1.2) rfl rfl ?_
    rcases l2_i h with ⟨hc, h⟩ | ⟨hc, h⟩
    · refine am_Rn.ifT hc ?_
      exact rfX8_leaves_48 d N _ l1 l2 x.1 x.2.1 q1.2 _ h hz 
    · refine am_Rn.ifF hc ?_
      refine am_Rn.op _ (42, [some (.ref 128), some (.int l1), some (.int l2), some (.int x.1), some (.int x.2.1)], [.int x.1], am_T0 q1.2) rfl rfl ?_
      refine am_Rn.op _ (43, [some (.ref 128), some (.int l1), some (.int l2), some (.int x.1), some (.int x.2.1)], [.int 1, .int x.1], am_T0 q1.2) rfl rfl ?_
      refine am_Rn.op _ (45, [some (.ref 128), some (.int l1), some (.int l2), some (.int x.1), some (.int x.2.1)], [.int x.2.1, .int 1, .int x.1], am_T0 q1.2) rfl rfl ?_
      refine am_Rn.op _ (46, [some (.ref 128), some (.int l1), some (.int l2), some (.int x.1), some (.int x.2.1)], [.int (1 <<< (x.2.1 &&& 31)), .int x.1], am_T0 q1.2) rfl rfl ?_
      refine am_Rn.op _ (47, [some (.ref 128), some (.int l1), some (.int l2), some (.int x.1), some (.int x.2.1)], [.int (x.1 ||| (1 <<< (x.2.1 &&& 31)))], am_T0 q1.2) rfl rfl ?_
      refine am_Rn.op _ (48, [some (.ref 128), some (.int l1), some (.int l2), some (.int (x.1 ||| (1 <<< (x.2.1 &&& 31)))), some (.int x.2.1)], [], am_T0 q1.2) rfl rfl ?_
      exact rfX8_leaves_48 d N _ l1 l2 (x.1 ||| (1 <<< (x.2.1 &&& 31))) x.2.1 q1.2 _ h hz 
theorem rfX8_leaves_21 (d N : Nat) (res : Option Value × am_S) (l1 : Int32) (l2 : Int32) (x : Int32 × Int32 × St) (y : (Int32 × St)) (h : fX8_leaves_21 N l1 l2 x = some y) (hq : QfX8_leaves_21 (d + 11) res l1 l2 y) : PfX8_leaves_21 (d + 11) res l1 l2 x := whl_ind _ _ (fun x z => rbfX8_leaves_21 d N res l1 l2 x z) N x y h hq
def fX8_leaves (N : Nat) (l1 : Int32) (l2 : Int32) (S : St) : Option (Int32 × St) := (fX8_isRoutine N l1 S).bind (fun q2 => (if q2.1 = 0 then some ((-1), q2.2) else (fX8_isState N l2 q2.2).bind (fun q3 => (if q3.1 = 0 then some ((-1), q3.2) else (fX8_leaves_21 N l1 l2 (0, 0, q3.2)).bind (fun y4 => some (y4.1, y4.2))))))
set_option maxRecDepth 20000 in
theorem rfX8_leaves (d N : Nat) (l1 : Int32) (l2 : Int32) (S : St) (z : (Int32 × St)) (h : fX8_leaves N l1 l2 S = some z) : am_C (d + 12) 154 [.ref 128, .int l1, .int l2] (am_T0 S) (some (.int z.1), am_T0 z.2) := by
  unfold fX8_leaves at h
  show am_Rn (am_C (d + 11)) (am_ct 154) (am_rk 154) (some (.int z.1), am_T0 z.2) (0, [some (.ref 128), some (.int l1), some (.int l2), none, none], [], am_T0 S)
  refine am_Rn.op _ (1, [some (.ref 128), some (.int l1), some (.int l2), none, none], [.int l1], am_T0 S) rfl rfl ?_
  obtain ⟨q2, hq2, h⟩ := l2_b h
  refine am_Rn.cl _ (some (.int q2.1)) (am_T0 q2.2) rfl rfl (rfX8_isRoutine (d + 10) N l1 S q2 hq2) ?_
  show am_Rn _ _ _ _ (4, [some (.ref 128), some (.int l1), some (.int l2), none, none], [.int q2.1], am_T0 q2.2)
  refine am_Rn.op _ (if q2.1 = 0 then 14 else 7, [some (.ref 128), some (.int l1), some (.int l2), none, none], [], am_T0 q2.2) rfl rfl ?_
  rcases l2_i h with ⟨hc, h⟩ | ⟨hc, h⟩
  · refine am_Rn.ifT hc ?_
    refine am_Rn.op _ (15, [some (.ref 128), some (.int l1), some (.int l2), none, none], [.int (-1)], am_T0 q2.2) rfl rfl ?_
    cases h
    exact am_Rn.rt _ rfl rfl
  · refine am_Rn.ifF hc ?_
    refine am_Rn.op _ (8, [some (.ref 128), some (.int l1), some (.int l2), none, none], [.int l2], am_T0 q2.2) rfl rfl ?_
    obtain ⟨q3, hq3, h⟩ := l2_b h
    refine am_Rn.cl _ (some (.int q3.1)) (am_T0 q3.2) rfl rfl (rfX8_isState (d + 10) N l2 q2.2 q3 hq3) ?_
    show am_Rn _ _ _ _ (11, [some (.ref 128), some (.int l1), some (.int l2), none, none], [.int q3.1], am_T0 q3.2)
    refine am_Rn.op _ (if q3.1 = 0 then 14 else 16, [some (.ref 128), some (.int l1), some (.int l2), none, none], [], am_T0 q3.2) rfl rfl ?_
    rcases l2_i h with ⟨hc, h⟩ | ⟨hc, h⟩
    · refine am_Rn.ifT hc ?_
      refine am_Rn.op _ (15, [some (.ref 128), some (.int l1), some (.int l2), none, none], [.int (-1)], am_T0 q3.2) rfl rfl ?_
      cases h
      exact am_Rn.rt _ rfl rfl
    · refine am_Rn.ifF hc ?_
      refine am_Rn.op _ (17, [some (.ref 128), some (.int l1), some (.int l2), none, none], [.int 0], am_T0 q3.2) rfl rfl ?_
      refine am_Rn.op _ (18, [some (.ref 128), some (.int l1), some (.int l2), some (.int 0), none], [], am_T0 q3.2) rfl rfl ?_
      refine am_Rn.op _ (19, [some (.ref 128), some (.int l1), some (.int l2), some (.int 0), none], [.int 0], am_T0 q3.2) rfl rfl ?_
      refine am_Rn.op _ (21, [some (.ref 128), some (.int l1), some (.int l2), some (.int 0), some (.int 0)], [], am_T0 q3.2) rfl rfl ?_
      obtain ⟨y4, hy4, h⟩ := l2_b h
      refine rfX8_leaves_21 d N _ l1 l2 (0, 0, q3.2) y4 hy4 ?_ 
      cases h
      exact rfl
-- X8_ends
def fX8_ends_31 (N : Nat) (s0 : Int32) (S : St) : Option (Int32 × St) := some (s0, S)
set_option maxRecDepth 20000 in
theorem rfX8_ends_31 (d N : Nat) (s0 : Int32) (S : St) (z : (Int32 × St)) (h : fX8_ends_31 N s0 S = some z) (w0 : Option Value) (w1 : Option Value) (w2 : Option Value) : am_Rn (am_C (d + 11)) (am_ct 155) (am_rk 155) (some (.int z.1), am_T0 z.2) (31, [w0, w1, w2], [.int s0], am_T0 S) := by
  unfold fX8_ends_31 at h
  cases h
  exact am_Rn.rt _ rfl rfl
def fX8_ends (N : Nat) (l1 : Int32) (l2 : Int32) (S : St) : Option (Int32 × St) := (fX8_isRoutine N l1 S).bind (fun q1 => (if q1.1 = 0 then some ((-1), q1.2) else (fX8_isState N l2 q1.2).bind (fun q2 => (if q2.1 = 0 then some ((-1), q2.2) else (fX8_canLeave N l1 l2 0 q2.2).bind (fun q3 => (if q3.1 = 0 then fX8_ends_31 N 0 q3.2 else fX8_ends_31 N 1 q3.2))))))
set_option maxRecDepth 20000 in
theorem rfX8_ends (d N : Nat) (l1 : Int32) (l2 : Int32) (S : St) (z : (Int32 × St)) (h : fX8_ends N l1 l2 S = some z) : am_C (d + 12) 155 [.ref 128, .int l1, .int l2] (am_T0 S) (some (.int z.1), am_T0 z.2) := by
  unfold fX8_ends at h
  show am_Rn (am_C (d + 11)) (am_ct 155) (am_rk 155) (some (.int z.1), am_T0 z.2) (0, [some (.ref 128), some (.int l1), some (.int l2)], [], am_T0 S)
  refine am_Rn.op _ (1, [some (.ref 128), some (.int l1), some (.int l2)], [.int l1], am_T0 S) rfl rfl ?_
  obtain ⟨q1, hq1, h⟩ := l2_b h
  refine am_Rn.cl _ (some (.int q1.1)) (am_T0 q1.2) rfl rfl (rfX8_isRoutine (d + 10) N l1 S q1 hq1) ?_
  show am_Rn _ _ _ _ (4, [some (.ref 128), some (.int l1), some (.int l2)], [.int q1.1], am_T0 q1.2)
  refine am_Rn.op _ (if q1.1 = 0 then 14 else 7, [some (.ref 128), some (.int l1), some (.int l2)], [], am_T0 q1.2) rfl rfl ?_
  rcases l2_i h with ⟨hc, h⟩ | ⟨hc, h⟩
  · refine am_Rn.ifT hc ?_
    refine am_Rn.op _ (15, [some (.ref 128), some (.int l1), some (.int l2)], [.int (-1)], am_T0 q1.2) rfl rfl ?_
    cases h
    exact am_Rn.rt _ rfl rfl
  · refine am_Rn.ifF hc ?_
    refine am_Rn.op _ (8, [some (.ref 128), some (.int l1), some (.int l2)], [.int l2], am_T0 q1.2) rfl rfl ?_
    obtain ⟨q2, hq2, h⟩ := l2_b h
    refine am_Rn.cl _ (some (.int q2.1)) (am_T0 q2.2) rfl rfl (rfX8_isState (d + 10) N l2 q1.2 q2 hq2) ?_
    show am_Rn _ _ _ _ (11, [some (.ref 128), some (.int l1), some (.int l2)], [.int q2.1], am_T0 q2.2)
    refine am_Rn.op _ (if q2.1 = 0 then 14 else 16, [some (.ref 128), some (.int l1), some (.int l2)], [], am_T0 q2.2) rfl rfl ?_
    rcases l2_i h with ⟨hc, h⟩ | ⟨hc, h⟩
    · refine am_Rn.ifT hc ?_
      refine am_Rn.op _ (15, [some (.ref 128), some (.int l1), some (.int l2)], [.int (-1)], am_T0 q2.2) rfl rfl ?_
      cases h
      exact am_Rn.rt _ rfl rfl
    · refine am_Rn.ifF hc ?_
      refine am_Rn.op _ (17, [some (.ref 128), some (.int l1), some (.int l2)], [.ref 128], am_T0 q2.2) rfl rfl ?_
      refine am_Rn.op _ (18, [some (.ref 128), some (.int l1), some (.int l2)], [.int l1, .ref 128], am_T0 q2.2) rfl rfl ?_
      refine am_Rn.op _ (19, [some (.ref 128), some (.int l1), some (.int l2)], [.int l2, .int l1, .ref 128], am_T0 q2.2) rfl rfl ?_
      refine am_Rn.op _ (20, [some (.ref 128), some (.int l1), some (.int l2)], [.int 0, .int l2, .int l1, .ref 128], am_T0 q2.2) rfl rfl ?_
      obtain ⟨q3, hq3, h⟩ := l2_b h
      refine am_Rn.cl _ (some (.int q3.1)) (am_T0 q3.2) rfl rfl (rfX8_canLeave (d + 0) N l1 l2 0 q2.2 q3 hq3) ?_
      show am_Rn _ _ _ _ (23, [some (.ref 128), some (.int l1), some (.int l2)], [.int q3.1], am_T0 q3.2)
      refine am_Rn.op _ (if q3.1 = 0 then 30 else 26, [some (.ref 128), some (.int l1), some (.int l2)], [], am_T0 q3.2) rfl rfl ?_
      rcases l2_i h with ⟨hc, h⟩ | ⟨hc, h⟩
      · refine am_Rn.ifT hc ?_
        refine am_Rn.op _ (31, [some (.ref 128), some (.int l1), some (.int l2)], [.int 0], am_T0 q3.2) rfl rfl ?_
        exact rfX8_ends_31 d N 0 q3.2 _ h _ _ _
      · refine am_Rn.ifF hc ?_
        refine am_Rn.op _ (27, [some (.ref 128), some (.int l1), some (.int l2)], [.int 1], am_T0 q3.2) rfl rfl ?_
        refine am_Rn.op _ (31, [some (.ref 128), some (.int l1), some (.int l2)], [.int 1], am_T0 q3.2) rfl rfl ?_
        exact rfX8_ends_31 d N 1 q3.2 _ h _ _ _
-- X8_due
def PfX8_due_18 (d : Nat) (res : Option Value × am_S) (l1 : Int32) (l2 : Int32) (x : Int32 × Int32 × St) : Prop := ∀ (w5 : Option Value), am_Rn (am_C d) (am_ct 156) (am_rk 156) res (18, [some (.ref 128), some (.int l1), some (.int l2), some (.int x.1), some (.int x.2.1), w5], [], am_T0 x.2.2)
def QfX8_due_18 (d : Nat) (res : Option Value × am_S) (l1 : Int32) (l2 : Int32) (y : (Int32 × St)) : Prop := res = (some (.int y.1), am_T0 y.2)
def PfX8_due_28 (d : Nat) (res : Option Value × am_S) (l1 : Int32) (l2 : Int32) (l4 : Int32) (x : Int32 × Int32 × St) : Prop := am_Rn (am_C d) (am_ct 156) (am_rk 156) res (28, [some (.ref 128), some (.int l1), some (.int l2), some (.int x.1), some (.int l4), some (.int x.2.1)], [], am_T0 x.2.2)
def QfX8_due_28 (d : Nat) (res : Option Value × am_S) (l1 : Int32) (l2 : Int32) (l4 : Int32) (y : (Int32 × St) ⊕ (Int32 × St)) : Prop := Sum.elim (fun y : Int32 × St => ∀ (w5 : Option Value), am_Rn (am_C d) (am_ct 156) (am_rk 156) res (74, [some (.ref 128), some (.int l1), some (.int l2), some (.int y.1), some (.int l4), w5], [], am_T0 y.2)) (fun y : (Int32 × St) => res = (some (.int y.1), am_T0 y.2)) y
def fX8_due_68 (N : Nat) (l1 : Int32) (l2 : Int32) (l3 : Int32) (l4 : Int32) (l5 : Int32) (S : St) : Option ((Int32 × Int32 × St) ⊕ ((Int32 × St) ⊕ (Int32 × St))) := some (.inl (l3, (l5 + 1), S))
set_option maxRecDepth 20000 in
theorem rfX8_due_68 (d N : Nat) (res : Option Value × am_S) (l1 : Int32) (l2 : Int32) (l3 : Int32) (l4 : Int32) (l5 : Int32) (S : St) (z : (Int32 × Int32 × St) ⊕ ((Int32 × St) ⊕ (Int32 × St))) (h : fX8_due_68 N l1 l2 l3 l4 l5 S = some z) (hz : Sum.elim (PfX8_due_28 (d + 10) res l1 l2 l4 ) (QfX8_due_28 (d + 10) res l1 l2 l4 ) z) : am_Rn (am_C (d + 10)) (am_ct 156) (am_rk 156) res (68, [some (.ref 128), some (.int l1), some (.int l2), some (.int l3), some (.int l4), some (.int l5)], [], am_T0 S) := by
  unfold fX8_due_68 at h
  refine am_Rn.op _ (71, [some (.ref 128), some (.int l1), some (.int l2), some (.int l3), some (.int l4), some (.int (l5 + 1))], [], am_T0 S) rfl rfl ?_
  refine am_Rn.op _ (28, [some (.ref 128), some (.int l1), some (.int l2), some (.int l3), some (.int l4), some (.int (l5 + 1))], [], am_T0 S) rfl rfl ?_
  cases h
  exact hz 
def bfX8_due_28 (N : Nat) (l1 : Int32) (l2 : Int32) (l4 : Int32) (x : Int32 × Int32 × St) : Option ((Int32 × Int32 × St) ⊕ ((Int32 × St) ⊕ (Int32 × St))) := (if 4 ≤ x.2.1 then some (.inr (.inl (x.1, x.2.2))) else (fX8_steps N l1 0 l4 x.2.1 x.2.2).bind (fun q1 => (if q1.1 = (-1) then fX8_due_68 N l1 l2 x.1 l4 x.2.1 q1.2 else (if x.1 = l2 then some (.inr (.inr (((4 * l4) + x.2.1), q1.2))) else fX8_due_68 N l1 l2 (x.1 + 1) l4 x.2.1 q1.2))))
def fX8_due_28 (N : Nat) (l1 : Int32) (l2 : Int32) (l4 : Int32) (x : Int32 × Int32 × St) : Option ((Int32 × St) ⊕ (Int32 × St)) := whl N (bfX8_due_28 N l1 l2 l4 ) x
set_option maxRecDepth 20000 in
theorem rbfX8_due_28 (d N : Nat) (res : Option Value × am_S) (l1 : Int32) (l2 : Int32) (l4 : Int32) (x : Int32 × Int32 × St) (z : (Int32 × Int32 × St) ⊕ ((Int32 × St) ⊕ (Int32 × St))) (h : bfX8_due_28 N l1 l2 l4 x = some z) (hz : Sum.elim (PfX8_due_28 (d + 10) res l1 l2 l4 ) (QfX8_due_28 (d + 10) res l1 l2 l4 ) z) : PfX8_due_28 (d + 10) res l1 l2 l4 x := by
  unfold bfX8_due_28 at h
  show am_Rn (am_C (d + 10)) (am_ct 156) (am_rk 156) res (28, [some (.ref 128), some (.int l1), some (.int l2), some (.int x.1), some (.int l4), some (.int x.2.1)], [], am_T0 x.2.2)
  refine am_Rn.op _ (30, [some (.ref 128), some (.int l1), some (.int l2), some (.int x.1), some (.int l4), some (.int x.2.1)], [.int x.2.1], am_T0 x.2.2) rfl rfl ?_
  refine am_Rn.op _ (31, [some (.ref 128), some (.int l1), some (.int l2), some (.int x.1), some (.int l4), some (.int x.2.1)], [.int 4, .int x.2.1], am_T0 x.2.2) rfl rfl ?_
  refine am_Rn.op _ (if 4 ≤ x.2.1 then 74 else 34, [some (.ref 128), some (.int l1), some (.int l2), some (.int x.1), some (.int l4), some (.int x.2.1)], [], am_T0 x.2.2) rfl rfl ?_
  rcases l2_i h with ⟨hc, h⟩ | ⟨hc, h⟩
  · refine am_Rn.ifT hc ?_
    cases h
    exact hz _
  · refine am_Rn.ifF hc ?_
    refine am_Rn.op _ (35, [some (.ref 128), some (.int l1), some (.int l2), some (.int x.1), some (.int l4), some (.int x.2.1)], [.ref 128], am_T0 x.2.2) rfl rfl ?_
    refine am_Rn.op _ (36, [some (.ref 128), some (.int l1), some (.int l2), some (.int x.1), some (.int l4), some (.int x.2.1)], [.int l1, .ref 128], am_T0 x.2.2) rfl rfl ?_
    refine am_Rn.op _ (37, [some (.ref 128), some (.int l1), some (.int l2), some (.int x.1), some (.int l4), some (.int x.2.1)], [.int 0, .int l1, .ref 128], am_T0 x.2.2) rfl rfl ?_
    refine am_Rn.op _ (39, [some (.ref 128), some (.int l1), some (.int l2), some (.int x.1), some (.int l4), some (.int x.2.1)], [.int l4, .int 0, .int l1, .ref 128], am_T0 x.2.2) rfl rfl ?_
    refine am_Rn.op _ (41, [some (.ref 128), some (.int l1), some (.int l2), some (.int x.1), some (.int l4), some (.int x.2.1)], [.int x.2.1, .int l4, .int 0, .int l1, .ref 128], am_T0 x.2.2) rfl rfl ?_
    obtain ⟨q1, hq1, h⟩ := l2_b h
    refine am_Rn.cl _ (some (.int q1.1)) (am_T0 q1.2) rfl rfl (rfX8_steps (d + 0) N l1 0 l4 x.2.1 x.2.2 q1 hq1) ?_
    show am_Rn _ _ _ _ (44, [some (.ref 128), some (.int l1), some (.int l2), some (.int x.1), some (.int l4), some (.int x.2.1)], [.int q1.1], am_T0 q1.2)
    refine am_Rn.op _ (45, [some (.ref 128), some (.int l1), some (.int l2), some (.int x.1), some (.int l4), some (.int x.2.1)], [.int (-1), .int q1.1], am_T0 q1.2) rfl rfl ?_
    refine am_Rn.op _ (if q1.1 = (-1) then 48 else 51, [some (.ref 128), some (.int l1), some (.int l2), some (.int x.1), some (.int l4), some (.int x.2.1)], [], am_T0 q1.2) rfl rfl ?_
    rcases l2_i h with ⟨hc, h⟩ | ⟨hc, h⟩
    · refine am_Rn.ifT hc ?_
      refine am_Rn.op _ (68, [some (.ref 128), some (.int l1), some (.int l2), some (.int x.1), some (.int l4), some (.int x.2.1)], [], am_T0 q1.2) rfl rfl ?_
      exact rfX8_due_68 d N _ l1 l2 x.1 l4 x.2.1 q1.2 _ h hz 
    · refine am_Rn.ifF hc ?_
      refine am_Rn.op _ (52, [some (.ref 128), some (.int l1), some (.int l2), some (.int x.1), some (.int l4), some (.int x.2.1)], [.int x.1], am_T0 q1.2) rfl rfl ?_
      refine am_Rn.op _ (53, [some (.ref 128), some (.int l1), some (.int l2), some (.int x.1), some (.int l4), some (.int x.2.1)], [.int l2, .int x.1], am_T0 q1.2) rfl rfl ?_
      refine am_Rn.op _ (if x.1 = l2 then 56 else 64, [some (.ref 128), some (.int l1), some (.int l2), some (.int x.1), some (.int l4), some (.int x.2.1)], [], am_T0 q1.2) rfl rfl ?_
      rcases l2_i h with ⟨hc, h⟩ | ⟨hc, h⟩
      · refine am_Rn.ifT hc ?_
        refine am_Rn.op _ (57, [some (.ref 128), some (.int l1), some (.int l2), some (.int x.1), some (.int l4), some (.int x.2.1)], [.int 4], am_T0 q1.2) rfl rfl ?_
        refine am_Rn.op _ (59, [some (.ref 128), some (.int l1), some (.int l2), some (.int x.1), some (.int l4), some (.int x.2.1)], [.int l4, .int 4], am_T0 q1.2) rfl rfl ?_
        refine am_Rn.op _ (60, [some (.ref 128), some (.int l1), some (.int l2), some (.int x.1), some (.int l4), some (.int x.2.1)], [.int (4 * l4)], am_T0 q1.2) rfl rfl ?_
        refine am_Rn.op _ (62, [some (.ref 128), some (.int l1), some (.int l2), some (.int x.1), some (.int l4), some (.int x.2.1)], [.int x.2.1, .int (4 * l4)], am_T0 q1.2) rfl rfl ?_
        refine am_Rn.op _ (63, [some (.ref 128), some (.int l1), some (.int l2), some (.int x.1), some (.int l4), some (.int x.2.1)], [.int ((4 * l4) + x.2.1)], am_T0 q1.2) rfl rfl ?_
        cases h
        exact am_Rn.rt2 _ rfl rfl hz
      · refine am_Rn.ifF hc ?_
        refine am_Rn.op _ (65, [some (.ref 128), some (.int l1), some (.int l2), some (.int x.1), some (.int l4), some (.int x.2.1)], [.int x.1], am_T0 q1.2) rfl rfl ?_
        refine am_Rn.op _ (66, [some (.ref 128), some (.int l1), some (.int l2), some (.int x.1), some (.int l4), some (.int x.2.1)], [.int 1, .int x.1], am_T0 q1.2) rfl rfl ?_
        refine am_Rn.op _ (67, [some (.ref 128), some (.int l1), some (.int l2), some (.int x.1), some (.int l4), some (.int x.2.1)], [.int (x.1 + 1)], am_T0 q1.2) rfl rfl ?_
        refine am_Rn.op _ (68, [some (.ref 128), some (.int l1), some (.int l2), some (.int (x.1 + 1)), some (.int l4), some (.int x.2.1)], [], am_T0 q1.2) rfl rfl ?_
        exact rfX8_due_68 d N _ l1 l2 (x.1 + 1) l4 x.2.1 q1.2 _ h hz 
theorem rfX8_due_28 (d N : Nat) (res : Option Value × am_S) (l1 : Int32) (l2 : Int32) (l4 : Int32) (x : Int32 × Int32 × St) (y : (Int32 × St) ⊕ (Int32 × St)) (h : fX8_due_28 N l1 l2 l4 x = some y) (hq : QfX8_due_28 (d + 10) res l1 l2 l4 y) : PfX8_due_28 (d + 10) res l1 l2 l4 x := whl_ind _ _ (fun x z => rbfX8_due_28 d N res l1 l2 l4 x z) N x y h hq
def bfX8_due_18 (N : Nat) (l1 : Int32) (l2 : Int32) (x : Int32 × Int32 × St) : Option ((Int32 × Int32 × St) ⊕ ((Int32 × St))) := (if 6 < x.2.1 then some (.inr ((-1), x.2.2)) else (fX8_due_28 N l1 l2 x.2.1 (x.1, 1, x.2.2)).bind (l2_s (fun y3 => some (.inl (y3.1, (x.2.1 + 1), y3.2))) (fun y4 => some (.inr (y4.1, y4.2)))))
def fX8_due_18 (N : Nat) (l1 : Int32) (l2 : Int32) (x : Int32 × Int32 × St) : Option ((Int32 × St)) := whl N (bfX8_due_18 N l1 l2 ) x
set_option maxRecDepth 20000 in
theorem rbfX8_due_18 (d N : Nat) (res : Option Value × am_S) (l1 : Int32) (l2 : Int32) (x : Int32 × Int32 × St) (z : (Int32 × Int32 × St) ⊕ ((Int32 × St))) (h : bfX8_due_18 N l1 l2 x = some z) (hz : Sum.elim (PfX8_due_18 (d + 10) res l1 l2 ) (QfX8_due_18 (d + 10) res l1 l2 ) z) : PfX8_due_18 (d + 10) res l1 l2 x := by
  unfold bfX8_due_18 at h
  show ∀ (w5 : Option Value), am_Rn (am_C (d + 10)) (am_ct 156) (am_rk 156) res (18, [some (.ref 128), some (.int l1), some (.int l2), some (.int x.1), some (.int x.2.1), w5], [], am_T0 x.2.2)
  intro w5
  refine am_Rn.op _ (20, [some (.ref 128), some (.int l1), some (.int l2), some (.int x.1), some (.int x.2.1), w5], [.int x.2.1], am_T0 x.2.2) rfl rfl ?_
  refine am_Rn.op _ (22, [some (.ref 128), some (.int l1), some (.int l2), some (.int x.1), some (.int x.2.1), w5], [.int 6, .int x.2.1], am_T0 x.2.2) rfl rfl ?_
  refine am_Rn.op _ (if 6 < x.2.1 then 80 else 25, [some (.ref 128), some (.int l1), some (.int l2), some (.int x.1), some (.int x.2.1), w5], [], am_T0 x.2.2) rfl rfl ?_
  rcases l2_i h with ⟨hc, h⟩ | ⟨hc, h⟩
  · refine am_Rn.ifT hc ?_
    refine am_Rn.op _ (81, [some (.ref 128), some (.int l1), some (.int l2), some (.int x.1), some (.int x.2.1), w5], [.int (-1)], am_T0 x.2.2) rfl rfl ?_
    cases h
    exact am_Rn.rt2 _ rfl rfl hz
  · refine am_Rn.ifF hc ?_
    refine am_Rn.op _ (26, [some (.ref 128), some (.int l1), some (.int l2), some (.int x.1), some (.int x.2.1), w5], [.int 1], am_T0 x.2.2) rfl rfl ?_
    refine am_Rn.op _ (28, [some (.ref 128), some (.int l1), some (.int l2), some (.int x.1), some (.int x.2.1), some (.int 1)], [], am_T0 x.2.2) rfl rfl ?_
    obtain ⟨y2, hy2, h⟩ := l2_b h
    refine rfX8_due_28 d N _ l1 l2 x.2.1 (x.1, 1, x.2.2) y2 hy2 ?_ 
    rcases y2 with y3 | y4
    · intro w5
      show am_Rn _ _ _ _ (74, [some (.ref 128), some (.int l1), some (.int l2), some (.int y3.1), some (.int x.2.1), w5], [], am_T0 y3.2)
      refine am_Rn.op _ (77, [some (.ref 128), some (.int l1), some (.int l2), some (.int y3.1), some (.int (x.2.1 + 1)), w5], [], am_T0 y3.2) rfl rfl ?_
      refine am_Rn.op _ (18, [some (.ref 128), some (.int l1), some (.int l2), some (.int y3.1), some (.int (x.2.1 + 1)), w5], [], am_T0 y3.2) rfl rfl ?_
      cases h
      exact hz _
    · cases h
      exact hz
theorem rfX8_due_18 (d N : Nat) (res : Option Value × am_S) (l1 : Int32) (l2 : Int32) (x : Int32 × Int32 × St) (y : (Int32 × St)) (h : fX8_due_18 N l1 l2 x = some y) (hq : QfX8_due_18 (d + 10) res l1 l2 y) : PfX8_due_18 (d + 10) res l1 l2 x := whl_ind _ _ (fun x z => rbfX8_due_18 d N res l1 l2 x z) N x y h hq
def fX8_due (N : Nat) (l1 : Int32) (l2 : Int32) (S : St) : Option (Int32 × St) := (fX8_isRoutine N l1 S).bind (fun q6 => (if q6.1 = 0 then some ((-1), q6.2) else (if 0 ≤ l2 then (fX8_due_18 N l1 l2 (0, 0, q6.2)).bind (fun y7 => some (y7.1, y7.2)) else some ((-1), q6.2))))
set_option maxRecDepth 20000 in
theorem rfX8_due (d N : Nat) (l1 : Int32) (l2 : Int32) (S : St) (z : (Int32 × St)) (h : fX8_due N l1 l2 S = some z) : am_C (d + 11) 156 [.ref 128, .int l1, .int l2] (am_T0 S) (some (.int z.1), am_T0 z.2) := by
  unfold fX8_due at h
  show am_Rn (am_C (d + 10)) (am_ct 156) (am_rk 156) (some (.int z.1), am_T0 z.2) (0, [some (.ref 128), some (.int l1), some (.int l2), none, none, none], [], am_T0 S)
  refine am_Rn.op _ (1, [some (.ref 128), some (.int l1), some (.int l2), none, none, none], [.int l1], am_T0 S) rfl rfl ?_
  obtain ⟨q6, hq6, h⟩ := l2_b h
  refine am_Rn.cl _ (some (.int q6.1)) (am_T0 q6.2) rfl rfl (rfX8_isRoutine (d + 9) N l1 S q6 hq6) ?_
  show am_Rn _ _ _ _ (4, [some (.ref 128), some (.int l1), some (.int l2), none, none, none], [.int q6.1], am_T0 q6.2)
  refine am_Rn.op _ (if q6.1 = 0 then 11 else 7, [some (.ref 128), some (.int l1), some (.int l2), none, none, none], [], am_T0 q6.2) rfl rfl ?_
  rcases l2_i h with ⟨hc, h⟩ | ⟨hc, h⟩
  · refine am_Rn.ifT hc ?_
    refine am_Rn.op _ (12, [some (.ref 128), some (.int l1), some (.int l2), none, none, none], [.int (-1)], am_T0 q6.2) rfl rfl ?_
    cases h
    exact am_Rn.rt _ rfl rfl
  · refine am_Rn.ifF hc ?_
    refine am_Rn.op _ (8, [some (.ref 128), some (.int l1), some (.int l2), none, none, none], [.int l2], am_T0 q6.2) rfl rfl ?_
    refine am_Rn.op _ (if 0 ≤ l2 then 13 else 11, [some (.ref 128), some (.int l1), some (.int l2), none, none, none], [], am_T0 q6.2) rfl rfl ?_
    rcases l2_i h with ⟨hc, h⟩ | ⟨hc, h⟩
    · refine am_Rn.ifT hc ?_
      refine am_Rn.op _ (14, [some (.ref 128), some (.int l1), some (.int l2), none, none, none], [.int 0], am_T0 q6.2) rfl rfl ?_
      refine am_Rn.op _ (15, [some (.ref 128), some (.int l1), some (.int l2), some (.int 0), none, none], [], am_T0 q6.2) rfl rfl ?_
      refine am_Rn.op _ (16, [some (.ref 128), some (.int l1), some (.int l2), some (.int 0), none, none], [.int 0], am_T0 q6.2) rfl rfl ?_
      refine am_Rn.op _ (18, [some (.ref 128), some (.int l1), some (.int l2), some (.int 0), some (.int 0), none], [], am_T0 q6.2) rfl rfl ?_
      obtain ⟨y7, hy7, h⟩ := l2_b h
      refine rfX8_due_18 d N _ l1 l2 (0, 0, q6.2) y7 hy7 ?_ _
      cases h
      exact rfl
    · refine am_Rn.ifF hc ?_
      refine am_Rn.op _ (12, [some (.ref 128), some (.int l1), some (.int l2), none, none, none], [.int (-1)], am_T0 q6.2) rfl rfl ?_
      cases h
      exact am_Rn.rt _ rfl rfl
-- X8_comesToPass
def fX8_comesToPass (N : Nat) (l1 : Int32) (l2 : Int32) (l3 : Int32) (S : St) : Option (Int32 × St) := (fX8_runs N S).bind (fun q1 => (fX8_goesThrough N l1 (st_i (st_i q1 128 19 l2) 128 20 l3)).bind (fun q2 => (fX8_metOf N 0 0 0 (st_i (st_i q2 128 19 (-1)) 128 20 (-1))).bind (fun q3 => (if q3.1 = 0 ∨ q3.1 = 1 then some (q3.1, q3.2) else none))))
set_option maxRecDepth 20000 in
theorem rfX8_comesToPass (d N : Nat) (l1 : Int32) (l2 : Int32) (l3 : Int32) (S : St) (z : (Int32 × St)) (h : fX8_comesToPass N l1 l2 l3 S = some z) : am_C (d + 10) 157 [.ref 128, .int l1, .int l2, .int l3] (am_T0 S) (some (.int z.1), am_T0 z.2) := by
  unfold fX8_comesToPass at h
  show am_Rn (am_C (d + 9)) (am_ct 157) (am_rk 157) (some (.int z.1), am_T0 z.2) (0, [some (.ref 128), some (.int l1), some (.int l2), some (.int l3)], [], am_T0 S)
  refine am_Rn.op _ (1, [some (.ref 128), some (.int l1), some (.int l2), some (.int l3)], [.ref 128], am_T0 S) rfl rfl ?_
  obtain ⟨q1, hq1, h⟩ := l2_b h
  refine am_Rn.cl _ none (am_T0 q1) rfl rfl (rfX8_runs (d + 0) N S q1 hq1) ?_
  show am_Rn _ _ _ _ (4, [some (.ref 128), some (.int l1), some (.int l2), some (.int l3)], [], am_T0 q1)
  refine am_Rn.op _ (5, [some (.ref 128), some (.int l1), some (.int l2), some (.int l3)], [.ref 128], am_T0 q1) rfl rfl ?_
  refine am_Rn.op _ (6, [some (.ref 128), some (.int l1), some (.int l2), some (.int l3)], [.int l2, .ref 128], am_T0 q1) rfl rfl ?_
  refine am_Rn.op _ (9, [some (.ref 128), some (.int l1), some (.int l2), some (.int l3)], [], am_T0 (st_i q1 128 19 l2)) rfl rfl ?_
  refine am_Rn.op _ (10, [some (.ref 128), some (.int l1), some (.int l2), some (.int l3)], [.ref 128], am_T0 (st_i q1 128 19 l2)) rfl rfl ?_
  refine am_Rn.op _ (11, [some (.ref 128), some (.int l1), some (.int l2), some (.int l3)], [.int l3, .ref 128], am_T0 (st_i q1 128 19 l2)) rfl rfl ?_
  refine am_Rn.op _ (14, [some (.ref 128), some (.int l1), some (.int l2), some (.int l3)], [], am_T0 (st_i (st_i q1 128 19 l2) 128 20 l3)) rfl rfl ?_
  refine am_Rn.op _ (15, [some (.ref 128), some (.int l1), some (.int l2), some (.int l3)], [.ref 128], am_T0 (st_i (st_i q1 128 19 l2) 128 20 l3)) rfl rfl ?_
  refine am_Rn.op _ (16, [some (.ref 128), some (.int l1), some (.int l2), some (.int l3)], [.int l1, .ref 128], am_T0 (st_i (st_i q1 128 19 l2) 128 20 l3)) rfl rfl ?_
  obtain ⟨q2, hq2, h⟩ := l2_b h
  refine am_Rn.cl _ none (am_T0 q2) rfl rfl (rfX8_goesThrough (d + 1) N l1 (st_i (st_i q1 128 19 l2) 128 20 l3) q2 hq2) ?_
  show am_Rn _ _ _ _ (19, [some (.ref 128), some (.int l1), some (.int l2), some (.int l3)], [], am_T0 q2)
  refine am_Rn.op _ (20, [some (.ref 128), some (.int l1), some (.int l2), some (.int l3)], [.ref 128], am_T0 q2) rfl rfl ?_
  refine am_Rn.op _ (21, [some (.ref 128), some (.int l1), some (.int l2), some (.int l3)], [.int (-1), .ref 128], am_T0 q2) rfl rfl ?_
  refine am_Rn.op _ (24, [some (.ref 128), some (.int l1), some (.int l2), some (.int l3)], [], am_T0 (st_i q2 128 19 (-1))) rfl rfl ?_
  refine am_Rn.op _ (25, [some (.ref 128), some (.int l1), some (.int l2), some (.int l3)], [.ref 128], am_T0 (st_i q2 128 19 (-1))) rfl rfl ?_
  refine am_Rn.op _ (26, [some (.ref 128), some (.int l1), some (.int l2), some (.int l3)], [.int (-1), .ref 128], am_T0 (st_i q2 128 19 (-1))) rfl rfl ?_
  refine am_Rn.op _ (29, [some (.ref 128), some (.int l1), some (.int l2), some (.int l3)], [], am_T0 (st_i (st_i q2 128 19 (-1)) 128 20 (-1))) rfl rfl ?_
  refine am_Rn.op _ (30, [some (.ref 128), some (.int l1), some (.int l2), some (.int l3)], [.ref 128], am_T0 (st_i (st_i q2 128 19 (-1)) 128 20 (-1))) rfl rfl ?_
  refine am_Rn.op _ (31, [some (.ref 128), some (.int l1), some (.int l2), some (.int l3)], [.int 0, .ref 128], am_T0 (st_i (st_i q2 128 19 (-1)) 128 20 (-1))) rfl rfl ?_
  refine am_Rn.op _ (32, [some (.ref 128), some (.int l1), some (.int l2), some (.int l3)], [.int 0, .int 0, .ref 128], am_T0 (st_i (st_i q2 128 19 (-1)) 128 20 (-1))) rfl rfl ?_
  refine am_Rn.op _ (33, [some (.ref 128), some (.int l1), some (.int l2), some (.int l3)], [.int 0, .int 0, .int 0, .ref 128], am_T0 (st_i (st_i q2 128 19 (-1)) 128 20 (-1))) rfl rfl ?_
  obtain ⟨q3, hq3, h⟩ := l2_b h
  refine am_Rn.cl _ (some (.int q3.1)) (am_T0 q3.2) rfl rfl (rfX8_metOf (d + 8) N 0 0 0 (st_i (st_i q2 128 19 (-1)) 128 20 (-1)) q3 hq3) ?_
  show am_Rn _ _ _ _ (36, [some (.ref 128), some (.int l1), some (.int l2), some (.int l3)], [.int q3.1], am_T0 q3.2)
  obtain ⟨hb4, h⟩ := l2_y h
  cases h
  exact am_Rn.rt _ rfl (l2_rz hb4)
-- X8_placeOf
def PfX8_placeOf_5 (d : Nat) (res : Option Value × am_S) (l1 : Int32) (l2 : Int32) (x : Int32 × Int32 × St) : Prop := ∀ (w5 : Option Value), am_Rn (am_C d) (am_ct 158) (am_rk 158) res (5, [some (.ref 128), some (.int l1), some (.int l2), some (.int x.1), some (.int x.2.1), w5], [], am_T0 x.2.2)
def QfX8_placeOf_5 (d : Nat) (res : Option Value × am_S) (l1 : Int32) (l2 : Int32) (y : (Int32 × St)) : Prop := res = (some (.int y.1), am_T0 y.2)
def fX8_placeOf_74 (N : Nat) (l1 : Int32) (l2 : Int32) (l4 : Int32) (s0 : Int32) (s1 : Int32) (S : St) : Option ((Int32 × Int32 × St) ⊕ ((Int32 × St))) := some (.inl ((s0 + s1), (l4 + 1), S))
set_option maxRecDepth 20000 in
theorem rfX8_placeOf_74 (d N : Nat) (res : Option Value × am_S) (l1 : Int32) (l2 : Int32) (l4 : Int32) (s0 : Int32) (s1 : Int32) (S : St) (z : (Int32 × Int32 × St) ⊕ ((Int32 × St))) (h : fX8_placeOf_74 N l1 l2 l4 s0 s1 S = some z) (hz : Sum.elim (PfX8_placeOf_5 (d + 1) res l1 l2 ) (QfX8_placeOf_5 (d + 1) res l1 l2 ) z) (w3 : Option Value) (w5 : Option Value) : am_Rn (am_C (d + 1)) (am_ct 158) (am_rk 158) res (74, [some (.ref 128), some (.int l1), some (.int l2), w3, some (.int l4), w5], [.int s1, .int s0], am_T0 S) := by
  unfold fX8_placeOf_74 at h
  refine am_Rn.op _ (75, [some (.ref 128), some (.int l1), some (.int l2), w3, some (.int l4), w5], [.int (s0 + s1)], am_T0 S) rfl rfl ?_
  refine am_Rn.op _ (76, [some (.ref 128), some (.int l1), some (.int l2), some (.int (s0 + s1)), some (.int l4), w5], [], am_T0 S) rfl rfl ?_
  refine am_Rn.op _ (79, [some (.ref 128), some (.int l1), some (.int l2), some (.int (s0 + s1)), some (.int (l4 + 1)), w5], [], am_T0 S) rfl rfl ?_
  refine am_Rn.op _ (5, [some (.ref 128), some (.int l1), some (.int l2), some (.int (s0 + s1)), some (.int (l4 + 1)), w5], [], am_T0 S) rfl rfl ?_
  cases h
  exact hz _
def fX8_placeOf_63 (N : Nat) (l1 : Int32) (l2 : Int32) (l3 : Int32) (l4 : Int32) (l5 : Int32) (S : St) : Option ((Int32 × Int32 × St) ⊕ ((Int32 × St))) := (if l5 = 0 then fX8_placeOf_74 N l1 l2 l4 l3 0 S else fX8_placeOf_74 N l1 l2 l4 l3 1 S)
set_option maxRecDepth 20000 in
theorem rfX8_placeOf_63 (d N : Nat) (res : Option Value × am_S) (l1 : Int32) (l2 : Int32) (l3 : Int32) (l4 : Int32) (l5 : Int32) (S : St) (z : (Int32 × Int32 × St) ⊕ ((Int32 × St))) (h : fX8_placeOf_63 N l1 l2 l3 l4 l5 S = some z) (hz : Sum.elim (PfX8_placeOf_5 (d + 1) res l1 l2 ) (QfX8_placeOf_5 (d + 1) res l1 l2 ) z) : am_Rn (am_C (d + 1)) (am_ct 158) (am_rk 158) res (63, [some (.ref 128), some (.int l1), some (.int l2), some (.int l3), some (.int l4), some (.int l5)], [], am_T0 S) := by
  unfold fX8_placeOf_63 at h
  refine am_Rn.op _ (64, [some (.ref 128), some (.int l1), some (.int l2), some (.int l3), some (.int l4), some (.int l5)], [.int l3], am_T0 S) rfl rfl ?_
  refine am_Rn.op _ (66, [some (.ref 128), some (.int l1), some (.int l2), some (.int l3), some (.int l4), some (.int l5)], [.int l5, .int l3], am_T0 S) rfl rfl ?_
  refine am_Rn.op _ (if l5 = 0 then 73 else 69, [some (.ref 128), some (.int l1), some (.int l2), some (.int l3), some (.int l4), some (.int l5)], [.int l3], am_T0 S) rfl rfl ?_
  rcases l2_i h with ⟨hc, h⟩ | ⟨hc, h⟩
  · refine am_Rn.ifT hc ?_
    refine am_Rn.op _ (74, [some (.ref 128), some (.int l1), some (.int l2), some (.int l3), some (.int l4), some (.int l5)], [.int 0, .int l3], am_T0 S) rfl rfl ?_
    exact rfX8_placeOf_74 d N _ l1 l2 l4 l3 0 S _ h hz _ _
  · refine am_Rn.ifF hc ?_
    refine am_Rn.op _ (70, [some (.ref 128), some (.int l1), some (.int l2), some (.int l3), some (.int l4), some (.int l5)], [.int 1, .int l3], am_T0 S) rfl rfl ?_
    refine am_Rn.op _ (74, [some (.ref 128), some (.int l1), some (.int l2), some (.int l3), some (.int l4), some (.int l5)], [.int 1, .int l3], am_T0 S) rfl rfl ?_
    exact rfX8_placeOf_74 d N _ l1 l2 l4 l3 1 S _ h hz _ _
def fX8_placeOf_48 (N : Nat) (l1 : Int32) (l2 : Int32) (l3 : Int32) (l4 : Int32) (s0 : Int32) (S : St) : Option ((Int32 × Int32 × St) ⊕ ((Int32 × St))) := (if s0 = 0 then fX8_placeOf_63 N l1 l2 l3 l4 s0 S else (if l3 = l2 then some (.inr (l4, S)) else fX8_placeOf_63 N l1 l2 l3 l4 s0 S))
set_option maxRecDepth 20000 in
theorem rfX8_placeOf_48 (d N : Nat) (res : Option Value × am_S) (l1 : Int32) (l2 : Int32) (l3 : Int32) (l4 : Int32) (s0 : Int32) (S : St) (z : (Int32 × Int32 × St) ⊕ ((Int32 × St))) (h : fX8_placeOf_48 N l1 l2 l3 l4 s0 S = some z) (hz : Sum.elim (PfX8_placeOf_5 (d + 1) res l1 l2 ) (QfX8_placeOf_5 (d + 1) res l1 l2 ) z) (w5 : Option Value) : am_Rn (am_C (d + 1)) (am_ct 158) (am_rk 158) res (48, [some (.ref 128), some (.int l1), some (.int l2), some (.int l3), some (.int l4), w5], [.int s0], am_T0 S) := by
  unfold fX8_placeOf_48 at h
  refine am_Rn.op _ (50, [some (.ref 128), some (.int l1), some (.int l2), some (.int l3), some (.int l4), some (.int s0)], [], am_T0 S) rfl rfl ?_
  refine am_Rn.op _ (52, [some (.ref 128), some (.int l1), some (.int l2), some (.int l3), some (.int l4), some (.int s0)], [.int s0], am_T0 S) rfl rfl ?_
  refine am_Rn.op _ (if s0 = 0 then 63 else 55, [some (.ref 128), some (.int l1), some (.int l2), some (.int l3), some (.int l4), some (.int s0)], [], am_T0 S) rfl rfl ?_
  rcases l2_i h with ⟨hc, h⟩ | ⟨hc, h⟩
  · refine am_Rn.ifT hc ?_
    exact rfX8_placeOf_63 d N _ l1 l2 l3 l4 s0 S _ h hz 
  · refine am_Rn.ifF hc ?_
    refine am_Rn.op _ (56, [some (.ref 128), some (.int l1), some (.int l2), some (.int l3), some (.int l4), some (.int s0)], [.int l3], am_T0 S) rfl rfl ?_
    refine am_Rn.op _ (57, [some (.ref 128), some (.int l1), some (.int l2), some (.int l3), some (.int l4), some (.int s0)], [.int l2, .int l3], am_T0 S) rfl rfl ?_
    refine am_Rn.op _ (if l3 = l2 then 60 else 63, [some (.ref 128), some (.int l1), some (.int l2), some (.int l3), some (.int l4), some (.int s0)], [], am_T0 S) rfl rfl ?_
    rcases l2_i h with ⟨hc, h⟩ | ⟨hc, h⟩
    · refine am_Rn.ifT hc ?_
      refine am_Rn.op _ (62, [some (.ref 128), some (.int l1), some (.int l2), some (.int l3), some (.int l4), some (.int s0)], [.int l4], am_T0 S) rfl rfl ?_
      cases h
      exact am_Rn.rt2 _ rfl rfl hz
    · refine am_Rn.ifF hc ?_
      exact rfX8_placeOf_63 d N _ l1 l2 l3 l4 s0 S _ h hz 
def fX8_placeOf_47 (N : Nat) (l1 : Int32) (l2 : Int32) (l3 : Int32) (l4 : Int32) (S : St) : Option ((Int32 × Int32 × St) ⊕ ((Int32 × St))) := fX8_placeOf_48 N l1 l2 l3 l4 0 S
set_option maxRecDepth 20000 in
theorem rfX8_placeOf_47 (d N : Nat) (res : Option Value × am_S) (l1 : Int32) (l2 : Int32) (l3 : Int32) (l4 : Int32) (S : St) (z : (Int32 × Int32 × St) ⊕ ((Int32 × St))) (h : fX8_placeOf_47 N l1 l2 l3 l4 S = some z) (hz : Sum.elim (PfX8_placeOf_5 (d + 1) res l1 l2 ) (QfX8_placeOf_5 (d + 1) res l1 l2 ) z) (w5 : Option Value) : am_Rn (am_C (d + 1)) (am_ct 158) (am_rk 158) res (47, [some (.ref 128), some (.int l1), some (.int l2), some (.int l3), some (.int l4), w5], [], am_T0 S) := by
  unfold fX8_placeOf_47 at h
  refine am_Rn.op _ (48, [some (.ref 128), some (.int l1), some (.int l2), some (.int l3), some (.int l4), w5], [.int 0], am_T0 S) rfl rfl ?_
  exact rfX8_placeOf_48 d N _ l1 l2 l3 l4 0 S _ h hz _
def bfX8_placeOf_5 (N : Nat) (l1 : Int32) (l2 : Int32) (x : Int32 × Int32 × St) : Option ((Int32 × Int32 × St) ⊕ ((Int32 × St))) := (if l1 < 0 ∨ 8 ≤ Int32.toNatClampNeg l1 then none else (if (x.2.2.1 133 (Int32.toNatClampNeg l1)) ≤ x.2.1 then some (.inr ((-1), x.2.2)) else (fX8_signOf N l1 x.2.1 x.2.2).bind (fun q2 => (fX8_isLetter N q2.1 q2.2).bind (fun q3 => (if q3.1 = 0 then fX8_placeOf_47 N l1 l2 x.1 x.2.1 q3.2 else (fX8_signOf N l1 (x.2.1 + 1) q3.2).bind (fun q4 => (if q4.1 = 123 then fX8_placeOf_48 N l1 l2 x.1 x.2.1 1 q4.2 else fX8_placeOf_47 N l1 l2 x.1 x.2.1 q4.2)))))))
def fX8_placeOf_5 (N : Nat) (l1 : Int32) (l2 : Int32) (x : Int32 × Int32 × St) : Option ((Int32 × St)) := whl N (bfX8_placeOf_5 N l1 l2 ) x
set_option maxRecDepth 20000 in
theorem rbfX8_placeOf_5 (d N : Nat) (res : Option Value × am_S) (l1 : Int32) (l2 : Int32) (x : Int32 × Int32 × St) (z : (Int32 × Int32 × St) ⊕ ((Int32 × St))) (h : bfX8_placeOf_5 N l1 l2 x = some z) (hz : Sum.elim (PfX8_placeOf_5 (d + 1) res l1 l2 ) (QfX8_placeOf_5 (d + 1) res l1 l2 ) z) : PfX8_placeOf_5 (d + 1) res l1 l2 x := by
  unfold bfX8_placeOf_5 at h
  show ∀ (w5 : Option Value), am_Rn (am_C (d + 1)) (am_ct 158) (am_rk 158) res (5, [some (.ref 128), some (.int l1), some (.int l2), some (.int x.1), some (.int x.2.1), w5], [], am_T0 x.2.2)
  intro w5
  refine am_Rn.op _ (7, [some (.ref 128), some (.int l1), some (.int l2), some (.int x.1), some (.int x.2.1), w5], [.int x.2.1], am_T0 x.2.2) rfl rfl ?_
  refine am_Rn.op _ (8, [some (.ref 128), some (.int l1), some (.int l2), some (.int x.1), some (.int x.2.1), w5], [.ref 128, .int x.2.1], am_T0 x.2.2) rfl rfl ?_
  refine am_Rn.op _ (11, [some (.ref 128), some (.int l1), some (.int l2), some (.int x.1), some (.int x.2.1), w5], [.ref 133, .int x.2.1], am_T0 x.2.2) rfl rfl ?_
  refine am_Rn.op _ (12, [some (.ref 128), some (.int l1), some (.int l2), some (.int x.1), some (.int x.2.1), w5], [.int l1, .ref 133, .int x.2.1], am_T0 x.2.2) rfl rfl ?_
  obtain ⟨hb1, h⟩ := l2_n h
  refine am_Rn.iald (n := 8) rfl rfl hb1 ?_
  show am_Rn _ _ _ _ (13, [some (.ref 128), some (.int l1), some (.int l2), some (.int x.1), some (.int x.2.1), w5], [.int (x.2.2.1 133 (Int32.toNatClampNeg l1)), .int x.2.1], am_T0 x.2.2)
  refine am_Rn.op _ (if (x.2.2.1 133 (Int32.toNatClampNeg l1)) ≤ x.2.1 then 82 else 16, [some (.ref 128), some (.int l1), some (.int l2), some (.int x.1), some (.int x.2.1), w5], [], am_T0 x.2.2) rfl rfl ?_
  rcases l2_i h with ⟨hc, h⟩ | ⟨hc, h⟩
  · refine am_Rn.ifT hc ?_
    refine am_Rn.op _ (83, [some (.ref 128), some (.int l1), some (.int l2), some (.int x.1), some (.int x.2.1), w5], [.int (-1)], am_T0 x.2.2) rfl rfl ?_
    cases h
    exact am_Rn.rt2 _ rfl rfl hz
  · refine am_Rn.ifF hc ?_
    refine am_Rn.op _ (17, [some (.ref 128), some (.int l1), some (.int l2), some (.int x.1), some (.int x.2.1), w5], [.ref 128], am_T0 x.2.2) rfl rfl ?_
    refine am_Rn.op _ (18, [some (.ref 128), some (.int l1), some (.int l2), some (.int x.1), some (.int x.2.1), w5], [.int l1, .ref 128], am_T0 x.2.2) rfl rfl ?_
    refine am_Rn.op _ (20, [some (.ref 128), some (.int l1), some (.int l2), some (.int x.1), some (.int x.2.1), w5], [.int x.2.1, .int l1, .ref 128], am_T0 x.2.2) rfl rfl ?_
    obtain ⟨q2, hq2, h⟩ := l2_b h
    refine am_Rn.cl _ (some (.int q2.1)) (am_T0 q2.2) rfl rfl (rfX8_signOf (d + 0) N l1 x.2.1 x.2.2 q2 hq2) ?_
    show am_Rn _ _ _ _ (23, [some (.ref 128), some (.int l1), some (.int l2), some (.int x.1), some (.int x.2.1), w5], [.int q2.1], am_T0 q2.2)
    obtain ⟨q3, hq3, h⟩ := l2_b h
    refine am_Rn.cl _ (some (.int q3.1)) (am_T0 q3.2) rfl rfl (rfX8_isLetter (d + 0) N q2.1 q2.2 q3 hq3) ?_
    show am_Rn _ _ _ _ (26, [some (.ref 128), some (.int l1), some (.int l2), some (.int x.1), some (.int x.2.1), w5], [.int q3.1], am_T0 q3.2)
    refine am_Rn.op _ (if q3.1 = 0 then 47 else 29, [some (.ref 128), some (.int l1), some (.int l2), some (.int x.1), some (.int x.2.1), w5], [], am_T0 q3.2) rfl rfl ?_
    rcases l2_i h with ⟨hc, h⟩ | ⟨hc, h⟩
    · refine am_Rn.ifT hc ?_
      exact rfX8_placeOf_47 d N _ l1 l2 x.1 x.2.1 q3.2 _ h hz _
    · refine am_Rn.ifF hc ?_
      refine am_Rn.op _ (30, [some (.ref 128), some (.int l1), some (.int l2), some (.int x.1), some (.int x.2.1), w5], [.ref 128], am_T0 q3.2) rfl rfl ?_
      refine am_Rn.op _ (31, [some (.ref 128), some (.int l1), some (.int l2), some (.int x.1), some (.int x.2.1), w5], [.int l1, .ref 128], am_T0 q3.2) rfl rfl ?_
      refine am_Rn.op _ (33, [some (.ref 128), some (.int l1), some (.int l2), some (.int x.1), some (.int x.2.1), w5], [.int x.2.1, .int l1, .ref 128], am_T0 q3.2) rfl rfl ?_
      refine am_Rn.op _ (34, [some (.ref 128), some (.int l1), some (.int l2), some (.int x.1), some (.int x.2.1), w5], [.int 1, .int x.2.1, .int l1, .ref 128], am_T0 q3.2) rfl rfl ?_
      refine am_Rn.op _ (35, [some (.ref 128), some (.int l1), some (.int l2), some (.int x.1), some (.int x.2.1), w5], [.int (x.2.1 + 1), .int l1, .ref 128], am_T0 q3.2) rfl rfl ?_
      obtain ⟨q4, hq4, h⟩ := l2_b h
      refine am_Rn.cl _ (some (.int q4.1)) (am_T0 q4.2) rfl rfl (rfX8_signOf (d + 0) N l1 (x.2.1 + 1) q3.2 q4 hq4) ?_
      show am_Rn _ _ _ _ (38, [some (.ref 128), some (.int l1), some (.int l2), some (.int x.1), some (.int x.2.1), w5], [.int q4.1], am_T0 q4.2)
      refine am_Rn.op _ (40, [some (.ref 128), some (.int l1), some (.int l2), some (.int x.1), some (.int x.2.1), w5], [.int 123, .int q4.1], am_T0 q4.2) rfl rfl ?_
      refine am_Rn.op _ (if q4.1 = 123 then 43 else 47, [some (.ref 128), some (.int l1), some (.int l2), some (.int x.1), some (.int x.2.1), w5], [], am_T0 q4.2) rfl rfl ?_
      rcases l2_i h with ⟨hc, h⟩ | ⟨hc, h⟩
      · refine am_Rn.ifT hc ?_
        refine am_Rn.op _ (44, [some (.ref 128), some (.int l1), some (.int l2), some (.int x.1), some (.int x.2.1), w5], [.int 1], am_T0 q4.2) rfl rfl ?_
        refine am_Rn.op _ (48, [some (.ref 128), some (.int l1), some (.int l2), some (.int x.1), some (.int x.2.1), w5], [.int 1], am_T0 q4.2) rfl rfl ?_
        exact rfX8_placeOf_48 d N _ l1 l2 x.1 x.2.1 1 q4.2 _ h hz _
      · refine am_Rn.ifF hc ?_
        exact rfX8_placeOf_47 d N _ l1 l2 x.1 x.2.1 q4.2 _ h hz _
theorem rfX8_placeOf_5 (d N : Nat) (res : Option Value × am_S) (l1 : Int32) (l2 : Int32) (x : Int32 × Int32 × St) (y : (Int32 × St)) (h : fX8_placeOf_5 N l1 l2 x = some y) (hq : QfX8_placeOf_5 (d + 1) res l1 l2 y) : PfX8_placeOf_5 (d + 1) res l1 l2 x := whl_ind _ _ (fun x z => rbfX8_placeOf_5 d N res l1 l2 x z) N x y h hq
def fX8_placeOf (N : Nat) (l1 : Int32) (l2 : Int32) (S : St) : Option (Int32 × St) := (fX8_placeOf_5 N l1 l2 (0, 0, S)).bind (fun y5 => some (y5.1, y5.2))
set_option maxRecDepth 20000 in
theorem rfX8_placeOf (d N : Nat) (l1 : Int32) (l2 : Int32) (S : St) (z : (Int32 × St)) (h : fX8_placeOf N l1 l2 S = some z) : am_C (d + 2) 158 [.ref 128, .int l1, .int l2] (am_T0 S) (some (.int z.1), am_T0 z.2) := by
  unfold fX8_placeOf at h
  show am_Rn (am_C (d + 1)) (am_ct 158) (am_rk 158) (some (.int z.1), am_T0 z.2) (0, [some (.ref 128), some (.int l1), some (.int l2), none, none, none], [], am_T0 S)
  refine am_Rn.op _ (1, [some (.ref 128), some (.int l1), some (.int l2), none, none, none], [.int 0], am_T0 S) rfl rfl ?_
  refine am_Rn.op _ (2, [some (.ref 128), some (.int l1), some (.int l2), some (.int 0), none, none], [], am_T0 S) rfl rfl ?_
  refine am_Rn.op _ (3, [some (.ref 128), some (.int l1), some (.int l2), some (.int 0), none, none], [.int 0], am_T0 S) rfl rfl ?_
  refine am_Rn.op _ (5, [some (.ref 128), some (.int l1), some (.int l2), some (.int 0), some (.int 0), none], [], am_T0 S) rfl rfl ?_
  obtain ⟨y5, hy5, h⟩ := l2_b h
  refine rfX8_placeOf_5 d N _ l1 l2 (0, 0, S) y5 hy5 ?_ _
  cases h
  exact rfl
-- X8_takers
def PfX8_takers_11 (d : Nat) (res : Option Value × am_S) (l1 : Int32) (x : Int32 × St) : Prop := am_Rn (am_C d) (am_ct 159) (am_rk 159) res (11, [some (.ref 128), some (.int l1), some (.int x.1)], [], am_T0 x.2)
def QfX8_takers_11 (d : Nat) (res : Option Value × am_S) (l1 : Int32) (y : (Int32 × St)) : Prop := res = (some (.int y.1), am_T0 y.2)
def bfX8_takers_11 (N : Nat) (l1 : Int32) (x : Int32 × St) : Option ((Int32 × St) ⊕ ((Int32 × St))) := (fX8_placeOf N l1 x.1 x.2).bind (fun q1 => (if q1.1 = (-1) then some (.inr (x.1, q1.2)) else some (.inl ((x.1 + 1), q1.2))))
def fX8_takers_11 (N : Nat) (l1 : Int32) (x : Int32 × St) : Option ((Int32 × St)) := whl N (bfX8_takers_11 N l1 ) x
set_option maxRecDepth 20000 in
theorem rbfX8_takers_11 (d N : Nat) (res : Option Value × am_S) (l1 : Int32) (x : Int32 × St) (z : (Int32 × St) ⊕ ((Int32 × St))) (h : bfX8_takers_11 N l1 x = some z) (hz : Sum.elim (PfX8_takers_11 (d + 2) res l1 ) (QfX8_takers_11 (d + 2) res l1 ) z) : PfX8_takers_11 (d + 2) res l1 x := by
  unfold bfX8_takers_11 at h
  show am_Rn (am_C (d + 2)) (am_ct 159) (am_rk 159) res (11, [some (.ref 128), some (.int l1), some (.int x.1)], [], am_T0 x.2)
  refine am_Rn.op _ (12, [some (.ref 128), some (.int l1), some (.int x.1)], [.ref 128], am_T0 x.2) rfl rfl ?_
  refine am_Rn.op _ (13, [some (.ref 128), some (.int l1), some (.int x.1)], [.int l1, .ref 128], am_T0 x.2) rfl rfl ?_
  refine am_Rn.op _ (14, [some (.ref 128), some (.int l1), some (.int x.1)], [.int x.1, .int l1, .ref 128], am_T0 x.2) rfl rfl ?_
  obtain ⟨q1, hq1, h⟩ := l2_b h
  refine am_Rn.cl _ (some (.int q1.1)) (am_T0 q1.2) rfl rfl (rfX8_placeOf (d + 0) N l1 x.1 x.2 q1 hq1) ?_
  show am_Rn _ _ _ _ (17, [some (.ref 128), some (.int l1), some (.int x.1)], [.int q1.1], am_T0 q1.2)
  refine am_Rn.op _ (18, [some (.ref 128), some (.int l1), some (.int x.1)], [.int (-1), .int q1.1], am_T0 q1.2) rfl rfl ?_
  refine am_Rn.op _ (if q1.1 = (-1) then 28 else 21, [some (.ref 128), some (.int l1), some (.int x.1)], [], am_T0 q1.2) rfl rfl ?_
  rcases l2_i h with ⟨hc, h⟩ | ⟨hc, h⟩
  · refine am_Rn.ifT hc ?_
    refine am_Rn.op _ (29, [some (.ref 128), some (.int l1), some (.int x.1)], [.int x.1], am_T0 q1.2) rfl rfl ?_
    cases h
    exact am_Rn.rt2 _ rfl rfl hz
  · refine am_Rn.ifF hc ?_
    refine am_Rn.op _ (22, [some (.ref 128), some (.int l1), some (.int x.1)], [.int x.1], am_T0 q1.2) rfl rfl ?_
    refine am_Rn.op _ (23, [some (.ref 128), some (.int l1), some (.int x.1)], [.int 1, .int x.1], am_T0 q1.2) rfl rfl ?_
    refine am_Rn.op _ (24, [some (.ref 128), some (.int l1), some (.int x.1)], [.int (x.1 + 1)], am_T0 q1.2) rfl rfl ?_
    refine am_Rn.op _ (25, [some (.ref 128), some (.int l1), some (.int (x.1 + 1))], [], am_T0 q1.2) rfl rfl ?_
    refine am_Rn.op _ (11, [some (.ref 128), some (.int l1), some (.int (x.1 + 1))], [], am_T0 q1.2) rfl rfl ?_
    cases h
    exact hz 
theorem rfX8_takers_11 (d N : Nat) (res : Option Value × am_S) (l1 : Int32) (x : Int32 × St) (y : (Int32 × St)) (h : fX8_takers_11 N l1 x = some y) (hq : QfX8_takers_11 (d + 2) res l1 y) : PfX8_takers_11 (d + 2) res l1 x := whl_ind _ _ (fun x z => rbfX8_takers_11 d N res l1 x z) N x y h hq
def fX8_takers (N : Nat) (l1 : Int32) (S : St) : Option (Int32 × St) := (fX8_isRoutine N l1 S).bind (fun q2 => (if q2.1 = 0 then some ((-1), q2.2) else (fX8_takers_11 N l1 (0, q2.2)).bind (fun y3 => some (y3.1, y3.2))))
set_option maxRecDepth 20000 in
theorem rfX8_takers (d N : Nat) (l1 : Int32) (S : St) (z : (Int32 × St)) (h : fX8_takers N l1 S = some z) : am_C (d + 3) 159 [.ref 128, .int l1] (am_T0 S) (some (.int z.1), am_T0 z.2) := by
  unfold fX8_takers at h
  show am_Rn (am_C (d + 2)) (am_ct 159) (am_rk 159) (some (.int z.1), am_T0 z.2) (0, [some (.ref 128), some (.int l1), none], [], am_T0 S)
  refine am_Rn.op _ (1, [some (.ref 128), some (.int l1), none], [.int l1], am_T0 S) rfl rfl ?_
  obtain ⟨q2, hq2, h⟩ := l2_b h
  refine am_Rn.cl _ (some (.int q2.1)) (am_T0 q2.2) rfl rfl (rfX8_isRoutine (d + 1) N l1 S q2 hq2) ?_
  show am_Rn _ _ _ _ (4, [some (.ref 128), some (.int l1), none], [.int q2.1], am_T0 q2.2)
  refine am_Rn.op _ (if q2.1 = 0 then 7 else 9, [some (.ref 128), some (.int l1), none], [], am_T0 q2.2) rfl rfl ?_
  rcases l2_i h with ⟨hc, h⟩ | ⟨hc, h⟩
  · refine am_Rn.ifT hc ?_
    refine am_Rn.op _ (8, [some (.ref 128), some (.int l1), none], [.int (-1)], am_T0 q2.2) rfl rfl ?_
    cases h
    exact am_Rn.rt _ rfl rfl
  · refine am_Rn.ifF hc ?_
    refine am_Rn.op _ (10, [some (.ref 128), some (.int l1), none], [.int 0], am_T0 q2.2) rfl rfl ?_
    refine am_Rn.op _ (11, [some (.ref 128), some (.int l1), some (.int 0)], [], am_T0 q2.2) rfl rfl ?_
    obtain ⟨y3, hy3, h⟩ := l2_b h
    refine rfX8_takers_11 d N _ l1 (0, q2.2) y3 hy3 ?_ 
    cases h
    exact rfl
-- X8_takenBy
def PfX8_takenBy_5 (d : Nat) (res : Option Value × am_S) (l1 : Int32) (l2 : Int32) (x : Int32 × Int32 × St) : Prop := am_Rn (am_C d) (am_ct 160) (am_rk 160) res (5, [some (.ref 128), some (.int l1), some (.int l2), some (.int x.1), some (.int x.2.1)], [], am_T0 x.2.2)
def QfX8_takenBy_5 (d : Nat) (res : Option Value × am_S) (l1 : Int32) (l2 : Int32) (y : (Int32 × St)) : Prop := res = (some (.int y.1), am_T0 y.2)
def fX8_takenBy_48 (N : Nat) (l1 : Int32) (l2 : Int32) (l3 : Int32) (l4 : Int32) (S : St) : Option ((Int32 × Int32 × St) ⊕ ((Int32 × St))) := some (.inl (l3, (l4 + 1), S))
set_option maxRecDepth 20000 in
theorem rfX8_takenBy_48 (d N : Nat) (res : Option Value × am_S) (l1 : Int32) (l2 : Int32) (l3 : Int32) (l4 : Int32) (S : St) (z : (Int32 × Int32 × St) ⊕ ((Int32 × St))) (h : fX8_takenBy_48 N l1 l2 l3 l4 S = some z) (hz : Sum.elim (PfX8_takenBy_5 (d + 10) res l1 l2 ) (QfX8_takenBy_5 (d + 10) res l1 l2 ) z) : am_Rn (am_C (d + 10)) (am_ct 160) (am_rk 160) res (48, [some (.ref 128), some (.int l1), some (.int l2), some (.int l3), some (.int l4)], [], am_T0 S) := by
  unfold fX8_takenBy_48 at h
  refine am_Rn.op _ (51, [some (.ref 128), some (.int l1), some (.int l2), some (.int l3), some (.int (l4 + 1))], [], am_T0 S) rfl rfl ?_
  refine am_Rn.op _ (5, [some (.ref 128), some (.int l1), some (.int l2), some (.int l3), some (.int (l4 + 1))], [], am_T0 S) rfl rfl ?_
  cases h
  exact hz 
def bfX8_takenBy_5 (N : Nat) (l1 : Int32) (l2 : Int32) (x : Int32 × Int32 × St) : Option ((Int32 × Int32 × St) ⊕ ((Int32 × St))) := (if 6 ≤ x.2.1 then some (.inr (x.1, x.2.2)) else (fX8_signOf N l1 l2 x.2.2).bind (fun q1 => (fX8_isOf N x.2.1 (q1.1 - 65) q1.2).bind (fun q2 => (if q2.1 = 0 then fX8_takenBy_48 N l1 l2 x.1 x.2.1 q2.2 else (fX8_comesToPass N l1 l2 x.2.1 q2.2).bind (fun q3 => (if q3.1 = 0 then fX8_takenBy_48 N l1 l2 x.1 x.2.1 q3.2 else fX8_takenBy_48 N l1 l2 (x.1 ||| (1 <<< (x.2.1 &&& 31))) x.2.1 q3.2))))))
def fX8_takenBy_5 (N : Nat) (l1 : Int32) (l2 : Int32) (x : Int32 × Int32 × St) : Option ((Int32 × St)) := whl N (bfX8_takenBy_5 N l1 l2 ) x
set_option maxRecDepth 20000 in
theorem rbfX8_takenBy_5 (d N : Nat) (res : Option Value × am_S) (l1 : Int32) (l2 : Int32) (x : Int32 × Int32 × St) (z : (Int32 × Int32 × St) ⊕ ((Int32 × St))) (h : bfX8_takenBy_5 N l1 l2 x = some z) (hz : Sum.elim (PfX8_takenBy_5 (d + 10) res l1 l2 ) (QfX8_takenBy_5 (d + 10) res l1 l2 ) z) : PfX8_takenBy_5 (d + 10) res l1 l2 x := by
  unfold bfX8_takenBy_5 at h
  show am_Rn (am_C (d + 10)) (am_ct 160) (am_rk 160) res (5, [some (.ref 128), some (.int l1), some (.int l2), some (.int x.1), some (.int x.2.1)], [], am_T0 x.2.2)
  refine am_Rn.op _ (7, [some (.ref 128), some (.int l1), some (.int l2), some (.int x.1), some (.int x.2.1)], [.int x.2.1], am_T0 x.2.2) rfl rfl ?_
  refine am_Rn.op _ (9, [some (.ref 128), some (.int l1), some (.int l2), some (.int x.1), some (.int x.2.1)], [.int 6, .int x.2.1], am_T0 x.2.2) rfl rfl ?_
  refine am_Rn.op _ (if 6 ≤ x.2.1 then 54 else 12, [some (.ref 128), some (.int l1), some (.int l2), some (.int x.1), some (.int x.2.1)], [], am_T0 x.2.2) rfl rfl ?_
  rcases l2_i h with ⟨hc, h⟩ | ⟨hc, h⟩
  · refine am_Rn.ifT hc ?_
    refine am_Rn.op _ (55, [some (.ref 128), some (.int l1), some (.int l2), some (.int x.1), some (.int x.2.1)], [.int x.1], am_T0 x.2.2) rfl rfl ?_
    cases h
    exact am_Rn.rt2 _ rfl rfl hz
  · refine am_Rn.ifF hc ?_
    refine am_Rn.op _ (13, [some (.ref 128), some (.int l1), some (.int l2), some (.int x.1), some (.int x.2.1)], [.ref 128], am_T0 x.2.2) rfl rfl ?_
    refine am_Rn.op _ (15, [some (.ref 128), some (.int l1), some (.int l2), some (.int x.1), some (.int x.2.1)], [.int x.2.1, .ref 128], am_T0 x.2.2) rfl rfl ?_
    refine am_Rn.op _ (16, [some (.ref 128), some (.int l1), some (.int l2), some (.int x.1), some (.int x.2.1)], [.ref 128, .int x.2.1, .ref 128], am_T0 x.2.2) rfl rfl ?_
    refine am_Rn.op _ (17, [some (.ref 128), some (.int l1), some (.int l2), some (.int x.1), some (.int x.2.1)], [.int l1, .ref 128, .int x.2.1, .ref 128], am_T0 x.2.2) rfl rfl ?_
    refine am_Rn.op _ (18, [some (.ref 128), some (.int l1), some (.int l2), some (.int x.1), some (.int x.2.1)], [.int l2, .int l1, .ref 128, .int x.2.1, .ref 128], am_T0 x.2.2) rfl rfl ?_
    obtain ⟨q1, hq1, h⟩ := l2_b h
    refine am_Rn.cl _ (some (.int q1.1)) (am_T0 q1.2) rfl rfl (rfX8_signOf (d + 9) N l1 l2 x.2.2 q1 hq1) ?_
    show am_Rn _ _ _ _ (21, [some (.ref 128), some (.int l1), some (.int l2), some (.int x.1), some (.int x.2.1)], [.int q1.1, .int x.2.1, .ref 128], am_T0 q1.2)
    refine am_Rn.op _ (23, [some (.ref 128), some (.int l1), some (.int l2), some (.int x.1), some (.int x.2.1)], [.int 65, .int q1.1, .int x.2.1, .ref 128], am_T0 q1.2) rfl rfl ?_
    refine am_Rn.op _ (24, [some (.ref 128), some (.int l1), some (.int l2), some (.int x.1), some (.int x.2.1)], [.int (q1.1 - 65), .int x.2.1, .ref 128], am_T0 q1.2) rfl rfl ?_
    obtain ⟨q2, hq2, h⟩ := l2_b h
    refine am_Rn.cl _ (some (.int q2.1)) (am_T0 q2.2) rfl rfl (rfX8_isOf (d + 9) N x.2.1 (q1.1 - 65) q1.2 q2 hq2) ?_
    show am_Rn _ _ _ _ (27, [some (.ref 128), some (.int l1), some (.int l2), some (.int x.1), some (.int x.2.1)], [.int q2.1], am_T0 q2.2)
    refine am_Rn.op _ (if q2.1 = 0 then 48 else 30, [some (.ref 128), some (.int l1), some (.int l2), some (.int x.1), some (.int x.2.1)], [], am_T0 q2.2) rfl rfl ?_
    rcases l2_i h with ⟨hc, h⟩ | ⟨hc, h⟩
    · refine am_Rn.ifT hc ?_
      exact rfX8_takenBy_48 d N _ l1 l2 x.1 x.2.1 q2.2 _ h hz 
    · refine am_Rn.ifF hc ?_
      refine am_Rn.op _ (31, [some (.ref 128), some (.int l1), some (.int l2), some (.int x.1), some (.int x.2.1)], [.ref 128], am_T0 q2.2) rfl rfl ?_
      refine am_Rn.op _ (32, [some (.ref 128), some (.int l1), some (.int l2), some (.int x.1), some (.int x.2.1)], [.int l1, .ref 128], am_T0 q2.2) rfl rfl ?_
      refine am_Rn.op _ (33, [some (.ref 128), some (.int l1), some (.int l2), some (.int x.1), some (.int x.2.1)], [.int l2, .int l1, .ref 128], am_T0 q2.2) rfl rfl ?_
      refine am_Rn.op _ (35, [some (.ref 128), some (.int l1), some (.int l2), some (.int x.1), some (.int x.2.1)], [.int x.2.1, .int l2, .int l1, .ref 128], am_T0 q2.2) rfl rfl ?_
      obtain ⟨q3, hq3, h⟩ := l2_b h
      refine am_Rn.cl _ (some (.int q3.1)) (am_T0 q3.2) rfl rfl (rfX8_comesToPass (d + 0) N l1 l2 x.2.1 q2.2 q3 hq3) ?_
      show am_Rn _ _ _ _ (38, [some (.ref 128), some (.int l1), some (.int l2), some (.int x.1), some (.int x.2.1)], [.int q3.1], am_T0 q3.2)
      refine am_Rn.op _ (if q3.1 = 0 then 48 else 41, [some (.ref 128), some (.int l1), some (.int l2), some (.int x.1), some (.int x.2.1)], [], am_T0 q3.2) rfl rfl ?_
      rcases l2_i h with ⟨hc, h⟩ | ⟨hc, h⟩
      · refine am_Rn.ifT hc ?_
        exact rfX8_takenBy_48 d N _ l1 l2 x.1 x.2.1 q3.2 _ h hz 
      · refine am_Rn.ifF hc ?_
        refine am_Rn.op _ (42, [some (.ref 128), some (.int l1), some (.int l2), some (.int x.1), some (.int x.2.1)], [.int x.1], am_T0 q3.2) rfl rfl ?_
        refine am_Rn.op _ (43, [some (.ref 128), some (.int l1), some (.int l2), some (.int x.1), some (.int x.2.1)], [.int 1, .int x.1], am_T0 q3.2) rfl rfl ?_
        refine am_Rn.op _ (45, [some (.ref 128), some (.int l1), some (.int l2), some (.int x.1), some (.int x.2.1)], [.int x.2.1, .int 1, .int x.1], am_T0 q3.2) rfl rfl ?_
        refine am_Rn.op _ (46, [some (.ref 128), some (.int l1), some (.int l2), some (.int x.1), some (.int x.2.1)], [.int (1 <<< (x.2.1 &&& 31)), .int x.1], am_T0 q3.2) rfl rfl ?_
        refine am_Rn.op _ (47, [some (.ref 128), some (.int l1), some (.int l2), some (.int x.1), some (.int x.2.1)], [.int (x.1 ||| (1 <<< (x.2.1 &&& 31)))], am_T0 q3.2) rfl rfl ?_
        refine am_Rn.op _ (48, [some (.ref 128), some (.int l1), some (.int l2), some (.int (x.1 ||| (1 <<< (x.2.1 &&& 31)))), some (.int x.2.1)], [], am_T0 q3.2) rfl rfl ?_
        exact rfX8_takenBy_48 d N _ l1 l2 (x.1 ||| (1 <<< (x.2.1 &&& 31))) x.2.1 q3.2 _ h hz 
theorem rfX8_takenBy_5 (d N : Nat) (res : Option Value × am_S) (l1 : Int32) (l2 : Int32) (x : Int32 × Int32 × St) (y : (Int32 × St)) (h : fX8_takenBy_5 N l1 l2 x = some y) (hq : QfX8_takenBy_5 (d + 10) res l1 l2 y) : PfX8_takenBy_5 (d + 10) res l1 l2 x := whl_ind _ _ (fun x z => rbfX8_takenBy_5 d N res l1 l2 x z) N x y h hq
def fX8_takenBy (N : Nat) (l1 : Int32) (l2 : Int32) (S : St) : Option (Int32 × St) := (fX8_takenBy_5 N l1 l2 (0, 0, S)).bind (fun y4 => some (y4.1, y4.2))
set_option maxRecDepth 20000 in
theorem rfX8_takenBy (d N : Nat) (l1 : Int32) (l2 : Int32) (S : St) (z : (Int32 × St)) (h : fX8_takenBy N l1 l2 S = some z) : am_C (d + 11) 160 [.ref 128, .int l1, .int l2] (am_T0 S) (some (.int z.1), am_T0 z.2) := by
  unfold fX8_takenBy at h
  show am_Rn (am_C (d + 10)) (am_ct 160) (am_rk 160) (some (.int z.1), am_T0 z.2) (0, [some (.ref 128), some (.int l1), some (.int l2), none, none], [], am_T0 S)
  refine am_Rn.op _ (1, [some (.ref 128), some (.int l1), some (.int l2), none, none], [.int 0], am_T0 S) rfl rfl ?_
  refine am_Rn.op _ (2, [some (.ref 128), some (.int l1), some (.int l2), some (.int 0), none], [], am_T0 S) rfl rfl ?_
  refine am_Rn.op _ (3, [some (.ref 128), some (.int l1), some (.int l2), some (.int 0), none], [.int 0], am_T0 S) rfl rfl ?_
  refine am_Rn.op _ (5, [some (.ref 128), some (.int l1), some (.int l2), some (.int 0), some (.int 0)], [], am_T0 S) rfl rfl ?_
  obtain ⟨y4, hy4, h⟩ := l2_b h
  refine rfX8_takenBy_5 d N _ l1 l2 (0, 0, S) y4 hy4 ?_ 
  cases h
  exact rfl
-- X8_taker
def fX8_taker_120 (N : Nat) (s0 : Int32) (S : St) : Option (Int32 × St) := some (s0, S)
set_option maxRecDepth 20000 in
theorem rfX8_taker_120 (d N : Nat) (s0 : Int32) (S : St) (z : (Int32 × St)) (h : fX8_taker_120 N s0 S = some z) (w0 : Option Value) (w1 : Option Value) (w2 : Option Value) (w3 : Option Value) (w4 : Option Value) (w5 : Option Value) : am_Rn (am_C (d + 11)) (am_ct 161) (am_rk 161) (some (.int z.1), am_T0 z.2) (120, [w0, w1, w2, w3, w4, w5], [.int s0], am_T0 S) := by
  unfold fX8_taker_120 at h
  cases h
  exact am_Rn.rt _ rfl rfl
def fX8_taker_93 (N : Nat) (s0 : Int32) (S : St) : Option (Int32 × St) := some (s0, S)
set_option maxRecDepth 20000 in
theorem rfX8_taker_93 (d N : Nat) (s0 : Int32) (S : St) (z : (Int32 × St)) (h : fX8_taker_93 N s0 S = some z) (w0 : Option Value) (w1 : Option Value) (w2 : Option Value) (w3 : Option Value) (w4 : Option Value) (w5 : Option Value) : am_Rn (am_C (d + 11)) (am_ct 161) (am_rk 161) (some (.int z.1), am_T0 z.2) (93, [w0, w1, w2, w3, w4, w5], [.int s0], am_T0 S) := by
  unfold fX8_taker_93 at h
  cases h
  exact am_Rn.rt _ rfl rfl
def fX8_taker (N : Nat) (l1 : Int32) (l2 : Int32) (l3 : Int32) (S : St) : Option (Int32 × St) := (fX8_isRoutine N l1 S).bind (fun q1 => (if q1.1 = 0 then some ((-1), q1.2) else (if 0 ≤ l2 then (fX8_placeOf N l1 l2 q1.2).bind (fun q2 => (if q2.1 = (-1) then some ((-1), q2.2) else (if l3 < 0 then some ((-1), q2.2) else (if l3 ≤ 4 then (if l3 = 0 then (fX8_signOf N l1 q2.1 q2.2).bind (fun q3 => some ((q3.1 - 65), q3.2)) else (if l3 = 1 then some (q2.1, q2.2) else (fX8_takenBy N l1 q2.1 q2.2).bind (fun q4 => (if l3 = 2 then some (q4.1, q4.2) else (if l3 = 4 then (if q4.1 = 0 then fX8_taker_93 N 1 q4.2 else fX8_taker_93 N 0 q4.2) else (if q4.1 = 0 then fX8_taker_120 N 0 q4.2 else (fX8_shutOf N l1 (q2.1 + 1) q4.2).bind (fun q5 => (if q5.1 = (q2.1 + 2) then fX8_taker_120 N 1 q5.2 else fX8_taker_120 N 0 q5.2)))))))) else some ((-1), q2.2))))) else some ((-1), q1.2))))
set_option maxRecDepth 20000 in
theorem rfX8_taker (d N : Nat) (l1 : Int32) (l2 : Int32) (l3 : Int32) (S : St) (z : (Int32 × St)) (h : fX8_taker N l1 l2 l3 S = some z) : am_C (d + 12) 161 [.ref 128, .int l1, .int l2, .int l3] (am_T0 S) (some (.int z.1), am_T0 z.2) := by
  unfold fX8_taker at h
  show am_Rn (am_C (d + 11)) (am_ct 161) (am_rk 161) (some (.int z.1), am_T0 z.2) (0, [some (.ref 128), some (.int l1), some (.int l2), some (.int l3), none, none], [], am_T0 S)
  refine am_Rn.op _ (1, [some (.ref 128), some (.int l1), some (.int l2), some (.int l3), none, none], [.int l1], am_T0 S) rfl rfl ?_
  obtain ⟨q1, hq1, h⟩ := l2_b h
  refine am_Rn.cl _ (some (.int q1.1)) (am_T0 q1.2) rfl rfl (rfX8_isRoutine (d + 10) N l1 S q1 hq1) ?_
  show am_Rn _ _ _ _ (4, [some (.ref 128), some (.int l1), some (.int l2), some (.int l3), none, none], [.int q1.1], am_T0 q1.2)
  refine am_Rn.op _ (if q1.1 = 0 then 11 else 7, [some (.ref 128), some (.int l1), some (.int l2), some (.int l3), none, none], [], am_T0 q1.2) rfl rfl ?_
  rcases l2_i h with ⟨hc, h⟩ | ⟨hc, h⟩
  · refine am_Rn.ifT hc ?_
    refine am_Rn.op _ (12, [some (.ref 128), some (.int l1), some (.int l2), some (.int l3), none, none], [.int (-1)], am_T0 q1.2) rfl rfl ?_
    cases h
    exact am_Rn.rt _ rfl rfl
  · refine am_Rn.ifF hc ?_
    refine am_Rn.op _ (8, [some (.ref 128), some (.int l1), some (.int l2), some (.int l3), none, none], [.int l2], am_T0 q1.2) rfl rfl ?_
    refine am_Rn.op _ (if 0 ≤ l2 then 13 else 11, [some (.ref 128), some (.int l1), some (.int l2), some (.int l3), none, none], [], am_T0 q1.2) rfl rfl ?_
    rcases l2_i h with ⟨hc, h⟩ | ⟨hc, h⟩
    · refine am_Rn.ifT hc ?_
      refine am_Rn.op _ (14, [some (.ref 128), some (.int l1), some (.int l2), some (.int l3), none, none], [.ref 128], am_T0 q1.2) rfl rfl ?_
      refine am_Rn.op _ (15, [some (.ref 128), some (.int l1), some (.int l2), some (.int l3), none, none], [.int l1, .ref 128], am_T0 q1.2) rfl rfl ?_
      refine am_Rn.op _ (16, [some (.ref 128), some (.int l1), some (.int l2), some (.int l3), none, none], [.int l2, .int l1, .ref 128], am_T0 q1.2) rfl rfl ?_
      obtain ⟨q2, hq2, h⟩ := l2_b h
      refine am_Rn.cl _ (some (.int q2.1)) (am_T0 q2.2) rfl rfl (rfX8_placeOf (d + 9) N l1 l2 q1.2 q2 hq2) ?_
      show am_Rn _ _ _ _ (19, [some (.ref 128), some (.int l1), some (.int l2), some (.int l3), none, none], [.int q2.1], am_T0 q2.2)
      refine am_Rn.op _ (21, [some (.ref 128), some (.int l1), some (.int l2), some (.int l3), some (.int q2.1), none], [], am_T0 q2.2) rfl rfl ?_
      refine am_Rn.op _ (23, [some (.ref 128), some (.int l1), some (.int l2), some (.int l3), some (.int q2.1), none], [.int q2.1], am_T0 q2.2) rfl rfl ?_
      refine am_Rn.op _ (24, [some (.ref 128), some (.int l1), some (.int l2), some (.int l3), some (.int q2.1), none], [.int (-1), .int q2.1], am_T0 q2.2) rfl rfl ?_
      refine am_Rn.op _ (if q2.1 = (-1) then 36 else 27, [some (.ref 128), some (.int l1), some (.int l2), some (.int l3), some (.int q2.1), none], [], am_T0 q2.2) rfl rfl ?_
      rcases l2_i h with ⟨hc, h⟩ | ⟨hc, h⟩
      · refine am_Rn.ifT hc ?_
        refine am_Rn.op _ (37, [some (.ref 128), some (.int l1), some (.int l2), some (.int l3), some (.int q2.1), none], [.int (-1)], am_T0 q2.2) rfl rfl ?_
        cases h
        exact am_Rn.rt _ rfl rfl
      · refine am_Rn.ifF hc ?_
        refine am_Rn.op _ (28, [some (.ref 128), some (.int l1), some (.int l2), some (.int l3), some (.int q2.1), none], [.int l3], am_T0 q2.2) rfl rfl ?_
        refine am_Rn.op _ (if l3 < 0 then 36 else 31, [some (.ref 128), some (.int l1), some (.int l2), some (.int l3), some (.int q2.1), none], [], am_T0 q2.2) rfl rfl ?_
        rcases l2_i h with ⟨hc, h⟩ | ⟨hc, h⟩
        · refine am_Rn.ifT hc ?_
          refine am_Rn.op _ (37, [some (.ref 128), some (.int l1), some (.int l2), some (.int l3), some (.int q2.1), none], [.int (-1)], am_T0 q2.2) rfl rfl ?_
          cases h
          exact am_Rn.rt _ rfl rfl
        · refine am_Rn.ifF hc ?_
          refine am_Rn.op _ (32, [some (.ref 128), some (.int l1), some (.int l2), some (.int l3), some (.int q2.1), none], [.int l3], am_T0 q2.2) rfl rfl ?_
          refine am_Rn.op _ (33, [some (.ref 128), some (.int l1), some (.int l2), some (.int l3), some (.int q2.1), none], [.int 4, .int l3], am_T0 q2.2) rfl rfl ?_
          refine am_Rn.op _ (if l3 ≤ 4 then 38 else 36, [some (.ref 128), some (.int l1), some (.int l2), some (.int l3), some (.int q2.1), none], [], am_T0 q2.2) rfl rfl ?_
          rcases l2_i h with ⟨hc, h⟩ | ⟨hc, h⟩
          · refine am_Rn.ifT hc ?_
            refine am_Rn.op _ (39, [some (.ref 128), some (.int l1), some (.int l2), some (.int l3), some (.int q2.1), none], [.int l3], am_T0 q2.2) rfl rfl ?_
            refine am_Rn.op _ (if l3 = 0 then 42 else 53, [some (.ref 128), some (.int l1), some (.int l2), some (.int l3), some (.int q2.1), none], [], am_T0 q2.2) rfl rfl ?_
            rcases l2_i h with ⟨hc, h⟩ | ⟨hc, h⟩
            · refine am_Rn.ifT hc ?_
              refine am_Rn.op _ (43, [some (.ref 128), some (.int l1), some (.int l2), some (.int l3), some (.int q2.1), none], [.ref 128], am_T0 q2.2) rfl rfl ?_
              refine am_Rn.op _ (44, [some (.ref 128), some (.int l1), some (.int l2), some (.int l3), some (.int q2.1), none], [.int l1, .ref 128], am_T0 q2.2) rfl rfl ?_
              refine am_Rn.op _ (46, [some (.ref 128), some (.int l1), some (.int l2), some (.int l3), some (.int q2.1), none], [.int q2.1, .int l1, .ref 128], am_T0 q2.2) rfl rfl ?_
              obtain ⟨q3, hq3, h⟩ := l2_b h
              refine am_Rn.cl _ (some (.int q3.1)) (am_T0 q3.2) rfl rfl (rfX8_signOf (d + 10) N l1 q2.1 q2.2 q3 hq3) ?_
              show am_Rn _ _ _ _ (49, [some (.ref 128), some (.int l1), some (.int l2), some (.int l3), some (.int q2.1), none], [.int q3.1], am_T0 q3.2)
              refine am_Rn.op _ (51, [some (.ref 128), some (.int l1), some (.int l2), some (.int l3), some (.int q2.1), none], [.int 65, .int q3.1], am_T0 q3.2) rfl rfl ?_
              refine am_Rn.op _ (52, [some (.ref 128), some (.int l1), some (.int l2), some (.int l3), some (.int q2.1), none], [.int (q3.1 - 65)], am_T0 q3.2) rfl rfl ?_
              cases h
              exact am_Rn.rt _ rfl rfl
            · refine am_Rn.ifF hc ?_
              refine am_Rn.op _ (54, [some (.ref 128), some (.int l1), some (.int l2), some (.int l3), some (.int q2.1), none], [.int l3], am_T0 q2.2) rfl rfl ?_
              refine am_Rn.op _ (55, [some (.ref 128), some (.int l1), some (.int l2), some (.int l3), some (.int q2.1), none], [.int 1, .int l3], am_T0 q2.2) rfl rfl ?_
              refine am_Rn.op _ (if l3 = 1 then 58 else 61, [some (.ref 128), some (.int l1), some (.int l2), some (.int l3), some (.int q2.1), none], [], am_T0 q2.2) rfl rfl ?_
              rcases l2_i h with ⟨hc, h⟩ | ⟨hc, h⟩
              · refine am_Rn.ifT hc ?_
                refine am_Rn.op _ (60, [some (.ref 128), some (.int l1), some (.int l2), some (.int l3), some (.int q2.1), none], [.int q2.1], am_T0 q2.2) rfl rfl ?_
                cases h
                exact am_Rn.rt _ rfl rfl
              · refine am_Rn.ifF hc ?_
                refine am_Rn.op _ (62, [some (.ref 128), some (.int l1), some (.int l2), some (.int l3), some (.int q2.1), none], [.ref 128], am_T0 q2.2) rfl rfl ?_
                refine am_Rn.op _ (63, [some (.ref 128), some (.int l1), some (.int l2), some (.int l3), some (.int q2.1), none], [.int l1, .ref 128], am_T0 q2.2) rfl rfl ?_
                refine am_Rn.op _ (65, [some (.ref 128), some (.int l1), some (.int l2), some (.int l3), some (.int q2.1), none], [.int q2.1, .int l1, .ref 128], am_T0 q2.2) rfl rfl ?_
                obtain ⟨q4, hq4, h⟩ := l2_b h
                refine am_Rn.cl _ (some (.int q4.1)) (am_T0 q4.2) rfl rfl (rfX8_takenBy (d + 0) N l1 q2.1 q2.2 q4 hq4) ?_
                show am_Rn _ _ _ _ (68, [some (.ref 128), some (.int l1), some (.int l2), some (.int l3), some (.int q2.1), none], [.int q4.1], am_T0 q4.2)
                refine am_Rn.op _ (70, [some (.ref 128), some (.int l1), some (.int l2), some (.int l3), some (.int q2.1), some (.int q4.1)], [], am_T0 q4.2) rfl rfl ?_
                refine am_Rn.op _ (71, [some (.ref 128), some (.int l1), some (.int l2), some (.int l3), some (.int q2.1), some (.int q4.1)], [.int l3], am_T0 q4.2) rfl rfl ?_
                refine am_Rn.op _ (72, [some (.ref 128), some (.int l1), some (.int l2), some (.int l3), some (.int q2.1), some (.int q4.1)], [.int 2, .int l3], am_T0 q4.2) rfl rfl ?_
                refine am_Rn.op _ (if l3 = 2 then 75 else 78, [some (.ref 128), some (.int l1), some (.int l2), some (.int l3), some (.int q2.1), some (.int q4.1)], [], am_T0 q4.2) rfl rfl ?_
                rcases l2_i h with ⟨hc, h⟩ | ⟨hc, h⟩
                · refine am_Rn.ifT hc ?_
                  refine am_Rn.op _ (77, [some (.ref 128), some (.int l1), some (.int l2), some (.int l3), some (.int q2.1), some (.int q4.1)], [.int q4.1], am_T0 q4.2) rfl rfl ?_
                  cases h
                  exact am_Rn.rt _ rfl rfl
                · refine am_Rn.ifF hc ?_
                  refine am_Rn.op _ (79, [some (.ref 128), some (.int l1), some (.int l2), some (.int l3), some (.int q2.1), some (.int q4.1)], [.int l3], am_T0 q4.2) rfl rfl ?_
                  refine am_Rn.op _ (80, [some (.ref 128), some (.int l1), some (.int l2), some (.int l3), some (.int q2.1), some (.int q4.1)], [.int 4, .int l3], am_T0 q4.2) rfl rfl ?_
                  refine am_Rn.op _ (if l3 = 4 then 83 else 94, [some (.ref 128), some (.int l1), some (.int l2), some (.int l3), some (.int q2.1), some (.int q4.1)], [], am_T0 q4.2) rfl rfl ?_
                  rcases l2_i h with ⟨hc, h⟩ | ⟨hc, h⟩
                  · refine am_Rn.ifT hc ?_
                    refine am_Rn.op _ (85, [some (.ref 128), some (.int l1), some (.int l2), some (.int l3), some (.int q2.1), some (.int q4.1)], [.int q4.1], am_T0 q4.2) rfl rfl ?_
                    refine am_Rn.op _ (if q4.1 = 0 then 88 else 92, [some (.ref 128), some (.int l1), some (.int l2), some (.int l3), some (.int q2.1), some (.int q4.1)], [], am_T0 q4.2) rfl rfl ?_
                    rcases l2_i h with ⟨hc, h⟩ | ⟨hc, h⟩
                    · refine am_Rn.ifT hc ?_
                      refine am_Rn.op _ (89, [some (.ref 128), some (.int l1), some (.int l2), some (.int l3), some (.int q2.1), some (.int q4.1)], [.int 1], am_T0 q4.2) rfl rfl ?_
                      refine am_Rn.op _ (93, [some (.ref 128), some (.int l1), some (.int l2), some (.int l3), some (.int q2.1), some (.int q4.1)], [.int 1], am_T0 q4.2) rfl rfl ?_
                      exact rfX8_taker_93 d N 1 q4.2 _ h _ _ _ _ _ _
                    · refine am_Rn.ifF hc ?_
                      refine am_Rn.op _ (93, [some (.ref 128), some (.int l1), some (.int l2), some (.int l3), some (.int q2.1), some (.int q4.1)], [.int 0], am_T0 q4.2) rfl rfl ?_
                      exact rfX8_taker_93 d N 0 q4.2 _ h _ _ _ _ _ _
                  · refine am_Rn.ifF hc ?_
                    refine am_Rn.op _ (96, [some (.ref 128), some (.int l1), some (.int l2), some (.int l3), some (.int q2.1), some (.int q4.1)], [.int q4.1], am_T0 q4.2) rfl rfl ?_
                    refine am_Rn.op _ (if q4.1 = 0 then 119 else 99, [some (.ref 128), some (.int l1), some (.int l2), some (.int l3), some (.int q2.1), some (.int q4.1)], [], am_T0 q4.2) rfl rfl ?_
                    rcases l2_i h with ⟨hc, h⟩ | ⟨hc, h⟩
                    · refine am_Rn.ifT hc ?_
                      refine am_Rn.op _ (120, [some (.ref 128), some (.int l1), some (.int l2), some (.int l3), some (.int q2.1), some (.int q4.1)], [.int 0], am_T0 q4.2) rfl rfl ?_
                      exact rfX8_taker_120 d N 0 q4.2 _ h _ _ _ _ _ _
                    · refine am_Rn.ifF hc ?_
                      refine am_Rn.op _ (100, [some (.ref 128), some (.int l1), some (.int l2), some (.int l3), some (.int q2.1), some (.int q4.1)], [.ref 128], am_T0 q4.2) rfl rfl ?_
                      refine am_Rn.op _ (101, [some (.ref 128), some (.int l1), some (.int l2), some (.int l3), some (.int q2.1), some (.int q4.1)], [.int l1, .ref 128], am_T0 q4.2) rfl rfl ?_
                      refine am_Rn.op _ (103, [some (.ref 128), some (.int l1), some (.int l2), some (.int l3), some (.int q2.1), some (.int q4.1)], [.int q2.1, .int l1, .ref 128], am_T0 q4.2) rfl rfl ?_
                      refine am_Rn.op _ (104, [some (.ref 128), some (.int l1), some (.int l2), some (.int l3), some (.int q2.1), some (.int q4.1)], [.int 1, .int q2.1, .int l1, .ref 128], am_T0 q4.2) rfl rfl ?_
                      refine am_Rn.op _ (105, [some (.ref 128), some (.int l1), some (.int l2), some (.int l3), some (.int q2.1), some (.int q4.1)], [.int (q2.1 + 1), .int l1, .ref 128], am_T0 q4.2) rfl rfl ?_
                      obtain ⟨q5, hq5, h⟩ := l2_b h
                      refine am_Rn.cl _ (some (.int q5.1)) (am_T0 q5.2) rfl rfl (rfX8_shutOf (d + 10) N l1 (q2.1 + 1) q4.2 q5 hq5) ?_
                      show am_Rn _ _ _ _ (108, [some (.ref 128), some (.int l1), some (.int l2), some (.int l3), some (.int q2.1), some (.int q4.1)], [.int q5.1], am_T0 q5.2)
                      refine am_Rn.op _ (110, [some (.ref 128), some (.int l1), some (.int l2), some (.int l3), some (.int q2.1), some (.int q4.1)], [.int q2.1, .int q5.1], am_T0 q5.2) rfl rfl ?_
                      refine am_Rn.op _ (111, [some (.ref 128), some (.int l1), some (.int l2), some (.int l3), some (.int q2.1), some (.int q4.1)], [.int 2, .int q2.1, .int q5.1], am_T0 q5.2) rfl rfl ?_
                      refine am_Rn.op _ (112, [some (.ref 128), some (.int l1), some (.int l2), some (.int l3), some (.int q2.1), some (.int q4.1)], [.int (q2.1 + 2), .int q5.1], am_T0 q5.2) rfl rfl ?_
                      refine am_Rn.op _ (if q5.1 = (q2.1 + 2) then 115 else 119, [some (.ref 128), some (.int l1), some (.int l2), some (.int l3), some (.int q2.1), some (.int q4.1)], [], am_T0 q5.2) rfl rfl ?_
                      rcases l2_i h with ⟨hc, h⟩ | ⟨hc, h⟩
                      · refine am_Rn.ifT hc ?_
                        refine am_Rn.op _ (116, [some (.ref 128), some (.int l1), some (.int l2), some (.int l3), some (.int q2.1), some (.int q4.1)], [.int 1], am_T0 q5.2) rfl rfl ?_
                        refine am_Rn.op _ (120, [some (.ref 128), some (.int l1), some (.int l2), some (.int l3), some (.int q2.1), some (.int q4.1)], [.int 1], am_T0 q5.2) rfl rfl ?_
                        exact rfX8_taker_120 d N 1 q5.2 _ h _ _ _ _ _ _
                      · refine am_Rn.ifF hc ?_
                        refine am_Rn.op _ (120, [some (.ref 128), some (.int l1), some (.int l2), some (.int l3), some (.int q2.1), some (.int q4.1)], [.int 0], am_T0 q5.2) rfl rfl ?_
                        exact rfX8_taker_120 d N 0 q5.2 _ h _ _ _ _ _ _
          · refine am_Rn.ifF hc ?_
            refine am_Rn.op _ (37, [some (.ref 128), some (.int l1), some (.int l2), some (.int l3), some (.int q2.1), none], [.int (-1)], am_T0 q2.2) rfl rfl ?_
            cases h
            exact am_Rn.rt _ rfl rfl
    · refine am_Rn.ifF hc ?_
      refine am_Rn.op _ (12, [some (.ref 128), some (.int l1), some (.int l2), some (.int l3), none, none], [.int (-1)], am_T0 q1.2) rfl rfl ?_
      cases h
      exact am_Rn.rt _ rfl rfl
-- X8_lost
def PfX8_lost_13 (d : Nat) (res : Option Value × am_S) (l1 : Int32) (x : Int32 × Int32 × St) : Prop := am_Rn (am_C d) (am_ct 162) (am_rk 162) res (13, [some (.ref 128), some (.int l1), some (.int x.1), some (.int x.2.1)], [], am_T0 x.2.2)
def QfX8_lost_13 (d : Nat) (res : Option Value × am_S) (l1 : Int32) (y : (Int32 × St)) : Prop := res = (some (.int y.1), am_T0 y.2)
def fX8_lost_35 (N : Nat) (l1 : Int32) (l2 : Int32) (l3 : Int32) (S : St) : Option ((Int32 × Int32 × St) ⊕ ((Int32 × St))) := some (.inl (l2, (l3 + 1), S))
set_option maxRecDepth 20000 in
theorem rfX8_lost_35 (d N : Nat) (res : Option Value × am_S) (l1 : Int32) (l2 : Int32) (l3 : Int32) (S : St) (z : (Int32 × Int32 × St) ⊕ ((Int32 × St))) (h : fX8_lost_35 N l1 l2 l3 S = some z) (hz : Sum.elim (PfX8_lost_13 (d + 10) res l1 ) (QfX8_lost_13 (d + 10) res l1 ) z) : am_Rn (am_C (d + 10)) (am_ct 162) (am_rk 162) res (35, [some (.ref 128), some (.int l1), some (.int l2), some (.int l3)], [], am_T0 S) := by
  unfold fX8_lost_35 at h
  refine am_Rn.op _ (38, [some (.ref 128), some (.int l1), some (.int l2), some (.int (l3 + 1))], [], am_T0 S) rfl rfl ?_
  refine am_Rn.op _ (13, [some (.ref 128), some (.int l1), some (.int l2), some (.int (l3 + 1))], [], am_T0 S) rfl rfl ?_
  cases h
  exact hz 
def bfX8_lost_13 (N : Nat) (l1 : Int32) (x : Int32 × Int32 × St) : Option ((Int32 × Int32 × St) ⊕ ((Int32 × St))) := (if 6 ≤ x.2.1 then some (.inr (x.1, x.2.2)) else (fX8_comesToPass N l1 (-1) x.2.1 x.2.2).bind (fun q1 => (if q1.1 = 0 then fX8_lost_35 N l1 x.1 x.2.1 q1.2 else fX8_lost_35 N l1 (x.1 ||| (1 <<< (x.2.1 &&& 31))) x.2.1 q1.2)))
def fX8_lost_13 (N : Nat) (l1 : Int32) (x : Int32 × Int32 × St) : Option ((Int32 × St)) := whl N (bfX8_lost_13 N l1 ) x
set_option maxRecDepth 20000 in
theorem rbfX8_lost_13 (d N : Nat) (res : Option Value × am_S) (l1 : Int32) (x : Int32 × Int32 × St) (z : (Int32 × Int32 × St) ⊕ ((Int32 × St))) (h : bfX8_lost_13 N l1 x = some z) (hz : Sum.elim (PfX8_lost_13 (d + 10) res l1 ) (QfX8_lost_13 (d + 10) res l1 ) z) : PfX8_lost_13 (d + 10) res l1 x := by
  unfold bfX8_lost_13 at h
  show am_Rn (am_C (d + 10)) (am_ct 162) (am_rk 162) res (13, [some (.ref 128), some (.int l1), some (.int x.1), some (.int x.2.1)], [], am_T0 x.2.2)
  refine am_Rn.op _ (14, [some (.ref 128), some (.int l1), some (.int x.1), some (.int x.2.1)], [.int x.2.1], am_T0 x.2.2) rfl rfl ?_
  refine am_Rn.op _ (16, [some (.ref 128), some (.int l1), some (.int x.1), some (.int x.2.1)], [.int 6, .int x.2.1], am_T0 x.2.2) rfl rfl ?_
  refine am_Rn.op _ (if 6 ≤ x.2.1 then 41 else 19, [some (.ref 128), some (.int l1), some (.int x.1), some (.int x.2.1)], [], am_T0 x.2.2) rfl rfl ?_
  rcases l2_i h with ⟨hc, h⟩ | ⟨hc, h⟩
  · refine am_Rn.ifT hc ?_
    refine am_Rn.op _ (42, [some (.ref 128), some (.int l1), some (.int x.1), some (.int x.2.1)], [.int x.1], am_T0 x.2.2) rfl rfl ?_
    cases h
    exact am_Rn.rt2 _ rfl rfl hz
  · refine am_Rn.ifF hc ?_
    refine am_Rn.op _ (20, [some (.ref 128), some (.int l1), some (.int x.1), some (.int x.2.1)], [.ref 128], am_T0 x.2.2) rfl rfl ?_
    refine am_Rn.op _ (21, [some (.ref 128), some (.int l1), some (.int x.1), some (.int x.2.1)], [.int l1, .ref 128], am_T0 x.2.2) rfl rfl ?_
    refine am_Rn.op _ (22, [some (.ref 128), some (.int l1), some (.int x.1), some (.int x.2.1)], [.int (-1), .int l1, .ref 128], am_T0 x.2.2) rfl rfl ?_
    refine am_Rn.op _ (23, [some (.ref 128), some (.int l1), some (.int x.1), some (.int x.2.1)], [.int x.2.1, .int (-1), .int l1, .ref 128], am_T0 x.2.2) rfl rfl ?_
    obtain ⟨q1, hq1, h⟩ := l2_b h
    refine am_Rn.cl _ (some (.int q1.1)) (am_T0 q1.2) rfl rfl (rfX8_comesToPass (d + 0) N l1 (-1) x.2.1 x.2.2 q1 hq1) ?_
    show am_Rn _ _ _ _ (26, [some (.ref 128), some (.int l1), some (.int x.1), some (.int x.2.1)], [.int q1.1], am_T0 q1.2)
    refine am_Rn.op _ (if q1.1 = 0 then 35 else 29, [some (.ref 128), some (.int l1), some (.int x.1), some (.int x.2.1)], [], am_T0 q1.2) rfl rfl ?_
    rcases l2_i h with ⟨hc, h⟩ | ⟨hc, h⟩
    · refine am_Rn.ifT hc ?_
      exact rfX8_lost_35 d N _ l1 x.1 x.2.1 q1.2 _ h hz 
    · refine am_Rn.ifF hc ?_
      refine am_Rn.op _ (30, [some (.ref 128), some (.int l1), some (.int x.1), some (.int x.2.1)], [.int x.1], am_T0 q1.2) rfl rfl ?_
      refine am_Rn.op _ (31, [some (.ref 128), some (.int l1), some (.int x.1), some (.int x.2.1)], [.int 1, .int x.1], am_T0 q1.2) rfl rfl ?_
      refine am_Rn.op _ (32, [some (.ref 128), some (.int l1), some (.int x.1), some (.int x.2.1)], [.int x.2.1, .int 1, .int x.1], am_T0 q1.2) rfl rfl ?_
      refine am_Rn.op _ (33, [some (.ref 128), some (.int l1), some (.int x.1), some (.int x.2.1)], [.int (1 <<< (x.2.1 &&& 31)), .int x.1], am_T0 q1.2) rfl rfl ?_
      refine am_Rn.op _ (34, [some (.ref 128), some (.int l1), some (.int x.1), some (.int x.2.1)], [.int (x.1 ||| (1 <<< (x.2.1 &&& 31)))], am_T0 q1.2) rfl rfl ?_
      refine am_Rn.op _ (35, [some (.ref 128), some (.int l1), some (.int (x.1 ||| (1 <<< (x.2.1 &&& 31)))), some (.int x.2.1)], [], am_T0 q1.2) rfl rfl ?_
      exact rfX8_lost_35 d N _ l1 (x.1 ||| (1 <<< (x.2.1 &&& 31))) x.2.1 q1.2 _ h hz 
theorem rfX8_lost_13 (d N : Nat) (res : Option Value × am_S) (l1 : Int32) (x : Int32 × Int32 × St) (y : (Int32 × St)) (h : fX8_lost_13 N l1 x = some y) (hq : QfX8_lost_13 (d + 10) res l1 y) : PfX8_lost_13 (d + 10) res l1 x := whl_ind _ _ (fun x z => rbfX8_lost_13 d N res l1 x z) N x y h hq
def fX8_lost (N : Nat) (l1 : Int32) (S : St) : Option (Int32 × St) := (fX8_isRoutine N l1 S).bind (fun q2 => (if q2.1 = 0 then some ((-1), q2.2) else (fX8_lost_13 N l1 (0, 0, q2.2)).bind (fun y3 => some (y3.1, y3.2))))
set_option maxRecDepth 20000 in
theorem rfX8_lost (d N : Nat) (l1 : Int32) (S : St) (z : (Int32 × St)) (h : fX8_lost N l1 S = some z) : am_C (d + 11) 162 [.ref 128, .int l1] (am_T0 S) (some (.int z.1), am_T0 z.2) := by
  unfold fX8_lost at h
  show am_Rn (am_C (d + 10)) (am_ct 162) (am_rk 162) (some (.int z.1), am_T0 z.2) (0, [some (.ref 128), some (.int l1), none, none], [], am_T0 S)
  refine am_Rn.op _ (1, [some (.ref 128), some (.int l1), none, none], [.int l1], am_T0 S) rfl rfl ?_
  obtain ⟨q2, hq2, h⟩ := l2_b h
  refine am_Rn.cl _ (some (.int q2.1)) (am_T0 q2.2) rfl rfl (rfX8_isRoutine (d + 9) N l1 S q2 hq2) ?_
  show am_Rn _ _ _ _ (4, [some (.ref 128), some (.int l1), none, none], [.int q2.1], am_T0 q2.2)
  refine am_Rn.op _ (if q2.1 = 0 then 7 else 9, [some (.ref 128), some (.int l1), none, none], [], am_T0 q2.2) rfl rfl ?_
  rcases l2_i h with ⟨hc, h⟩ | ⟨hc, h⟩
  · refine am_Rn.ifT hc ?_
    refine am_Rn.op _ (8, [some (.ref 128), some (.int l1), none, none], [.int (-1)], am_T0 q2.2) rfl rfl ?_
    cases h
    exact am_Rn.rt _ rfl rfl
  · refine am_Rn.ifF hc ?_
    refine am_Rn.op _ (10, [some (.ref 128), some (.int l1), none, none], [.int 0], am_T0 q2.2) rfl rfl ?_
    refine am_Rn.op _ (11, [some (.ref 128), some (.int l1), some (.int 0), none], [], am_T0 q2.2) rfl rfl ?_
    refine am_Rn.op _ (12, [some (.ref 128), some (.int l1), some (.int 0), none], [.int 0], am_T0 q2.2) rfl rfl ?_
    refine am_Rn.op _ (13, [some (.ref 128), some (.int l1), some (.int 0), some (.int 0)], [], am_T0 q2.2) rfl rfl ?_
    obtain ⟨y3, hy3, h⟩ := l2_b h
    refine rfX8_lost_13 d N _ l1 (0, 0, q2.2) y3 hy3 ?_ 
    cases h
    exact rfl
