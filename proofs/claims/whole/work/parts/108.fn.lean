-- X7_idle
def PfX7_idle_31 (d : Nat) (res : Option Value × am_S) (l2 : Int32) (x : Int32 × Int32 × St) : Prop := ∀ (w1 : Option Value), am_Rn (am_C d) (am_ct 95) (am_rk 95) res (31, [some (.ref 0), w1, some (.int l2), some (.int x.1), some (.int x.2.1)], [], am_T0 x.2.2)
def QfX7_idle_31 (d : Nat) (res : Option Value × am_S) (l2 : Int32) (y : (Int32 × St)) : Prop := res = (some (.int y.1), am_T0 y.2)
def fX7_idle_61 (N : Nat) (l2 : Int32) (l3 : Int32) (l4 : Int32) (S : St) : Option ((Int32 × Int32 × St) ⊕ ((Int32 × St))) := some (.inl (l3, (l4 + 1), S))
set_option maxRecDepth 20000 in
theorem rfX7_idle_61 (d N : Nat) (res : Option Value × am_S) (l2 : Int32) (l3 : Int32) (l4 : Int32) (S : St) (z : (Int32 × Int32 × St) ⊕ ((Int32 × St))) (h : fX7_idle_61 N l2 l3 l4 S = some z) (hz : Sum.elim (PfX7_idle_31 (d + 7) res l2 ) (QfX7_idle_31 (d + 7) res l2 ) z) (w1 : Option Value) : am_Rn (am_C (d + 7)) (am_ct 95) (am_rk 95) res (61, [some (.ref 0), w1, some (.int l2), some (.int l3), some (.int l4)], [], am_T0 S) := by
  unfold fX7_idle_61 at h
  refine am_Rn.op _ (64, [some (.ref 0), w1, some (.int l2), some (.int l3), some (.int (l4 + 1))], [], am_T0 S) rfl rfl ?_
  refine am_Rn.op _ (31, [some (.ref 0), w1, some (.int l2), some (.int l3), some (.int (l4 + 1))], [], am_T0 S) rfl rfl ?_
  cases h
  exact hz _
def bfX7_idle_31 (N : Nat) (l2 : Int32) (x : Int32 × Int32 × St) : Option ((Int32 × Int32 × St) ⊕ ((Int32 × St))) := (if 6 ≤ x.2.1 then some (.inr (x.1, x.2.2)) else (fX7_has N l2 x.2.1 x.2.2).bind (fun q1 => (if q1.1 = 0 then fX7_idle_61 N l2 x.1 x.2.1 q1.2 else (fX1_above N x.2.1 q1.2).bind (fun q2 => fX7_idle_61 N l2 (x.1 &&& (q2.1 ^^^ (-1))) x.2.1 q2.2))))
def fX7_idle_31 (N : Nat) (l2 : Int32) (x : Int32 × Int32 × St) : Option ((Int32 × St)) := whl N (bfX7_idle_31 N l2 ) x
set_option maxRecDepth 20000 in
theorem rbfX7_idle_31 (d N : Nat) (res : Option Value × am_S) (l2 : Int32) (x : Int32 × Int32 × St) (z : (Int32 × Int32 × St) ⊕ ((Int32 × St))) (h : bfX7_idle_31 N l2 x = some z) (hz : Sum.elim (PfX7_idle_31 (d + 7) res l2 ) (QfX7_idle_31 (d + 7) res l2 ) z) : PfX7_idle_31 (d + 7) res l2 x := by
  unfold bfX7_idle_31 at h
  show ∀ (w1 : Option Value), am_Rn (am_C (d + 7)) (am_ct 95) (am_rk 95) res (31, [some (.ref 0), w1, some (.int l2), some (.int x.1), some (.int x.2.1)], [], am_T0 x.2.2)
  intro w1
  refine am_Rn.op _ (33, [some (.ref 0), w1, some (.int l2), some (.int x.1), some (.int x.2.1)], [.int x.2.1], am_T0 x.2.2) rfl rfl ?_
  refine am_Rn.op _ (35, [some (.ref 0), w1, some (.int l2), some (.int x.1), some (.int x.2.1)], [.int 6, .int x.2.1], am_T0 x.2.2) rfl rfl ?_
  refine am_Rn.op _ (if 6 ≤ x.2.1 then 67 else 38, [some (.ref 0), w1, some (.int l2), some (.int x.1), some (.int x.2.1)], [], am_T0 x.2.2) rfl rfl ?_
  rcases l2_i h with ⟨hc, h⟩ | ⟨hc, h⟩
  · refine am_Rn.ifT hc ?_
    refine am_Rn.op _ (68, [some (.ref 0), w1, some (.int l2), some (.int x.1), some (.int x.2.1)], [.int x.1], am_T0 x.2.2) rfl rfl ?_
    cases h
    exact am_Rn.rt2 _ rfl rfl hz
  · refine am_Rn.ifF hc ?_
    refine am_Rn.op _ (39, [some (.ref 0), w1, some (.int l2), some (.int x.1), some (.int x.2.1)], [.int l2], am_T0 x.2.2) rfl rfl ?_
    refine am_Rn.op _ (41, [some (.ref 0), w1, some (.int l2), some (.int x.1), some (.int x.2.1)], [.int x.2.1, .int l2], am_T0 x.2.2) rfl rfl ?_
    obtain ⟨q1, hq1, h⟩ := l2_b h
    refine am_Rn.cl _ (some (.int q1.1)) (am_T0 q1.2) rfl rfl (rfX7_has (d + 6) N l2 x.2.1 x.2.2 q1 hq1) ?_
    show am_Rn _ _ _ _ (44, [some (.ref 0), w1, some (.int l2), some (.int x.1), some (.int x.2.1)], [.int q1.1], am_T0 q1.2)
    refine am_Rn.op _ (if q1.1 = 0 then 61 else 47, [some (.ref 0), w1, some (.int l2), some (.int x.1), some (.int x.2.1)], [], am_T0 q1.2) rfl rfl ?_
    rcases l2_i h with ⟨hc, h⟩ | ⟨hc, h⟩
    · refine am_Rn.ifT hc ?_
      exact rfX7_idle_61 d N _ l2 x.1 x.2.1 q1.2 _ h hz _
    · refine am_Rn.ifF hc ?_
      refine am_Rn.op _ (48, [some (.ref 0), w1, some (.int l2), some (.int x.1), some (.int x.2.1)], [.int x.1], am_T0 q1.2) rfl rfl ?_
      refine am_Rn.op _ (49, [some (.ref 0), w1, some (.int l2), some (.int x.1), some (.int x.2.1)], [.ref 0, .int x.1], am_T0 q1.2) rfl rfl ?_
      refine am_Rn.op _ (52, [some (.ref 0), w1, some (.int l2), some (.int x.1), some (.int x.2.1)], [.ref 13, .int x.1], am_T0 q1.2) rfl rfl ?_
      refine am_Rn.op _ (54, [some (.ref 0), w1, some (.int l2), some (.int x.1), some (.int x.2.1)], [.int x.2.1, .ref 13, .int x.1], am_T0 q1.2) rfl rfl ?_
      obtain ⟨q2, hq2, h⟩ := l2_b h
      refine am_Rn.cl _ (some (.int q2.1)) (am_T0 q2.2) rfl rfl (rfX1_above (d + 5) N x.2.1 q1.2 q2 hq2) ?_
      show am_Rn _ _ _ _ (57, [some (.ref 0), w1, some (.int l2), some (.int x.1), some (.int x.2.1)], [.int q2.1, .int x.1], am_T0 q2.2)
      refine am_Rn.op _ (58, [some (.ref 0), w1, some (.int l2), some (.int x.1), some (.int x.2.1)], [.int (-1), .int q2.1, .int x.1], am_T0 q2.2) rfl rfl ?_
      refine am_Rn.op _ (59, [some (.ref 0), w1, some (.int l2), some (.int x.1), some (.int x.2.1)], [.int (q2.1 ^^^ (-1)), .int x.1], am_T0 q2.2) rfl rfl ?_
      refine am_Rn.op _ (60, [some (.ref 0), w1, some (.int l2), some (.int x.1), some (.int x.2.1)], [.int (x.1 &&& (q2.1 ^^^ (-1)))], am_T0 q2.2) rfl rfl ?_
      refine am_Rn.op _ (61, [some (.ref 0), w1, some (.int l2), some (.int (x.1 &&& (q2.1 ^^^ (-1)))), some (.int x.2.1)], [], am_T0 q2.2) rfl rfl ?_
      exact rfX7_idle_61 d N _ l2 (x.1 &&& (q2.1 ^^^ (-1))) x.2.1 q2.2 _ h hz _
theorem rfX7_idle_31 (d N : Nat) (res : Option Value × am_S) (l2 : Int32) (x : Int32 × Int32 × St) (y : (Int32 × St)) (h : fX7_idle_31 N l2 x = some y) (hq : QfX7_idle_31 (d + 7) res l2 y) : PfX7_idle_31 (d + 7) res l2 x := whl_ind _ _ (fun x z => rbfX7_idle_31 d N res l2 x z) N x y h hq
def fX7_idle (N : Nat) (l1 : Int32) (S : St) : Option (Int32 × St) := (fX7_isRoutine N l1 S).bind (fun q3 => (if q3.1 = 0 then some ((-1), q3.2) else (fX7_measure N l1 q3.2).bind (fun q4 => (fX7_leavingKinds N l1 0 q4).bind (fun q5 => (if l1 < 0 ∨ 8 ≤ Int32.toNatClampNeg l1 then none else (fX7_idle_31 N q5.1 ((q5.2.1 17 (Int32.toNatClampNeg l1)), 0, q5.2)).bind (fun y7 => some (y7.1, y7.2)))))))
set_option maxRecDepth 20000 in
theorem rfX7_idle (d N : Nat) (l1 : Int32) (S : St) (z : (Int32 × St)) (h : fX7_idle N l1 S = some z) : am_C (d + 8) 95 [.ref 0, .int l1] (am_T0 S) (some (.int z.1), am_T0 z.2) := by
  unfold fX7_idle at h
  show am_Rn (am_C (d + 7)) (am_ct 95) (am_rk 95) (some (.int z.1), am_T0 z.2) (0, [some (.ref 0), some (.int l1), none, none, none], [], am_T0 S)
  refine am_Rn.op _ (1, [some (.ref 0), some (.int l1), none, none, none], [.int l1], am_T0 S) rfl rfl ?_
  obtain ⟨q3, hq3, h⟩ := l2_b h
  refine am_Rn.cl _ (some (.int q3.1)) (am_T0 q3.2) rfl rfl (rfX7_isRoutine (d + 6) N l1 S q3 hq3) ?_
  show am_Rn _ _ _ _ (4, [some (.ref 0), some (.int l1), none, none, none], [.int q3.1], am_T0 q3.2)
  refine am_Rn.op _ (if q3.1 = 0 then 7 else 9, [some (.ref 0), some (.int l1), none, none, none], [], am_T0 q3.2) rfl rfl ?_
  rcases l2_i h with ⟨hc, h⟩ | ⟨hc, h⟩
  · refine am_Rn.ifT hc ?_
    refine am_Rn.op _ (8, [some (.ref 0), some (.int l1), none, none, none], [.int (-1)], am_T0 q3.2) rfl rfl ?_
    cases h
    exact am_Rn.rt _ rfl rfl
  · refine am_Rn.ifF hc ?_
    refine am_Rn.op _ (10, [some (.ref 0), some (.int l1), none, none, none], [.ref 0], am_T0 q3.2) rfl rfl ?_
    refine am_Rn.op _ (11, [some (.ref 0), some (.int l1), none, none, none], [.int l1, .ref 0], am_T0 q3.2) rfl rfl ?_
    obtain ⟨q4, hq4, h⟩ := l2_b h
    refine am_Rn.cl _ none (am_T0 q4) rfl rfl (rfX7_measure (d + 0) N l1 q3.2 q4 hq4) ?_
    show am_Rn _ _ _ _ (14, [some (.ref 0), some (.int l1), none, none, none], [], am_T0 q4)
    refine am_Rn.op _ (15, [some (.ref 0), some (.int l1), none, none, none], [.ref 0], am_T0 q4) rfl rfl ?_
    refine am_Rn.op _ (16, [some (.ref 0), some (.int l1), none, none, none], [.int l1, .ref 0], am_T0 q4) rfl rfl ?_
    refine am_Rn.op _ (17, [some (.ref 0), some (.int l1), none, none, none], [.int 0, .int l1, .ref 0], am_T0 q4) rfl rfl ?_
    obtain ⟨q5, hq5, h⟩ := l2_b h
    refine am_Rn.cl _ (some (.int q5.1)) (am_T0 q5.2) rfl rfl (rfX7_leavingKinds (d + 2) N l1 0 q4 q5 hq5) ?_
    show am_Rn _ _ _ _ (20, [some (.ref 0), some (.int l1), none, none, none], [.int q5.1], am_T0 q5.2)
    refine am_Rn.op _ (21, [some (.ref 0), some (.int l1), some (.int q5.1), none, none], [], am_T0 q5.2) rfl rfl ?_
    refine am_Rn.op _ (22, [some (.ref 0), some (.int l1), some (.int q5.1), none, none], [.ref 0], am_T0 q5.2) rfl rfl ?_
    refine am_Rn.op _ (25, [some (.ref 0), some (.int l1), some (.int q5.1), none, none], [.ref 17], am_T0 q5.2) rfl rfl ?_
    refine am_Rn.op _ (26, [some (.ref 0), some (.int l1), some (.int q5.1), none, none], [.int l1, .ref 17], am_T0 q5.2) rfl rfl ?_
    obtain ⟨hb6, h⟩ := l2_n h
    refine am_Rn.iald (n := 8) rfl rfl hb6 ?_
    show am_Rn _ _ _ _ (27, [some (.ref 0), some (.int l1), some (.int q5.1), none, none], [.int (q5.2.1 17 (Int32.toNatClampNeg l1))], am_T0 q5.2)
    refine am_Rn.op _ (28, [some (.ref 0), some (.int l1), some (.int q5.1), some (.int (q5.2.1 17 (Int32.toNatClampNeg l1))), none], [], am_T0 q5.2) rfl rfl ?_
    refine am_Rn.op _ (29, [some (.ref 0), some (.int l1), some (.int q5.1), some (.int (q5.2.1 17 (Int32.toNatClampNeg l1))), none], [.int 0], am_T0 q5.2) rfl rfl ?_
    refine am_Rn.op _ (31, [some (.ref 0), some (.int l1), some (.int q5.1), some (.int (q5.2.1 17 (Int32.toNatClampNeg l1))), some (.int 0)], [], am_T0 q5.2) rfl rfl ?_
    obtain ⟨y7, hy7, h⟩ := l2_b h
    refine rfX7_idle_31 d N _ q5.1 ((q5.2.1 17 (Int32.toNatClampNeg l1)), 0, q5.2) y7 hy7 ?_ _
    cases h
    exact rfl
-- X7_look
def fX7_look_96 (N : Nat) (s0 : Int32) (S : St) : Option (Int32 × St) := some (s0, S)
set_option maxRecDepth 20000 in
theorem rfX7_look_96 (d N : Nat) (s0 : Int32) (S : St) (z : (Int32 × St)) (h : fX7_look_96 N s0 S = some z) (w0 : Option Value) (w1 : Option Value) (w2 : Option Value) : am_Rn (am_C (d + 2)) (am_ct 96) (am_rk 96) (some (.int z.1), am_T0 z.2) (96, [w0, w1, w2], [.int s0], am_T0 S) := by
  unfold fX7_look_96 at h
  cases h
  exact am_Rn.rt _ rfl rfl
def fX7_look (N : Nat) (l1 : Int32) (l2 : Int32) (S : St) : Option (Int32 × St) := (fX7_isRoutine N l1 S).bind (fun q1 => (if q1.1 = 0 then some ((-1), q1.2) else (if l2 = 0 then (if l1 < 0 ∨ 8 ≤ Int32.toNatClampNeg l1 then none else (fX5_length N (q1.2.2 (Int32.toNatClampNeg l1)) q1.2).bind (fun q3 => some (q3.1, q3.2))) else (if l2 = 1 then (if l1 < 0 ∨ 8 ≤ Int32.toNatClampNeg l1 then none else (fX5_calls N (q1.2.2 (Int32.toNatClampNeg l1)) q1.2).bind (fun q5 => some (q5.1, q5.2))) else (if l2 = 2 then (fX7_comesTo N l1 q1.2).bind (fun q6 => some (q6.1, q6.2)) else (if l2 = 3 then (if l1 < 0 ∨ 8 ≤ Int32.toNatClampNeg l1 then none else some ((q1.2.1 17 (Int32.toNatClampNeg l1)), q1.2)) else (if 100 ≤ l2 then (if l1 < 0 ∨ 8 ≤ Int32.toNatClampNeg l1 then none else (fX5_at N (q1.2.2 (Int32.toNatClampNeg l1)) (l2 - 100) q1.2).bind (fun q9 => fX7_look_96 N q9.1 q9.2)) else fX7_look_96 N (-1) q1.2)))))))
set_option maxRecDepth 20000 in
theorem rfX7_look (d N : Nat) (l1 : Int32) (l2 : Int32) (S : St) (z : (Int32 × St)) (h : fX7_look N l1 l2 S = some z) : am_C (d + 3) 96 [.ref 0, .int l1, .int l2] (am_T0 S) (some (.int z.1), am_T0 z.2) := by
  unfold fX7_look at h
  show am_Rn (am_C (d + 2)) (am_ct 96) (am_rk 96) (some (.int z.1), am_T0 z.2) (0, [some (.ref 0), some (.int l1), some (.int l2)], [], am_T0 S)
  refine am_Rn.op _ (1, [some (.ref 0), some (.int l1), some (.int l2)], [.int l1], am_T0 S) rfl rfl ?_
  obtain ⟨q1, hq1, h⟩ := l2_b h
  refine am_Rn.cl _ (some (.int q1.1)) (am_T0 q1.2) rfl rfl (rfX7_isRoutine (d + 1) N l1 S q1 hq1) ?_
  show am_Rn _ _ _ _ (4, [some (.ref 0), some (.int l1), some (.int l2)], [.int q1.1], am_T0 q1.2)
  refine am_Rn.op _ (if q1.1 = 0 then 7 else 9, [some (.ref 0), some (.int l1), some (.int l2)], [], am_T0 q1.2) rfl rfl ?_
  rcases l2_i h with ⟨hc, h⟩ | ⟨hc, h⟩
  · refine am_Rn.ifT hc ?_
    refine am_Rn.op _ (8, [some (.ref 0), some (.int l1), some (.int l2)], [.int (-1)], am_T0 q1.2) rfl rfl ?_
    cases h
    exact am_Rn.rt _ rfl rfl
  · refine am_Rn.ifF hc ?_
    refine am_Rn.op _ (10, [some (.ref 0), some (.int l1), some (.int l2)], [.int l2], am_T0 q1.2) rfl rfl ?_
    refine am_Rn.op _ ((if l2 = 0 then 40 else (if l2 = 1 then 50 else (if l2 = 2 then 60 else (if l2 = 3 then 66 else 73)))), [some (.ref 0), some (.int l1), some (.int l2)], [], am_T0 q1.2) rfl rfl ?_
    rcases l2_i h with ⟨hc, h⟩ | ⟨hc, h⟩
    · refine am_Rn.ifT hc ?_
      refine am_Rn.op _ (41, [some (.ref 0), some (.int l1), some (.int l2)], [.ref 0], am_T0 q1.2) rfl rfl ?_
      refine am_Rn.op _ (44, [some (.ref 0), some (.int l1), some (.int l2)], [.ref 16], am_T0 q1.2) rfl rfl ?_
      refine am_Rn.op _ (45, [some (.ref 0), some (.int l1), some (.int l2)], [.int l1, .ref 16], am_T0 q1.2) rfl rfl ?_
      obtain ⟨hb2, h⟩ := l2_n h
      refine am_Rn.aald rfl hb2 ?_
      show am_Rn _ _ _ _ (46, [some (.ref 0), some (.int l1), some (.int l2)], [.ref (TA (q1.2.2 (Int32.toNatClampNeg l1)))], am_T0 q1.2)
      obtain ⟨q3, hq3, h⟩ := l2_b h
      refine am_Rn.cl _ (some (.int q3.1)) (am_T0 q3.2) rfl (o_clv rfl rfl rfl (l2_isO (q1.2.2 (Int32.toNatClampNeg l1)) q1.2)) (rfX5_length (d + 1) N (q1.2.2 (Int32.toNatClampNeg l1)) q1.2 q3 hq3) ?_
      show am_Rn _ _ _ _ (49, [some (.ref 0), some (.int l1), some (.int l2)], [.int q3.1], am_T0 q3.2)
      cases h
      exact am_Rn.rt _ rfl rfl
    · refine am_Rn.ifF hc ?_
      rcases l2_i h with ⟨hc, h⟩ | ⟨hc, h⟩
      · refine am_Rn.ifT hc ?_
        refine am_Rn.op _ (51, [some (.ref 0), some (.int l1), some (.int l2)], [.ref 0], am_T0 q1.2) rfl rfl ?_
        refine am_Rn.op _ (54, [some (.ref 0), some (.int l1), some (.int l2)], [.ref 16], am_T0 q1.2) rfl rfl ?_
        refine am_Rn.op _ (55, [some (.ref 0), some (.int l1), some (.int l2)], [.int l1, .ref 16], am_T0 q1.2) rfl rfl ?_
        obtain ⟨hb4, h⟩ := l2_n h
        refine am_Rn.aald rfl hb4 ?_
        show am_Rn _ _ _ _ (56, [some (.ref 0), some (.int l1), some (.int l2)], [.ref (TA (q1.2.2 (Int32.toNatClampNeg l1)))], am_T0 q1.2)
        obtain ⟨q5, hq5, h⟩ := l2_b h
        refine am_Rn.cl _ (some (.int q5.1)) (am_T0 q5.2) rfl (o_clv rfl rfl rfl (l2_isO (q1.2.2 (Int32.toNatClampNeg l1)) q1.2)) (rfX5_calls (d + 1) N (q1.2.2 (Int32.toNatClampNeg l1)) q1.2 q5 hq5) ?_
        show am_Rn _ _ _ _ (59, [some (.ref 0), some (.int l1), some (.int l2)], [.int q5.1], am_T0 q5.2)
        cases h
        exact am_Rn.rt _ rfl rfl
      · refine am_Rn.ifF hc ?_
        rcases l2_i h with ⟨hc, h⟩ | ⟨hc, h⟩
        · refine am_Rn.ifT hc ?_
          refine am_Rn.op _ (61, [some (.ref 0), some (.int l1), some (.int l2)], [.ref 0], am_T0 q1.2) rfl rfl ?_
          refine am_Rn.op _ (62, [some (.ref 0), some (.int l1), some (.int l2)], [.int l1, .ref 0], am_T0 q1.2) rfl rfl ?_
          obtain ⟨q6, hq6, h⟩ := l2_b h
          refine am_Rn.cl _ (some (.int q6.1)) (am_T0 q6.2) rfl rfl (rfX7_comesTo (d + 0) N l1 q1.2 q6 hq6) ?_
          show am_Rn _ _ _ _ (65, [some (.ref 0), some (.int l1), some (.int l2)], [.int q6.1], am_T0 q6.2)
          cases h
          exact am_Rn.rt _ rfl rfl
        · refine am_Rn.ifF hc ?_
          rcases l2_i h with ⟨hc, h⟩ | ⟨hc, h⟩
          · refine am_Rn.ifT hc ?_
            refine am_Rn.op _ (67, [some (.ref 0), some (.int l1), some (.int l2)], [.ref 0], am_T0 q1.2) rfl rfl ?_
            refine am_Rn.op _ (70, [some (.ref 0), some (.int l1), some (.int l2)], [.ref 17], am_T0 q1.2) rfl rfl ?_
            refine am_Rn.op _ (71, [some (.ref 0), some (.int l1), some (.int l2)], [.int l1, .ref 17], am_T0 q1.2) rfl rfl ?_
            obtain ⟨hb7, h⟩ := l2_n h
            refine am_Rn.iald (n := 8) rfl rfl hb7 ?_
            show am_Rn _ _ _ _ (72, [some (.ref 0), some (.int l1), some (.int l2)], [.int (q1.2.1 17 (Int32.toNatClampNeg l1))], am_T0 q1.2)
            cases h
            exact am_Rn.rt _ rfl rfl
          · refine am_Rn.ifF hc ?_
            refine am_Rn.op _ (74, [some (.ref 0), some (.int l1), some (.int l2)], [.int l2], am_T0 q1.2) rfl rfl ?_
            refine am_Rn.op _ (76, [some (.ref 0), some (.int l1), some (.int l2)], [.int 100, .int l2], am_T0 q1.2) rfl rfl ?_
            refine am_Rn.op _ (if 100 ≤ l2 then 83 else 79, [some (.ref 0), some (.int l1), some (.int l2)], [], am_T0 q1.2) rfl rfl ?_
            rcases l2_i h with ⟨hc, h⟩ | ⟨hc, h⟩
            · refine am_Rn.ifT hc ?_
              refine am_Rn.op _ (84, [some (.ref 0), some (.int l1), some (.int l2)], [.ref 0], am_T0 q1.2) rfl rfl ?_
              refine am_Rn.op _ (87, [some (.ref 0), some (.int l1), some (.int l2)], [.ref 16], am_T0 q1.2) rfl rfl ?_
              refine am_Rn.op _ (88, [some (.ref 0), some (.int l1), some (.int l2)], [.int l1, .ref 16], am_T0 q1.2) rfl rfl ?_
              obtain ⟨hb8, h⟩ := l2_n h
              refine am_Rn.aald rfl hb8 ?_
              show am_Rn _ _ _ _ (89, [some (.ref 0), some (.int l1), some (.int l2)], [.ref (TA (q1.2.2 (Int32.toNatClampNeg l1)))], am_T0 q1.2)
              refine am_Rn.op _ (90, [some (.ref 0), some (.int l1), some (.int l2)], [.int l2, .ref (TA (q1.2.2 (Int32.toNatClampNeg l1)))], am_T0 q1.2) rfl rfl ?_
              refine am_Rn.op _ (92, [some (.ref 0), some (.int l1), some (.int l2)], [.int 100, .int l2, .ref (TA (q1.2.2 (Int32.toNatClampNeg l1)))], am_T0 q1.2) rfl rfl ?_
              refine am_Rn.op _ (93, [some (.ref 0), some (.int l1), some (.int l2)], [.int (l2 - 100), .ref (TA (q1.2.2 (Int32.toNatClampNeg l1)))], am_T0 q1.2) rfl rfl ?_
              obtain ⟨q9, hq9, h⟩ := l2_b h
              refine am_Rn.cl _ (some (.int q9.1)) (am_T0 q9.2) rfl (o_clv rfl rfl rfl (l2_isO (q1.2.2 (Int32.toNatClampNeg l1)) q1.2)) (rfX5_at (d + 1) N (q1.2.2 (Int32.toNatClampNeg l1)) (l2 - 100) q1.2 q9 hq9) ?_
              show am_Rn _ _ _ _ (96, [some (.ref 0), some (.int l1), some (.int l2)], [.int q9.1], am_T0 q9.2)
              exact rfX7_look_96 d N q9.1 q9.2 _ h _ _ _
            · refine am_Rn.ifF hc ?_
              refine am_Rn.op _ (80, [some (.ref 0), some (.int l1), some (.int l2)], [.int (-1)], am_T0 q1.2) rfl rfl ?_
              refine am_Rn.op _ (96, [some (.ref 0), some (.int l1), some (.int l2)], [.int (-1)], am_T0 q1.2) rfl rfl ?_
              exact rfX7_look_96 d N (-1) q1.2 _ h _ _ _
-- X7_is
def fX7_is (N : Nat) (l1 : Int32) (l2 : Int32) (S : St) : Option (Int32 × St) := (fX7_isKind N l1 S).bind (fun q1 => (if q1.1 = 0 then some ((-1), q1.2) else (fX7_isKind N l2 q1.2).bind (fun q2 => (if q2.1 = 0 then some ((-1), q2.2) else (fX1_above N l1 q2.2).bind (fun q3 => (fX7_has N q3.1 l2 q3.2).bind (fun q4 => (fX7_bit N q4.1 q4.2).bind (fun q5 => some (q5.1, q5.2))))))))
set_option maxRecDepth 20000 in
theorem rfX7_is (d N : Nat) (l1 : Int32) (l2 : Int32) (S : St) (z : (Int32 × St)) (h : fX7_is N l1 l2 S = some z) : am_C (d + 3) 97 [.ref 0, .int l1, .int l2] (am_T0 S) (some (.int z.1), am_T0 z.2) := by
  unfold fX7_is at h
  show am_Rn (am_C (d + 2)) (am_ct 97) (am_rk 97) (some (.int z.1), am_T0 z.2) (0, [some (.ref 0), some (.int l1), some (.int l2)], [], am_T0 S)
  refine am_Rn.op _ (1, [some (.ref 0), some (.int l1), some (.int l2)], [.int l1], am_T0 S) rfl rfl ?_
  obtain ⟨q1, hq1, h⟩ := l2_b h
  refine am_Rn.cl _ (some (.int q1.1)) (am_T0 q1.2) rfl rfl (rfX7_isKind (d + 1) N l1 S q1 hq1) ?_
  show am_Rn _ _ _ _ (4, [some (.ref 0), some (.int l1), some (.int l2)], [.int q1.1], am_T0 q1.2)
  refine am_Rn.op _ (if q1.1 = 0 then 14 else 7, [some (.ref 0), some (.int l1), some (.int l2)], [], am_T0 q1.2) rfl rfl ?_
  rcases l2_i h with ⟨hc, h⟩ | ⟨hc, h⟩
  · refine am_Rn.ifT hc ?_
    refine am_Rn.op _ (15, [some (.ref 0), some (.int l1), some (.int l2)], [.int (-1)], am_T0 q1.2) rfl rfl ?_
    cases h
    exact am_Rn.rt _ rfl rfl
  · refine am_Rn.ifF hc ?_
    refine am_Rn.op _ (8, [some (.ref 0), some (.int l1), some (.int l2)], [.int l2], am_T0 q1.2) rfl rfl ?_
    obtain ⟨q2, hq2, h⟩ := l2_b h
    refine am_Rn.cl _ (some (.int q2.1)) (am_T0 q2.2) rfl rfl (rfX7_isKind (d + 1) N l2 q1.2 q2 hq2) ?_
    show am_Rn _ _ _ _ (11, [some (.ref 0), some (.int l1), some (.int l2)], [.int q2.1], am_T0 q2.2)
    refine am_Rn.op _ (if q2.1 = 0 then 14 else 16, [some (.ref 0), some (.int l1), some (.int l2)], [], am_T0 q2.2) rfl rfl ?_
    rcases l2_i h with ⟨hc, h⟩ | ⟨hc, h⟩
    · refine am_Rn.ifT hc ?_
      refine am_Rn.op _ (15, [some (.ref 0), some (.int l1), some (.int l2)], [.int (-1)], am_T0 q2.2) rfl rfl ?_
      cases h
      exact am_Rn.rt _ rfl rfl
    · refine am_Rn.ifF hc ?_
      refine am_Rn.op _ (17, [some (.ref 0), some (.int l1), some (.int l2)], [.ref 0], am_T0 q2.2) rfl rfl ?_
      refine am_Rn.op _ (20, [some (.ref 0), some (.int l1), some (.int l2)], [.ref 13], am_T0 q2.2) rfl rfl ?_
      refine am_Rn.op _ (21, [some (.ref 0), some (.int l1), some (.int l2)], [.int l1, .ref 13], am_T0 q2.2) rfl rfl ?_
      obtain ⟨q3, hq3, h⟩ := l2_b h
      refine am_Rn.cl _ (some (.int q3.1)) (am_T0 q3.2) rfl rfl (rfX1_above (d + 0) N l1 q2.2 q3 hq3) ?_
      show am_Rn _ _ _ _ (24, [some (.ref 0), some (.int l1), some (.int l2)], [.int q3.1], am_T0 q3.2)
      refine am_Rn.op _ (25, [some (.ref 0), some (.int l1), some (.int l2)], [.int l2, .int q3.1], am_T0 q3.2) rfl rfl ?_
      obtain ⟨q4, hq4, h⟩ := l2_b h
      refine am_Rn.cl _ (some (.int q4.1)) (am_T0 q4.2) rfl rfl (rfX7_has (d + 1) N q3.1 l2 q3.2 q4 hq4) ?_
      show am_Rn _ _ _ _ (28, [some (.ref 0), some (.int l1), some (.int l2)], [.int q4.1], am_T0 q4.2)
      obtain ⟨q5, hq5, h⟩ := l2_b h
      refine am_Rn.cl _ (some (.int q5.1)) (am_T0 q5.2) rfl rfl (rfX7_bit (d + 1) N q4.1 q4.2 q5 hq5) ?_
      show am_Rn _ _ _ _ (31, [some (.ref 0), some (.int l1), some (.int l2)], [.int q5.1], am_T0 q5.2)
      cases h
      exact am_Rn.rt _ rfl rfl
-- X7_fault
def fX7_fault (N : Nat) (l1 : Int32) (S : St) : Option (Int32 × St) := (if l1 = 0 then some ((S.1 0 9), S) else (if l1 = 1 then some ((S.1 0 10), S) else (if l1 = 2 then (fX4_size N S).bind (fun q1 => some (q1.1, q1.2)) else some ((-1), S))))
set_option maxRecDepth 20000 in
theorem rfX7_fault (d N : Nat) (l1 : Int32) (S : St) (z : (Int32 × St)) (h : fX7_fault N l1 S = some z) : am_C (d + 2) 98 [.ref 0, .int l1] (am_T0 S) (some (.int z.1), am_T0 z.2) := by
  unfold fX7_fault at h
  show am_Rn (am_C (d + 1)) (am_ct 98) (am_rk 98) (some (.int z.1), am_T0 z.2) (0, [some (.ref 0), some (.int l1)], [], am_T0 S)
  refine am_Rn.op _ (1, [some (.ref 0), some (.int l1)], [.int l1], am_T0 S) rfl rfl ?_
  refine am_Rn.op _ ((if l1 = 0 then 28 else (if l1 = 1 then 33 else (if l1 = 2 then 38 else 46))), [some (.ref 0), some (.int l1)], [], am_T0 S) rfl rfl ?_
  rcases l2_i h with ⟨hc, h⟩ | ⟨hc, h⟩
  · refine am_Rn.ifT hc ?_
    refine am_Rn.op _ (29, [some (.ref 0), some (.int l1)], [.ref 0], am_T0 S) rfl rfl ?_
    refine am_Rn.op _ (32, [some (.ref 0), some (.int l1)], [.int (S.1 0 9)], am_T0 S) rfl rfl ?_
    cases h
    exact am_Rn.rt _ rfl rfl
  · refine am_Rn.ifF hc ?_
    rcases l2_i h with ⟨hc, h⟩ | ⟨hc, h⟩
    · refine am_Rn.ifT hc ?_
      refine am_Rn.op _ (34, [some (.ref 0), some (.int l1)], [.ref 0], am_T0 S) rfl rfl ?_
      refine am_Rn.op _ (37, [some (.ref 0), some (.int l1)], [.int (S.1 0 10)], am_T0 S) rfl rfl ?_
      cases h
      exact am_Rn.rt _ rfl rfl
    · refine am_Rn.ifF hc ?_
      rcases l2_i h with ⟨hc, h⟩ | ⟨hc, h⟩
      · refine am_Rn.ifT hc ?_
        refine am_Rn.op _ (39, [some (.ref 0), some (.int l1)], [.ref 0], am_T0 S) rfl rfl ?_
        refine am_Rn.op _ (42, [some (.ref 0), some (.int l1)], [.ref 1], am_T0 S) rfl rfl ?_
        obtain ⟨q1, hq1, h⟩ := l2_b h
        refine am_Rn.cl _ (some (.int q1.1)) (am_T0 q1.2) rfl rfl (rfX4_size (d + 0) N S q1 hq1) ?_
        show am_Rn _ _ _ _ (45, [some (.ref 0), some (.int l1)], [.int q1.1], am_T0 q1.2)
        cases h
        exact am_Rn.rt _ rfl rfl
      · refine am_Rn.ifF hc ?_
        refine am_Rn.op _ (47, [some (.ref 0), some (.int l1)], [.int (-1)], am_T0 S) rfl rfl ?_
        cases h
        exact am_Rn.rt _ rfl rfl
-- X8_isKind
def fX8_isKind_15 (N : Nat) (s0 : Int32) (S : St) : Option (Int32 × St) := (if s0 = 0 ∨ s0 = 1 then some (s0, S) else none)
set_option maxRecDepth 20000 in
theorem rfX8_isKind_15 (d N : Nat) (s0 : Int32) (S : St) (z : (Int32 × St)) (h : fX8_isKind_15 N s0 S = some z) (w0 : Option Value) : am_Rn (am_C (d + 0)) (am_ct 113) (am_rk 113) (some (.int z.1), am_T0 z.2) (15, [w0], [.int s0], am_T0 S) := by
  unfold fX8_isKind_15 at h
  obtain ⟨hb1, h⟩ := l2_y h
  cases h
  exact am_Rn.rt _ rfl (l2_rz hb1)
def fX8_isKind (N : Nat) (l0 : Int32) (S : St) : Option (Int32 × St) := (if l0 < 0 then fX8_isKind_15 N 0 S else (if 6 ≤ l0 then fX8_isKind_15 N 0 S else fX8_isKind_15 N 1 S))
set_option maxRecDepth 20000 in
theorem rfX8_isKind (d N : Nat) (l0 : Int32) (S : St) (z : (Int32 × St)) (h : fX8_isKind N l0 S = some z) : am_C (d + 1) 113 [.int l0] (am_T0 S) (some (.int z.1), am_T0 z.2) := by
  unfold fX8_isKind at h
  show am_Rn (am_C (d + 0)) (am_ct 113) (am_rk 113) (some (.int z.1), am_T0 z.2) (0, [some (.int l0)], [], am_T0 S)
  refine am_Rn.op _ (1, [some (.int l0)], [.int l0], am_T0 S) rfl rfl ?_
  refine am_Rn.op _ (if l0 < 0 then 14 else 4, [some (.int l0)], [], am_T0 S) rfl rfl ?_
  rcases l2_i h with ⟨hc, h⟩ | ⟨hc, h⟩
  · refine am_Rn.ifT hc ?_
    refine am_Rn.op _ (15, [some (.int l0)], [.int 0], am_T0 S) rfl rfl ?_
    exact rfX8_isKind_15 d N 0 S _ h _
  · refine am_Rn.ifF hc ?_
    refine am_Rn.op _ (5, [some (.int l0)], [.int l0], am_T0 S) rfl rfl ?_
    refine am_Rn.op _ (7, [some (.int l0)], [.int 6, .int l0], am_T0 S) rfl rfl ?_
    refine am_Rn.op _ (if 6 ≤ l0 then 14 else 10, [some (.int l0)], [], am_T0 S) rfl rfl ?_
    rcases l2_i h with ⟨hc, h⟩ | ⟨hc, h⟩
    · refine am_Rn.ifT hc ?_
      refine am_Rn.op _ (15, [some (.int l0)], [.int 0], am_T0 S) rfl rfl ?_
      exact rfX8_isKind_15 d N 0 S _ h _
    · refine am_Rn.ifF hc ?_
      refine am_Rn.op _ (11, [some (.int l0)], [.int 1], am_T0 S) rfl rfl ?_
      refine am_Rn.op _ (15, [some (.int l0)], [.int 1], am_T0 S) rfl rfl ?_
      exact rfX8_isKind_15 d N 1 S _ h _
-- X8_isOf
def PfX8_isOf_2 (d : Nat) (res : Option Value × am_S) (l2 : Int32) (x : Int32 × St) : Prop := ∀ (w1 : Option Value), am_Rn (am_C d) (am_ct 114) (am_rk 114) res (2, [some (.ref 128), w1, some (.int l2), some (.int x.1)], [], am_T0 x.2)
def QfX8_isOf_2 (d : Nat) (res : Option Value × am_S) (l2 : Int32) (y : Int32 × St) : Prop := ∀ (w0 w1 : Option Value), am_Rn (am_C d) (am_ct 114) (am_rk 114) res (22, [w0, w1, some (.int l2), some (.int y.1)], [], am_T0 y.2)
def fX8_isOf_32 (N : Nat) (s0 : Int32) (S : St) : Option (Int32 × St) := (if s0 = 0 ∨ s0 = 1 then some (s0, S) else none)
set_option maxRecDepth 20000 in
theorem rfX8_isOf_32 (d N : Nat) (s0 : Int32) (S : St) (z : (Int32 × St)) (h : fX8_isOf_32 N s0 S = some z) (w0 : Option Value) (w1 : Option Value) (w2 : Option Value) (w3 : Option Value) : am_Rn (am_C (d + 0)) (am_ct 114) (am_rk 114) (some (.int z.1), am_T0 z.2) (32, [w0, w1, w2, w3], [.int s0], am_T0 S) := by
  unfold fX8_isOf_32 at h
  obtain ⟨hb1, h⟩ := l2_y h
  cases h
  exact am_Rn.rt _ rfl (l2_rz hb1)
def bfX8_isOf_2 (N : Nat) (l2 : Int32) (x : Int32 × St) : Option ((Int32 × St) ⊕ (Int32 × St)) := (if x.1 = (-1) then some (.inr (x.1, x.2)) else (if x.1 = l2 then some (.inr (x.1, x.2)) else (if x.1 < 0 ∨ 6 ≤ Int32.toNatClampNeg x.1 then none else some (.inl ((x.2.1 129 (Int32.toNatClampNeg x.1)), x.2)))))
def fX8_isOf_2 (N : Nat) (l2 : Int32) (x : Int32 × St) : Option (Int32 × St) := whl N (bfX8_isOf_2 N l2 ) x
set_option maxRecDepth 20000 in
theorem rbfX8_isOf_2 (d N : Nat) (res : Option Value × am_S) (l2 : Int32) (x : Int32 × St) (z : (Int32 × St) ⊕ (Int32 × St)) (h : bfX8_isOf_2 N l2 x = some z) (hz : Sum.elim (PfX8_isOf_2 (d + 0) res l2 ) (QfX8_isOf_2 (d + 0) res l2 ) z) : PfX8_isOf_2 (d + 0) res l2 x := by
  unfold bfX8_isOf_2 at h
  show ∀ (w1 : Option Value), am_Rn (am_C (d + 0)) (am_ct 114) (am_rk 114) res (2, [some (.ref 128), w1, some (.int l2), some (.int x.1)], [], am_T0 x.2)
  intro w1
  refine am_Rn.op _ (3, [some (.ref 128), w1, some (.int l2), some (.int x.1)], [.int x.1], am_T0 x.2) rfl rfl ?_
  refine am_Rn.op _ (4, [some (.ref 128), w1, some (.int l2), some (.int x.1)], [.int (-1), .int x.1], am_T0 x.2) rfl rfl ?_
  refine am_Rn.op _ (if x.1 = (-1) then 22 else 7, [some (.ref 128), w1, some (.int l2), some (.int x.1)], [], am_T0 x.2) rfl rfl ?_
  rcases l2_i h with ⟨hc, h⟩ | ⟨hc, h⟩
  · refine am_Rn.ifT hc ?_
    cases h
    exact hz _ _
  · refine am_Rn.ifF hc ?_
    refine am_Rn.op _ (8, [some (.ref 128), w1, some (.int l2), some (.int x.1)], [.int x.1], am_T0 x.2) rfl rfl ?_
    refine am_Rn.op _ (9, [some (.ref 128), w1, some (.int l2), some (.int x.1)], [.int l2, .int x.1], am_T0 x.2) rfl rfl ?_
    refine am_Rn.op _ (if x.1 = l2 then 22 else 12, [some (.ref 128), w1, some (.int l2), some (.int x.1)], [], am_T0 x.2) rfl rfl ?_
    rcases l2_i h with ⟨hc, h⟩ | ⟨hc, h⟩
    · refine am_Rn.ifT hc ?_
      cases h
      exact hz _ _
    · refine am_Rn.ifF hc ?_
      refine am_Rn.op _ (13, [some (.ref 128), w1, some (.int l2), some (.int x.1)], [.ref 128], am_T0 x.2) rfl rfl ?_
      refine am_Rn.op _ (16, [some (.ref 128), w1, some (.int l2), some (.int x.1)], [.ref 129], am_T0 x.2) rfl rfl ?_
      refine am_Rn.op _ (17, [some (.ref 128), w1, some (.int l2), some (.int x.1)], [.int x.1, .ref 129], am_T0 x.2) rfl rfl ?_
      obtain ⟨hb2, h⟩ := l2_n h
      refine am_Rn.iald (n := 6) rfl rfl hb2 ?_
      show am_Rn _ _ _ _ (18, [some (.ref 128), w1, some (.int l2), some (.int x.1)], [.int (x.2.1 129 (Int32.toNatClampNeg x.1))], am_T0 x.2)
      refine am_Rn.op _ (19, [some (.ref 128), w1, some (.int l2), some (.int (x.2.1 129 (Int32.toNatClampNeg x.1)))], [], am_T0 x.2) rfl rfl ?_
      refine am_Rn.op _ (2, [some (.ref 128), w1, some (.int l2), some (.int (x.2.1 129 (Int32.toNatClampNeg x.1)))], [], am_T0 x.2) rfl rfl ?_
      cases h
      exact hz _
theorem rfX8_isOf_2 (d N : Nat) (res : Option Value × am_S) (l2 : Int32) (x : Int32 × St) (y : Int32 × St) (h : fX8_isOf_2 N l2 x = some y) (hq : QfX8_isOf_2 (d + 0) res l2 y) : PfX8_isOf_2 (d + 0) res l2 x := whl_ind _ _ (fun x z => rbfX8_isOf_2 d N res l2 x z) N x y h hq
def fX8_isOf (N : Nat) (l1 : Int32) (l2 : Int32) (S : St) : Option (Int32 × St) := (fX8_isOf_2 N l2 (l1, S)).bind (fun y3 => (if y3.1 = l2 then fX8_isOf_32 N 1 y3.2 else fX8_isOf_32 N 0 y3.2))
set_option maxRecDepth 20000 in
theorem rfX8_isOf (d N : Nat) (l1 : Int32) (l2 : Int32) (S : St) (z : (Int32 × St)) (h : fX8_isOf N l1 l2 S = some z) : am_C (d + 1) 114 [.ref 128, .int l1, .int l2] (am_T0 S) (some (.int z.1), am_T0 z.2) := by
  unfold fX8_isOf at h
  show am_Rn (am_C (d + 0)) (am_ct 114) (am_rk 114) (some (.int z.1), am_T0 z.2) (0, [some (.ref 128), some (.int l1), some (.int l2), none], [], am_T0 S)
  refine am_Rn.op _ (1, [some (.ref 128), some (.int l1), some (.int l2), none], [.int l1], am_T0 S) rfl rfl ?_
  refine am_Rn.op _ (2, [some (.ref 128), some (.int l1), some (.int l2), some (.int l1)], [], am_T0 S) rfl rfl ?_
  obtain ⟨y3, hy3, h⟩ := l2_b h
  refine rfX8_isOf_2 d N _ l2 (l1, S) y3 hy3 ?_ _
  intro w4 w5
  show am_Rn _ _ _ _ (22, [w4, w5, some (.int l2), some (.int y3.1)], [], am_T0 y3.2)
  refine am_Rn.op _ (23, [w4, w5, some (.int l2), some (.int y3.1)], [.int y3.1], am_T0 y3.2) rfl rfl ?_
  refine am_Rn.op _ (24, [w4, w5, some (.int l2), some (.int y3.1)], [.int l2, .int y3.1], am_T0 y3.2) rfl rfl ?_
  refine am_Rn.op _ (if y3.1 = l2 then 27 else 31, [w4, w5, some (.int l2), some (.int y3.1)], [], am_T0 y3.2) rfl rfl ?_
  rcases l2_i h with ⟨hc, h⟩ | ⟨hc, h⟩
  · refine am_Rn.ifT hc ?_
    refine am_Rn.op _ (28, [w4, w5, some (.int l2), some (.int y3.1)], [.int 1], am_T0 y3.2) rfl rfl ?_
    refine am_Rn.op _ (32, [w4, w5, some (.int l2), some (.int y3.1)], [.int 1], am_T0 y3.2) rfl rfl ?_
    exact rfX8_isOf_32 d N 1 y3.2 _ h _ _ _ _
  · refine am_Rn.ifF hc ?_
    refine am_Rn.op _ (32, [w4, w5, some (.int l2), some (.int y3.1)], [.int 0], am_T0 y3.2) rfl rfl ?_
    exact rfX8_isOf_32 d N 0 y3.2 _ h _ _ _ _
-- X8_under
def fX8_under_35 (N : Nat) (l1 : Int32) (l2 : Int32) (S : St) : Option (Int32 × St) := (if l1 < 0 ∨ 6 ≤ Int32.toNatClampNeg l1 then none else some (1, (st_i (st_i S 129 (Int32.toNatClampNeg l1) l2) 128 29 0)))
set_option maxRecDepth 20000 in
theorem rfX8_under_35 (d N : Nat) (l1 : Int32) (l2 : Int32) (S : St) (z : (Int32 × St)) (h : fX8_under_35 N l1 l2 S = some z) : am_Rn (am_C (d + 1)) (am_ct 115) (am_rk 115) (some (.int z.1), am_T0 z.2) (35, [some (.ref 128), some (.int l1), some (.int l2)], [], am_T0 S) := by
  unfold fX8_under_35 at h
  refine am_Rn.op _ (36, [some (.ref 128), some (.int l1), some (.int l2)], [.ref 128], am_T0 S) rfl rfl ?_
  refine am_Rn.op _ (39, [some (.ref 128), some (.int l1), some (.int l2)], [.ref 129], am_T0 S) rfl rfl ?_
  refine am_Rn.op _ (40, [some (.ref 128), some (.int l1), some (.int l2)], [.int l1, .ref 129], am_T0 S) rfl rfl ?_
  refine am_Rn.op _ (41, [some (.ref 128), some (.int l1), some (.int l2)], [.int l2, .int l1, .ref 129], am_T0 S) rfl rfl ?_
  obtain ⟨hb1, h⟩ := l2_n h
  refine am_Rn.iast (n := 6) rfl rfl hb1 ?_
  show am_Rn _ _ _ _ (42, [some (.ref 128), some (.int l1), some (.int l2)], [], am_T0 (st_i S 129 (Int32.toNatClampNeg l1) l2))
  refine am_Rn.op _ (43, [some (.ref 128), some (.int l1), some (.int l2)], [.ref 128], am_T0 (st_i S 129 (Int32.toNatClampNeg l1) l2)) rfl rfl ?_
  refine am_Rn.op _ (44, [some (.ref 128), some (.int l1), some (.int l2)], [.int 0, .ref 128], am_T0 (st_i S 129 (Int32.toNatClampNeg l1) l2)) rfl rfl ?_
  refine am_Rn.op _ (47, [some (.ref 128), some (.int l1), some (.int l2)], [], am_T0 (st_i (st_i S 129 (Int32.toNatClampNeg l1) l2) 128 29 0)) rfl rfl ?_
  refine am_Rn.op _ (48, [some (.ref 128), some (.int l1), some (.int l2)], [.int 1], am_T0 (st_i (st_i S 129 (Int32.toNatClampNeg l1) l2) 128 29 0)) rfl rfl ?_
  cases h
  exact am_Rn.rt _ rfl rfl
def fX8_under_19 (N : Nat) (l1 : Int32) (l2 : Int32) (S : St) : Option (Int32 × St) := (if l2 = (-1) then fX8_under_35 N l1 l2 S else (fX8_isOf N l2 l1 S).bind (fun q2 => (if q2.1 = 0 then fX8_under_35 N l1 l2 q2.2 else some (0, q2.2))))
set_option maxRecDepth 20000 in
theorem rfX8_under_19 (d N : Nat) (l1 : Int32) (l2 : Int32) (S : St) (z : (Int32 × St)) (h : fX8_under_19 N l1 l2 S = some z) : am_Rn (am_C (d + 1)) (am_ct 115) (am_rk 115) (some (.int z.1), am_T0 z.2) (19, [some (.ref 128), some (.int l1), some (.int l2)], [], am_T0 S) := by
  unfold fX8_under_19 at h
  refine am_Rn.op _ (20, [some (.ref 128), some (.int l1), some (.int l2)], [.int l2], am_T0 S) rfl rfl ?_
  refine am_Rn.op _ (21, [some (.ref 128), some (.int l1), some (.int l2)], [.int (-1), .int l2], am_T0 S) rfl rfl ?_
  refine am_Rn.op _ (if l2 = (-1) then 35 else 24, [some (.ref 128), some (.int l1), some (.int l2)], [], am_T0 S) rfl rfl ?_
  rcases l2_i h with ⟨hc, h⟩ | ⟨hc, h⟩
  · refine am_Rn.ifT hc ?_
    exact rfX8_under_35 d N l1 l2 S _ h 
  · refine am_Rn.ifF hc ?_
    refine am_Rn.op _ (25, [some (.ref 128), some (.int l1), some (.int l2)], [.ref 128], am_T0 S) rfl rfl ?_
    refine am_Rn.op _ (26, [some (.ref 128), some (.int l1), some (.int l2)], [.int l2, .ref 128], am_T0 S) rfl rfl ?_
    refine am_Rn.op _ (27, [some (.ref 128), some (.int l1), some (.int l2)], [.int l1, .int l2, .ref 128], am_T0 S) rfl rfl ?_
    obtain ⟨q2, hq2, h⟩ := l2_b h
    refine am_Rn.cl _ (some (.int q2.1)) (am_T0 q2.2) rfl rfl (rfX8_isOf (d + 0) N l2 l1 S q2 hq2) ?_
    show am_Rn _ _ _ _ (30, [some (.ref 128), some (.int l1), some (.int l2)], [.int q2.1], am_T0 q2.2)
    refine am_Rn.op _ (if q2.1 = 0 then 35 else 33, [some (.ref 128), some (.int l1), some (.int l2)], [], am_T0 q2.2) rfl rfl ?_
    rcases l2_i h with ⟨hc, h⟩ | ⟨hc, h⟩
    · refine am_Rn.ifT hc ?_
      exact rfX8_under_35 d N l1 l2 q2.2 _ h 
    · refine am_Rn.ifF hc ?_
      refine am_Rn.op _ (34, [some (.ref 128), some (.int l1), some (.int l2)], [.int 0], am_T0 q2.2) rfl rfl ?_
      cases h
      exact am_Rn.rt _ rfl rfl
def fX8_under (N : Nat) (l1 : Int32) (l2 : Int32) (S : St) : Option (Int32 × St) := (fX8_isKind N l1 S).bind (fun q3 => (if q3.1 = 0 then some (0, q3.2) else (if l2 = (-1) then fX8_under_19 N l1 l2 q3.2 else (fX8_isKind N l2 q3.2).bind (fun q4 => (if q4.1 = 0 then some (0, q4.2) else fX8_under_19 N l1 l2 q4.2)))))
set_option maxRecDepth 20000 in
theorem rfX8_under (d N : Nat) (l1 : Int32) (l2 : Int32) (S : St) (z : (Int32 × St)) (h : fX8_under N l1 l2 S = some z) : am_C (d + 2) 115 [.ref 128, .int l1, .int l2] (am_T0 S) (some (.int z.1), am_T0 z.2) := by
  unfold fX8_under at h
  show am_Rn (am_C (d + 1)) (am_ct 115) (am_rk 115) (some (.int z.1), am_T0 z.2) (0, [some (.ref 128), some (.int l1), some (.int l2)], [], am_T0 S)
  refine am_Rn.op _ (1, [some (.ref 128), some (.int l1), some (.int l2)], [.int l1], am_T0 S) rfl rfl ?_
  obtain ⟨q3, hq3, h⟩ := l2_b h
  refine am_Rn.cl _ (some (.int q3.1)) (am_T0 q3.2) rfl rfl (rfX8_isKind (d + 0) N l1 S q3 hq3) ?_
  show am_Rn _ _ _ _ (4, [some (.ref 128), some (.int l1), some (.int l2)], [.int q3.1], am_T0 q3.2)
  refine am_Rn.op _ (if q3.1 = 0 then 33 else 7, [some (.ref 128), some (.int l1), some (.int l2)], [], am_T0 q3.2) rfl rfl ?_
  rcases l2_i h with ⟨hc, h⟩ | ⟨hc, h⟩
  · refine am_Rn.ifT hc ?_
    refine am_Rn.op _ (34, [some (.ref 128), some (.int l1), some (.int l2)], [.int 0], am_T0 q3.2) rfl rfl ?_
    cases h
    exact am_Rn.rt _ rfl rfl
  · refine am_Rn.ifF hc ?_
    refine am_Rn.op _ (8, [some (.ref 128), some (.int l1), some (.int l2)], [.int l2], am_T0 q3.2) rfl rfl ?_
    refine am_Rn.op _ (9, [some (.ref 128), some (.int l1), some (.int l2)], [.int (-1), .int l2], am_T0 q3.2) rfl rfl ?_
    refine am_Rn.op _ (if l2 = (-1) then 19 else 12, [some (.ref 128), some (.int l1), some (.int l2)], [], am_T0 q3.2) rfl rfl ?_
    rcases l2_i h with ⟨hc, h⟩ | ⟨hc, h⟩
    · refine am_Rn.ifT hc ?_
      exact rfX8_under_19 d N l1 l2 q3.2 _ h 
    · refine am_Rn.ifF hc ?_
      refine am_Rn.op _ (13, [some (.ref 128), some (.int l1), some (.int l2)], [.int l2], am_T0 q3.2) rfl rfl ?_
      obtain ⟨q4, hq4, h⟩ := l2_b h
      refine am_Rn.cl _ (some (.int q4.1)) (am_T0 q4.2) rfl rfl (rfX8_isKind (d + 0) N l2 q3.2 q4 hq4) ?_
      show am_Rn _ _ _ _ (16, [some (.ref 128), some (.int l1), some (.int l2)], [.int q4.1], am_T0 q4.2)
      refine am_Rn.op _ (if q4.1 = 0 then 33 else 19, [some (.ref 128), some (.int l1), some (.int l2)], [], am_T0 q4.2) rfl rfl ?_
      rcases l2_i h with ⟨hc, h⟩ | ⟨hc, h⟩
      · refine am_Rn.ifT hc ?_
        refine am_Rn.op _ (34, [some (.ref 128), some (.int l1), some (.int l2)], [.int 0], am_T0 q4.2) rfl rfl ?_
        cases h
        exact am_Rn.rt _ rfl rfl
      · refine am_Rn.ifF hc ?_
        exact rfX8_under_19 d N l1 l2 q4.2 _ h 
-- X8_is
def fX8_is_30 (N : Nat) (s0 : Int32) (S : St) : Option (Int32 × St) := some (s0, S)
set_option maxRecDepth 20000 in
theorem rfX8_is_30 (d N : Nat) (s0 : Int32) (S : St) (z : (Int32 × St)) (h : fX8_is_30 N s0 S = some z) (w0 : Option Value) (w1 : Option Value) (w2 : Option Value) : am_Rn (am_C (d + 1)) (am_ct 116) (am_rk 116) (some (.int z.1), am_T0 z.2) (30, [w0, w1, w2], [.int s0], am_T0 S) := by
  unfold fX8_is_30 at h
  cases h
  exact am_Rn.rt _ rfl rfl
def fX8_is (N : Nat) (l1 : Int32) (l2 : Int32) (S : St) : Option (Int32 × St) := (fX8_isKind N l1 S).bind (fun q1 => (if q1.1 = 0 then some ((-1), q1.2) else (fX8_isKind N l2 q1.2).bind (fun q2 => (if q2.1 = 0 then some ((-1), q2.2) else (fX8_isOf N l1 l2 q2.2).bind (fun q3 => (if q3.1 = 0 then fX8_is_30 N 0 q3.2 else fX8_is_30 N 1 q3.2))))))
set_option maxRecDepth 20000 in
theorem rfX8_is (d N : Nat) (l1 : Int32) (l2 : Int32) (S : St) (z : (Int32 × St)) (h : fX8_is N l1 l2 S = some z) : am_C (d + 2) 116 [.ref 128, .int l1, .int l2] (am_T0 S) (some (.int z.1), am_T0 z.2) := by
  unfold fX8_is at h
  show am_Rn (am_C (d + 1)) (am_ct 116) (am_rk 116) (some (.int z.1), am_T0 z.2) (0, [some (.ref 128), some (.int l1), some (.int l2)], [], am_T0 S)
  refine am_Rn.op _ (1, [some (.ref 128), some (.int l1), some (.int l2)], [.int l1], am_T0 S) rfl rfl ?_
  obtain ⟨q1, hq1, h⟩ := l2_b h
  refine am_Rn.cl _ (some (.int q1.1)) (am_T0 q1.2) rfl rfl (rfX8_isKind (d + 0) N l1 S q1 hq1) ?_
  show am_Rn _ _ _ _ (4, [some (.ref 128), some (.int l1), some (.int l2)], [.int q1.1], am_T0 q1.2)
  refine am_Rn.op _ (if q1.1 = 0 then 14 else 7, [some (.ref 128), some (.int l1), some (.int l2)], [], am_T0 q1.2) rfl rfl ?_
  rcases l2_i h with ⟨hc, h⟩ | ⟨hc, h⟩
  · refine am_Rn.ifT hc ?_
    refine am_Rn.op _ (15, [some (.ref 128), some (.int l1), some (.int l2)], [.int (-1)], am_T0 q1.2) rfl rfl ?_
    cases h
    exact am_Rn.rt _ rfl rfl
  · refine am_Rn.ifF hc ?_
    refine am_Rn.op _ (8, [some (.ref 128), some (.int l1), some (.int l2)], [.int l2], am_T0 q1.2) rfl rfl ?_
    obtain ⟨q2, hq2, h⟩ := l2_b h
    refine am_Rn.cl _ (some (.int q2.1)) (am_T0 q2.2) rfl rfl (rfX8_isKind (d + 0) N l2 q1.2 q2 hq2) ?_
    show am_Rn _ _ _ _ (11, [some (.ref 128), some (.int l1), some (.int l2)], [.int q2.1], am_T0 q2.2)
    refine am_Rn.op _ (if q2.1 = 0 then 14 else 16, [some (.ref 128), some (.int l1), some (.int l2)], [], am_T0 q2.2) rfl rfl ?_
    rcases l2_i h with ⟨hc, h⟩ | ⟨hc, h⟩
    · refine am_Rn.ifT hc ?_
      refine am_Rn.op _ (15, [some (.ref 128), some (.int l1), some (.int l2)], [.int (-1)], am_T0 q2.2) rfl rfl ?_
      cases h
      exact am_Rn.rt _ rfl rfl
    · refine am_Rn.ifF hc ?_
      refine am_Rn.op _ (17, [some (.ref 128), some (.int l1), some (.int l2)], [.ref 128], am_T0 q2.2) rfl rfl ?_
      refine am_Rn.op _ (18, [some (.ref 128), some (.int l1), some (.int l2)], [.int l1, .ref 128], am_T0 q2.2) rfl rfl ?_
      refine am_Rn.op _ (19, [some (.ref 128), some (.int l1), some (.int l2)], [.int l2, .int l1, .ref 128], am_T0 q2.2) rfl rfl ?_
      obtain ⟨q3, hq3, h⟩ := l2_b h
      refine am_Rn.cl _ (some (.int q3.1)) (am_T0 q3.2) rfl rfl (rfX8_isOf (d + 0) N l1 l2 q2.2 q3 hq3) ?_
      show am_Rn _ _ _ _ (22, [some (.ref 128), some (.int l1), some (.int l2)], [.int q3.1], am_T0 q3.2)
      refine am_Rn.op _ (if q3.1 = 0 then 29 else 25, [some (.ref 128), some (.int l1), some (.int l2)], [], am_T0 q3.2) rfl rfl ?_
      rcases l2_i h with ⟨hc, h⟩ | ⟨hc, h⟩
      · refine am_Rn.ifT hc ?_
        refine am_Rn.op _ (30, [some (.ref 128), some (.int l1), some (.int l2)], [.int 0], am_T0 q3.2) rfl rfl ?_
        exact rfX8_is_30 d N 0 q3.2 _ h _ _ _
      · refine am_Rn.ifF hc ?_
        refine am_Rn.op _ (26, [some (.ref 128), some (.int l1), some (.int l2)], [.int 1], am_T0 q3.2) rfl rfl ?_
        refine am_Rn.op _ (30, [some (.ref 128), some (.int l1), some (.int l2)], [.int 1], am_T0 q3.2) rfl rfl ?_
        exact rfX8_is_30 d N 1 q3.2 _ h _ _ _
-- X8_types
def PfX8_types_2 (d : Nat) (res : Option Value × am_S) (l1 : Int32) (x : Int32 × St) : Prop := am_Rn (am_C d) (am_ct 117) (am_rk 117) res (2, [some (.ref 128), some (.int l1), some (.int x.1)], [], am_T0 x.2)
def QfX8_types_2 (d : Nat) (res : Option Value × am_S) (l1 : Int32) (y : St) : Prop := res = (none, am_T0 y)
def bfX8_types_2 (N : Nat) (l1 : Int32) (x : Int32 × St) : Option ((Int32 × St) ⊕ (St)) := (if x.1 < 0 then some (.inr x.2) else (if (x.2.1 128 4) < 0 ∨ 80 ≤ Int32.toNatClampNeg (x.2.1 128 4) then none else some (.inl ((x.1 + (-1)), (st_i (st_i x.2 131 (Int32.toNatClampNeg (x.2.1 128 4)) (Int8.toInt32 (Int32.toInt8 (Int8.toInt32 (Int32.toInt8 (l1 >>> ((8 * x.1) &&& 31))))))) 128 4 (((st_i x.2 131 (Int32.toNatClampNeg (x.2.1 128 4)) (Int8.toInt32 (Int32.toInt8 (Int8.toInt32 (Int32.toInt8 (l1 >>> ((8 * x.1) &&& 31))))))).1 128 4) + 1))))))
def fX8_types_2 (N : Nat) (l1 : Int32) (x : Int32 × St) : Option (St) := whl N (bfX8_types_2 N l1 ) x
set_option maxRecDepth 20000 in
theorem rbfX8_types_2 (d N : Nat) (res : Option Value × am_S) (l1 : Int32) (x : Int32 × St) (z : (Int32 × St) ⊕ (St)) (h : bfX8_types_2 N l1 x = some z) (hz : Sum.elim (PfX8_types_2 (d + 0) res l1 ) (QfX8_types_2 (d + 0) res l1 ) z) : PfX8_types_2 (d + 0) res l1 x := by
  unfold bfX8_types_2 at h
  show am_Rn (am_C (d + 0)) (am_ct 117) (am_rk 117) res (2, [some (.ref 128), some (.int l1), some (.int x.1)], [], am_T0 x.2)
  refine am_Rn.op _ (3, [some (.ref 128), some (.int l1), some (.int x.1)], [.int x.1], am_T0 x.2) rfl rfl ?_
  refine am_Rn.op _ (if x.1 < 0 then 38 else 6, [some (.ref 128), some (.int l1), some (.int x.1)], [], am_T0 x.2) rfl rfl ?_
  rcases l2_i h with ⟨hc, h⟩ | ⟨hc, h⟩
  · refine am_Rn.ifT hc ?_
    cases h
    exact am_Rn.rt2 _ rfl rfl hz
  · refine am_Rn.ifF hc ?_
    refine am_Rn.op _ (7, [some (.ref 128), some (.int l1), some (.int x.1)], [.ref 128], am_T0 x.2) rfl rfl ?_
    refine am_Rn.op _ (10, [some (.ref 128), some (.int l1), some (.int x.1)], [.ref 131], am_T0 x.2) rfl rfl ?_
    refine am_Rn.op _ (11, [some (.ref 128), some (.int l1), some (.int x.1)], [.ref 128, .ref 131], am_T0 x.2) rfl rfl ?_
    refine am_Rn.op _ (14, [some (.ref 128), some (.int l1), some (.int x.1)], [.int (x.2.1 128 4), .ref 131], am_T0 x.2) rfl rfl ?_
    refine am_Rn.op _ (15, [some (.ref 128), some (.int l1), some (.int x.1)], [.int l1, .int (x.2.1 128 4), .ref 131], am_T0 x.2) rfl rfl ?_
    refine am_Rn.op _ (17, [some (.ref 128), some (.int l1), some (.int x.1)], [.int 8, .int l1, .int (x.2.1 128 4), .ref 131], am_T0 x.2) rfl rfl ?_
    refine am_Rn.op _ (18, [some (.ref 128), some (.int l1), some (.int x.1)], [.int x.1, .int 8, .int l1, .int (x.2.1 128 4), .ref 131], am_T0 x.2) rfl rfl ?_
    refine am_Rn.op _ (19, [some (.ref 128), some (.int l1), some (.int x.1)], [.int (8 * x.1), .int l1, .int (x.2.1 128 4), .ref 131], am_T0 x.2) rfl rfl ?_
    refine am_Rn.op _ (20, [some (.ref 128), some (.int l1), some (.int x.1)], [.int (l1 >>> ((8 * x.1) &&& 31)), .int (x.2.1 128 4), .ref 131], am_T0 x.2) rfl rfl ?_
    refine am_Rn.op _ (21, [some (.ref 128), some (.int l1), some (.int x.1)], [.int (Int8.toInt32 (Int32.toInt8 (l1 >>> ((8 * x.1) &&& 31)))), .int (x.2.1 128 4), .ref 131], am_T0 x.2) rfl rfl ?_
    obtain ⟨hb1, h⟩ := l2_n h
    refine am_Rn.bast1 (n := 80) rfl rfl hb1 ?_
    show am_Rn _ _ _ _ (22, [some (.ref 128), some (.int l1), some (.int x.1)], [], am_T0 (st_i x.2 131 (Int32.toNatClampNeg (x.2.1 128 4)) (Int8.toInt32 (Int32.toInt8 (Int8.toInt32 (Int32.toInt8 (l1 >>> ((8 * x.1) &&& 31))))))))
    refine am_Rn.op _ (23, [some (.ref 128), some (.int l1), some (.int x.1)], [.ref 128], am_T0 (st_i x.2 131 (Int32.toNatClampNeg (x.2.1 128 4)) (Int8.toInt32 (Int32.toInt8 (Int8.toInt32 (Int32.toInt8 (l1 >>> ((8 * x.1) &&& 31)))))))) rfl rfl ?_
    refine am_Rn.op _ (24, [some (.ref 128), some (.int l1), some (.int x.1)], [.ref 128, .ref 128], am_T0 (st_i x.2 131 (Int32.toNatClampNeg (x.2.1 128 4)) (Int8.toInt32 (Int32.toInt8 (Int8.toInt32 (Int32.toInt8 (l1 >>> ((8 * x.1) &&& 31)))))))) rfl rfl ?_
    refine am_Rn.op _ (27, [some (.ref 128), some (.int l1), some (.int x.1)], [.int ((st_i x.2 131 (Int32.toNatClampNeg (x.2.1 128 4)) (Int8.toInt32 (Int32.toInt8 (Int8.toInt32 (Int32.toInt8 (l1 >>> ((8 * x.1) &&& 31))))))).1 128 4), .ref 128], am_T0 (st_i x.2 131 (Int32.toNatClampNeg (x.2.1 128 4)) (Int8.toInt32 (Int32.toInt8 (Int8.toInt32 (Int32.toInt8 (l1 >>> ((8 * x.1) &&& 31)))))))) rfl rfl ?_
    refine am_Rn.op _ (28, [some (.ref 128), some (.int l1), some (.int x.1)], [.int 1, .int ((st_i x.2 131 (Int32.toNatClampNeg (x.2.1 128 4)) (Int8.toInt32 (Int32.toInt8 (Int8.toInt32 (Int32.toInt8 (l1 >>> ((8 * x.1) &&& 31))))))).1 128 4), .ref 128], am_T0 (st_i x.2 131 (Int32.toNatClampNeg (x.2.1 128 4)) (Int8.toInt32 (Int32.toInt8 (Int8.toInt32 (Int32.toInt8 (l1 >>> ((8 * x.1) &&& 31)))))))) rfl rfl ?_
    refine am_Rn.op _ (29, [some (.ref 128), some (.int l1), some (.int x.1)], [.int (((st_i x.2 131 (Int32.toNatClampNeg (x.2.1 128 4)) (Int8.toInt32 (Int32.toInt8 (Int8.toInt32 (Int32.toInt8 (l1 >>> ((8 * x.1) &&& 31))))))).1 128 4) + 1), .ref 128], am_T0 (st_i x.2 131 (Int32.toNatClampNeg (x.2.1 128 4)) (Int8.toInt32 (Int32.toInt8 (Int8.toInt32 (Int32.toInt8 (l1 >>> ((8 * x.1) &&& 31)))))))) rfl rfl ?_
    refine am_Rn.op _ (32, [some (.ref 128), some (.int l1), some (.int x.1)], [], am_T0 (st_i (st_i x.2 131 (Int32.toNatClampNeg (x.2.1 128 4)) (Int8.toInt32 (Int32.toInt8 (Int8.toInt32 (Int32.toInt8 (l1 >>> ((8 * x.1) &&& 31))))))) 128 4 (((st_i x.2 131 (Int32.toNatClampNeg (x.2.1 128 4)) (Int8.toInt32 (Int32.toInt8 (Int8.toInt32 (Int32.toInt8 (l1 >>> ((8 * x.1) &&& 31))))))).1 128 4) + 1))) rfl rfl ?_
    refine am_Rn.op _ (35, [some (.ref 128), some (.int l1), some (.int (x.1 + (-1)))], [], am_T0 (st_i (st_i x.2 131 (Int32.toNatClampNeg (x.2.1 128 4)) (Int8.toInt32 (Int32.toInt8 (Int8.toInt32 (Int32.toInt8 (l1 >>> ((8 * x.1) &&& 31))))))) 128 4 (((st_i x.2 131 (Int32.toNatClampNeg (x.2.1 128 4)) (Int8.toInt32 (Int32.toInt8 (Int8.toInt32 (Int32.toInt8 (l1 >>> ((8 * x.1) &&& 31))))))).1 128 4) + 1))) rfl rfl ?_
    refine am_Rn.op _ (2, [some (.ref 128), some (.int l1), some (.int (x.1 + (-1)))], [], am_T0 (st_i (st_i x.2 131 (Int32.toNatClampNeg (x.2.1 128 4)) (Int8.toInt32 (Int32.toInt8 (Int8.toInt32 (Int32.toInt8 (l1 >>> ((8 * x.1) &&& 31))))))) 128 4 (((st_i x.2 131 (Int32.toNatClampNeg (x.2.1 128 4)) (Int8.toInt32 (Int32.toInt8 (Int8.toInt32 (Int32.toInt8 (l1 >>> ((8 * x.1) &&& 31))))))).1 128 4) + 1))) rfl rfl ?_
    cases h
    exact hz 
theorem rfX8_types_2 (d N : Nat) (res : Option Value × am_S) (l1 : Int32) (x : Int32 × St) (y : St) (h : fX8_types_2 N l1 x = some y) (hq : QfX8_types_2 (d + 0) res l1 y) : PfX8_types_2 (d + 0) res l1 x := whl_ind _ _ (fun x z => rbfX8_types_2 d N res l1 x z) N x y h hq
def fX8_types (N : Nat) (l1 : Int32) (S : St) : Option St := (fX8_types_2 N l1 (3, S)).bind (fun y2 => some y2)
set_option maxRecDepth 20000 in
theorem rfX8_types (d N : Nat) (l1 : Int32) (S : St) (z : St) (h : fX8_types N l1 S = some z) : am_C (d + 1) 117 [.ref 128, .int l1] (am_T0 S) (none, am_T0 z) := by
  unfold fX8_types at h
  show am_Rn (am_C (d + 0)) (am_ct 117) (am_rk 117) (none, am_T0 z) (0, [some (.ref 128), some (.int l1), none], [], am_T0 S)
  refine am_Rn.op _ (1, [some (.ref 128), some (.int l1), none], [.int 3], am_T0 S) rfl rfl ?_
  refine am_Rn.op _ (2, [some (.ref 128), some (.int l1), some (.int 3)], [], am_T0 S) rfl rfl ?_
  obtain ⟨y2, hy2, h⟩ := l2_b h
  refine rfX8_types_2 d N _ l1 (3, S) y2 hy2 ?_ 
  cases h
  exact rfl
-- X8_feed
def fX8_feed (N : Nat) (l1 : Int32) (l2 : Int32) (l3 : Int32) (l4 : Int32) (l5 : Int32) (S : St) : Option (Int32 × St) := (if ((S.1 128 4) + 20) ≤ 80 then (fX8_types N l1 S).bind (fun q1 => (fX8_types N l2 q1).bind (fun q2 => (fX8_types N l3 q2).bind (fun q3 => (fX8_types N l4 q3).bind (fun q4 => (fX8_types N l5 q4).bind (fun q5 => some ((q5.1 128 4), q5)))))) else some ((-1), S))
set_option maxRecDepth 20000 in
theorem rfX8_feed (d N : Nat) (l1 : Int32) (l2 : Int32) (l3 : Int32) (l4 : Int32) (l5 : Int32) (S : St) (z : (Int32 × St)) (h : fX8_feed N l1 l2 l3 l4 l5 S = some z) : am_C (d + 2) 118 [.ref 128, .int l1, .int l2, .int l3, .int l4, .int l5] (am_T0 S) (some (.int z.1), am_T0 z.2) := by
  unfold fX8_feed at h
  show am_Rn (am_C (d + 1)) (am_ct 118) (am_rk 118) (some (.int z.1), am_T0 z.2) (0, [some (.ref 128), some (.int l1), some (.int l2), some (.int l3), some (.int l4), some (.int l5)], [], am_T0 S)
  refine am_Rn.op _ (1, [some (.ref 128), some (.int l1), some (.int l2), some (.int l3), some (.int l4), some (.int l5)], [.ref 128], am_T0 S) rfl rfl ?_
  refine am_Rn.op _ (4, [some (.ref 128), some (.int l1), some (.int l2), some (.int l3), some (.int l4), some (.int l5)], [.int (S.1 128 4)], am_T0 S) rfl rfl ?_
  refine am_Rn.op _ (6, [some (.ref 128), some (.int l1), some (.int l2), some (.int l3), some (.int l4), some (.int l5)], [.int 20, .int (S.1 128 4)], am_T0 S) rfl rfl ?_
  refine am_Rn.op _ (7, [some (.ref 128), some (.int l1), some (.int l2), some (.int l3), some (.int l4), some (.int l5)], [.int ((S.1 128 4) + 20)], am_T0 S) rfl rfl ?_
  refine am_Rn.op _ (9, [some (.ref 128), some (.int l1), some (.int l2), some (.int l3), some (.int l4), some (.int l5)], [.int 80, .int ((S.1 128 4) + 20)], am_T0 S) rfl rfl ?_
  refine am_Rn.op _ (if ((S.1 128 4) + 20) ≤ 80 then 14 else 12, [some (.ref 128), some (.int l1), some (.int l2), some (.int l3), some (.int l4), some (.int l5)], [], am_T0 S) rfl rfl ?_
  rcases l2_i h with ⟨hc, h⟩ | ⟨hc, h⟩
  · refine am_Rn.ifT hc ?_
    refine am_Rn.op _ (15, [some (.ref 128), some (.int l1), some (.int l2), some (.int l3), some (.int l4), some (.int l5)], [.ref 128], am_T0 S) rfl rfl ?_
    refine am_Rn.op _ (16, [some (.ref 128), some (.int l1), some (.int l2), some (.int l3), some (.int l4), some (.int l5)], [.int l1, .ref 128], am_T0 S) rfl rfl ?_
    obtain ⟨q1, hq1, h⟩ := l2_b h
    refine am_Rn.cl _ none (am_T0 q1) rfl rfl (rfX8_types (d + 0) N l1 S q1 hq1) ?_
    show am_Rn _ _ _ _ (19, [some (.ref 128), some (.int l1), some (.int l2), some (.int l3), some (.int l4), some (.int l5)], [], am_T0 q1)
    refine am_Rn.op _ (20, [some (.ref 128), some (.int l1), some (.int l2), some (.int l3), some (.int l4), some (.int l5)], [.ref 128], am_T0 q1) rfl rfl ?_
    refine am_Rn.op _ (21, [some (.ref 128), some (.int l1), some (.int l2), some (.int l3), some (.int l4), some (.int l5)], [.int l2, .ref 128], am_T0 q1) rfl rfl ?_
    obtain ⟨q2, hq2, h⟩ := l2_b h
    refine am_Rn.cl _ none (am_T0 q2) rfl rfl (rfX8_types (d + 0) N l2 q1 q2 hq2) ?_
    show am_Rn _ _ _ _ (24, [some (.ref 128), some (.int l1), some (.int l2), some (.int l3), some (.int l4), some (.int l5)], [], am_T0 q2)
    refine am_Rn.op _ (25, [some (.ref 128), some (.int l1), some (.int l2), some (.int l3), some (.int l4), some (.int l5)], [.ref 128], am_T0 q2) rfl rfl ?_
    refine am_Rn.op _ (26, [some (.ref 128), some (.int l1), some (.int l2), some (.int l3), some (.int l4), some (.int l5)], [.int l3, .ref 128], am_T0 q2) rfl rfl ?_
    obtain ⟨q3, hq3, h⟩ := l2_b h
    refine am_Rn.cl _ none (am_T0 q3) rfl rfl (rfX8_types (d + 0) N l3 q2 q3 hq3) ?_
    show am_Rn _ _ _ _ (29, [some (.ref 128), some (.int l1), some (.int l2), some (.int l3), some (.int l4), some (.int l5)], [], am_T0 q3)
    refine am_Rn.op _ (30, [some (.ref 128), some (.int l1), some (.int l2), some (.int l3), some (.int l4), some (.int l5)], [.ref 128], am_T0 q3) rfl rfl ?_
    refine am_Rn.op _ (32, [some (.ref 128), some (.int l1), some (.int l2), some (.int l3), some (.int l4), some (.int l5)], [.int l4, .ref 128], am_T0 q3) rfl rfl ?_
    obtain ⟨q4, hq4, h⟩ := l2_b h
    refine am_Rn.cl _ none (am_T0 q4) rfl rfl (rfX8_types (d + 0) N l4 q3 q4 hq4) ?_
    show am_Rn _ _ _ _ (35, [some (.ref 128), some (.int l1), some (.int l2), some (.int l3), some (.int l4), some (.int l5)], [], am_T0 q4)
    refine am_Rn.op _ (36, [some (.ref 128), some (.int l1), some (.int l2), some (.int l3), some (.int l4), some (.int l5)], [.ref 128], am_T0 q4) rfl rfl ?_
    refine am_Rn.op _ (38, [some (.ref 128), some (.int l1), some (.int l2), some (.int l3), some (.int l4), some (.int l5)], [.int l5, .ref 128], am_T0 q4) rfl rfl ?_
    obtain ⟨q5, hq5, h⟩ := l2_b h
    refine am_Rn.cl _ none (am_T0 q5) rfl rfl (rfX8_types (d + 0) N l5 q4 q5 hq5) ?_
    show am_Rn _ _ _ _ (41, [some (.ref 128), some (.int l1), some (.int l2), some (.int l3), some (.int l4), some (.int l5)], [], am_T0 q5)
    refine am_Rn.op _ (42, [some (.ref 128), some (.int l1), some (.int l2), some (.int l3), some (.int l4), some (.int l5)], [.ref 128], am_T0 q5) rfl rfl ?_
    refine am_Rn.op _ (45, [some (.ref 128), some (.int l1), some (.int l2), some (.int l3), some (.int l4), some (.int l5)], [.int (q5.1 128 4)], am_T0 q5) rfl rfl ?_
    cases h
    exact am_Rn.rt _ rfl rfl
  · refine am_Rn.ifF hc ?_
    refine am_Rn.op _ (13, [some (.ref 128), some (.int l1), some (.int l2), some (.int l3), some (.int l4), some (.int l5)], [.int (-1)], am_T0 S) rfl rfl ?_
    cases h
    exact am_Rn.rt _ rfl rfl
-- X8_sign
def fX8_sign_22 (N : Nat) (s0 : Int32) (S : St) : Option (Int32 × St) := some (s0, S)
set_option maxRecDepth 20000 in
theorem rfX8_sign_22 (d N : Nat) (s0 : Int32) (S : St) (z : (Int32 × St)) (h : fX8_sign_22 N s0 S = some z) (w0 : Option Value) (w1 : Option Value) : am_Rn (am_C (d + 0)) (am_ct 119) (am_rk 119) (some (.int z.1), am_T0 z.2) (22, [w0, w1], [.int s0], am_T0 S) := by
  unfold fX8_sign_22 at h
  cases h
  exact am_Rn.rt _ rfl rfl
def fX8_sign (N : Nat) (l1 : Int32) (S : St) : Option (Int32 × St) := (if (S.1 128 8) ≤ l1 then fX8_sign_22 N 0 S else (if l1 < 0 ∨ 80 ≤ Int32.toNatClampNeg l1 then none else fX8_sign_22 N ((S.1 131 (Int32.toNatClampNeg l1)) &&& 255) S))
set_option maxRecDepth 20000 in
theorem rfX8_sign (d N : Nat) (l1 : Int32) (S : St) (z : (Int32 × St)) (h : fX8_sign N l1 S = some z) : am_C (d + 1) 119 [.ref 128, .int l1] (am_T0 S) (some (.int z.1), am_T0 z.2) := by
  unfold fX8_sign at h
  show am_Rn (am_C (d + 0)) (am_ct 119) (am_rk 119) (some (.int z.1), am_T0 z.2) (0, [some (.ref 128), some (.int l1)], [], am_T0 S)
  refine am_Rn.op _ (1, [some (.ref 128), some (.int l1)], [.int l1], am_T0 S) rfl rfl ?_
  refine am_Rn.op _ (2, [some (.ref 128), some (.int l1)], [.ref 128, .int l1], am_T0 S) rfl rfl ?_
  refine am_Rn.op _ (5, [some (.ref 128), some (.int l1)], [.int (S.1 128 8), .int l1], am_T0 S) rfl rfl ?_
  refine am_Rn.op _ (if (S.1 128 8) ≤ l1 then 21 else 8, [some (.ref 128), some (.int l1)], [], am_T0 S) rfl rfl ?_
  rcases l2_i h with ⟨hc, h⟩ | ⟨hc, h⟩
  · refine am_Rn.ifT hc ?_
    refine am_Rn.op _ (22, [some (.ref 128), some (.int l1)], [.int 0], am_T0 S) rfl rfl ?_
    exact rfX8_sign_22 d N 0 S _ h _ _
  · refine am_Rn.ifF hc ?_
    refine am_Rn.op _ (9, [some (.ref 128), some (.int l1)], [.ref 128], am_T0 S) rfl rfl ?_
    refine am_Rn.op _ (12, [some (.ref 128), some (.int l1)], [.ref 131], am_T0 S) rfl rfl ?_
    refine am_Rn.op _ (13, [some (.ref 128), some (.int l1)], [.int l1, .ref 131], am_T0 S) rfl rfl ?_
    obtain ⟨hb1, h⟩ := l2_n h
    refine am_Rn.bald1 (n := 80) rfl rfl hb1 ?_
    show am_Rn _ _ _ _ (14, [some (.ref 128), some (.int l1)], [.int (S.1 131 (Int32.toNatClampNeg l1))], am_T0 S)
    refine am_Rn.op _ (17, [some (.ref 128), some (.int l1)], [.int 255, .int (S.1 131 (Int32.toNatClampNeg l1))], am_T0 S) rfl rfl ?_
    refine am_Rn.op _ (18, [some (.ref 128), some (.int l1)], [.int ((S.1 131 (Int32.toNatClampNeg l1)) &&& 255)], am_T0 S) rfl rfl ?_
    refine am_Rn.op _ (22, [some (.ref 128), some (.int l1)], [.int ((S.1 131 (Int32.toNatClampNeg l1)) &&& 255)], am_T0 S) rfl rfl ?_
    exact rfX8_sign_22 d N ((S.1 131 (Int32.toNatClampNeg l1)) &&& 255) S _ h _ _
-- X8_wrong
def fX8_wrong (N : Nat) (l1 : Int32) (l2 : Int32) (S : St) : Option (Int32 × St) := some (0, (st_i (st_i S 128 5 l1) 128 6 l2))
set_option maxRecDepth 20000 in
theorem rfX8_wrong (d N : Nat) (l1 : Int32) (l2 : Int32) (S : St) (z : (Int32 × St)) (h : fX8_wrong N l1 l2 S = some z) : am_C (d + 1) 120 [.ref 128, .int l1, .int l2] (am_T0 S) (some (.int z.1), am_T0 z.2) := by
  unfold fX8_wrong at h
  show am_Rn (am_C (d + 0)) (am_ct 120) (am_rk 120) (some (.int z.1), am_T0 z.2) (0, [some (.ref 128), some (.int l1), some (.int l2)], [], am_T0 S)
  refine am_Rn.op _ (1, [some (.ref 128), some (.int l1), some (.int l2)], [.ref 128], am_T0 S) rfl rfl ?_
  refine am_Rn.op _ (2, [some (.ref 128), some (.int l1), some (.int l2)], [.int l1, .ref 128], am_T0 S) rfl rfl ?_
  refine am_Rn.op _ (5, [some (.ref 128), some (.int l1), some (.int l2)], [], am_T0 (st_i S 128 5 l1)) rfl rfl ?_
  refine am_Rn.op _ (6, [some (.ref 128), some (.int l1), some (.int l2)], [.ref 128], am_T0 (st_i S 128 5 l1)) rfl rfl ?_
  refine am_Rn.op _ (7, [some (.ref 128), some (.int l1), some (.int l2)], [.int l2, .ref 128], am_T0 (st_i S 128 5 l1)) rfl rfl ?_
  refine am_Rn.op _ (10, [some (.ref 128), some (.int l1), some (.int l2)], [], am_T0 (st_i (st_i S 128 5 l1) 128 6 l2)) rfl rfl ?_
  refine am_Rn.op _ (11, [some (.ref 128), some (.int l1), some (.int l2)], [.int 0], am_T0 (st_i (st_i S 128 5 l1) 128 6 l2)) rfl rfl ?_
  cases h
  exact am_Rn.rt _ rfl rfl
-- X8_opens
def fX8_opens (N : Nat) (l1 : Int32) (S : St) : Option (Int32 × St) := (fX8_sign N (S.1 128 7) S).bind (fun q1 => (if q1.1 = 123 then (if (q1.2.1 128 15) = 8 then (fX8_wrong N 2 (q1.2.1 128 7) q1.2).bind (fun q2 => (if q2.1 = 0 ∨ q2.1 = 1 then some (q2.1, q2.2) else none)) else (if ((st_i q1.2 128 15 ((q1.2.1 128 15) + 1)).1 128 15) < 0 ∨ 9 ≤ Int32.toNatClampNeg ((st_i q1.2 128 15 ((q1.2.1 128 15) + 1)).1 128 15) then none else (if ((st_i (st_i q1.2 128 15 ((q1.2.1 128 15) + 1)) 136 (Int32.toNatClampNeg ((st_i q1.2 128 15 ((q1.2.1 128 15) + 1)).1 128 15)) ((st_i q1.2 128 15 ((q1.2.1 128 15) + 1)).1 128 7)).1 128 15) < 0 ∨ 9 ≤ Int32.toNatClampNeg ((st_i (st_i q1.2 128 15 ((q1.2.1 128 15) + 1)) 136 (Int32.toNatClampNeg ((st_i q1.2 128 15 ((q1.2.1 128 15) + 1)).1 128 15)) ((st_i q1.2 128 15 ((q1.2.1 128 15) + 1)).1 128 7)).1 128 15) then none else some (1, (st_i (st_i (st_i (st_i q1.2 128 15 ((q1.2.1 128 15) + 1)) 136 (Int32.toNatClampNeg ((st_i q1.2 128 15 ((q1.2.1 128 15) + 1)).1 128 15)) ((st_i q1.2 128 15 ((q1.2.1 128 15) + 1)).1 128 7)) 137 (Int32.toNatClampNeg ((st_i (st_i q1.2 128 15 ((q1.2.1 128 15) + 1)) 136 (Int32.toNatClampNeg ((st_i q1.2 128 15 ((q1.2.1 128 15) + 1)).1 128 15)) ((st_i q1.2 128 15 ((q1.2.1 128 15) + 1)).1 128 7)).1 128 15)) l1) 128 7 (((st_i (st_i (st_i q1.2 128 15 ((q1.2.1 128 15) + 1)) 136 (Int32.toNatClampNeg ((st_i q1.2 128 15 ((q1.2.1 128 15) + 1)).1 128 15)) ((st_i q1.2 128 15 ((q1.2.1 128 15) + 1)).1 128 7)) 137 (Int32.toNatClampNeg ((st_i (st_i q1.2 128 15 ((q1.2.1 128 15) + 1)) 136 (Int32.toNatClampNeg ((st_i q1.2 128 15 ((q1.2.1 128 15) + 1)).1 128 15)) ((st_i q1.2 128 15 ((q1.2.1 128 15) + 1)).1 128 7)).1 128 15)) l1).1 128 7) + 1)))))) else (fX8_wrong N 1 (q1.2.1 128 7) q1.2).bind (fun q6 => (if q6.1 = 0 ∨ q6.1 = 1 then some (q6.1, q6.2) else none))))
set_option maxRecDepth 20000 in
theorem rfX8_opens (d N : Nat) (l1 : Int32) (S : St) (z : (Int32 × St)) (h : fX8_opens N l1 S = some z) : am_C (d + 2) 121 [.ref 128, .int l1] (am_T0 S) (some (.int z.1), am_T0 z.2) := by
  unfold fX8_opens at h
  show am_Rn (am_C (d + 1)) (am_ct 121) (am_rk 121) (some (.int z.1), am_T0 z.2) (0, [some (.ref 128), some (.int l1)], [], am_T0 S)
  refine am_Rn.op _ (1, [some (.ref 128), some (.int l1)], [.ref 128], am_T0 S) rfl rfl ?_
  refine am_Rn.op _ (2, [some (.ref 128), some (.int l1)], [.ref 128, .ref 128], am_T0 S) rfl rfl ?_
  refine am_Rn.op _ (5, [some (.ref 128), some (.int l1)], [.int (S.1 128 7), .ref 128], am_T0 S) rfl rfl ?_
  obtain ⟨q1, hq1, h⟩ := l2_b h
  refine am_Rn.cl _ (some (.int q1.1)) (am_T0 q1.2) rfl rfl (rfX8_sign (d + 0) N (S.1 128 7) S q1 hq1) ?_
  show am_Rn _ _ _ _ (8, [some (.ref 128), some (.int l1)], [.int q1.1], am_T0 q1.2)
  refine am_Rn.op _ (10, [some (.ref 128), some (.int l1)], [.int 123, .int q1.1], am_T0 q1.2) rfl rfl ?_
  refine am_Rn.op _ (if q1.1 = 123 then 23 else 13, [some (.ref 128), some (.int l1)], [], am_T0 q1.2) rfl rfl ?_
  rcases l2_i h with ⟨hc, h⟩ | ⟨hc, h⟩
  · refine am_Rn.ifT hc ?_
    refine am_Rn.op _ (24, [some (.ref 128), some (.int l1)], [.ref 128], am_T0 q1.2) rfl rfl ?_
    refine am_Rn.op _ (27, [some (.ref 128), some (.int l1)], [.int (q1.2.1 128 15)], am_T0 q1.2) rfl rfl ?_
    refine am_Rn.op _ (29, [some (.ref 128), some (.int l1)], [.int 8, .int (q1.2.1 128 15)], am_T0 q1.2) rfl rfl ?_
    refine am_Rn.op _ (if (q1.2.1 128 15) = 8 then 32 else 42, [some (.ref 128), some (.int l1)], [], am_T0 q1.2) rfl rfl ?_
    rcases l2_i h with ⟨hc, h⟩ | ⟨hc, h⟩
    · refine am_Rn.ifT hc ?_
      refine am_Rn.op _ (33, [some (.ref 128), some (.int l1)], [.ref 128], am_T0 q1.2) rfl rfl ?_
      refine am_Rn.op _ (34, [some (.ref 128), some (.int l1)], [.int 2, .ref 128], am_T0 q1.2) rfl rfl ?_
      refine am_Rn.op _ (35, [some (.ref 128), some (.int l1)], [.ref 128, .int 2, .ref 128], am_T0 q1.2) rfl rfl ?_
      refine am_Rn.op _ (38, [some (.ref 128), some (.int l1)], [.int (q1.2.1 128 7), .int 2, .ref 128], am_T0 q1.2) rfl rfl ?_
      obtain ⟨q2, hq2, h⟩ := l2_b h
      refine am_Rn.cl _ (some (.int q2.1)) (am_T0 q2.2) rfl rfl (rfX8_wrong (d + 0) N 2 (q1.2.1 128 7) q1.2 q2 hq2) ?_
      show am_Rn _ _ _ _ (41, [some (.ref 128), some (.int l1)], [.int q2.1], am_T0 q2.2)
      obtain ⟨hb3, h⟩ := l2_y h
      cases h
      exact am_Rn.rt _ rfl (l2_rz hb3)
    · refine am_Rn.ifF hc ?_
      refine am_Rn.op _ (43, [some (.ref 128), some (.int l1)], [.ref 128], am_T0 q1.2) rfl rfl ?_
      refine am_Rn.op _ (44, [some (.ref 128), some (.int l1)], [.ref 128, .ref 128], am_T0 q1.2) rfl rfl ?_
      refine am_Rn.op _ (47, [some (.ref 128), some (.int l1)], [.int (q1.2.1 128 15), .ref 128], am_T0 q1.2) rfl rfl ?_
      refine am_Rn.op _ (48, [some (.ref 128), some (.int l1)], [.int 1, .int (q1.2.1 128 15), .ref 128], am_T0 q1.2) rfl rfl ?_
      refine am_Rn.op _ (49, [some (.ref 128), some (.int l1)], [.int ((q1.2.1 128 15) + 1), .ref 128], am_T0 q1.2) rfl rfl ?_
      refine am_Rn.op _ (52, [some (.ref 128), some (.int l1)], [], am_T0 (st_i q1.2 128 15 ((q1.2.1 128 15) + 1))) rfl rfl ?_
      refine am_Rn.op _ (53, [some (.ref 128), some (.int l1)], [.ref 128], am_T0 (st_i q1.2 128 15 ((q1.2.1 128 15) + 1))) rfl rfl ?_
      refine am_Rn.op _ (56, [some (.ref 128), some (.int l1)], [.ref 136], am_T0 (st_i q1.2 128 15 ((q1.2.1 128 15) + 1))) rfl rfl ?_
      refine am_Rn.op _ (57, [some (.ref 128), some (.int l1)], [.ref 128, .ref 136], am_T0 (st_i q1.2 128 15 ((q1.2.1 128 15) + 1))) rfl rfl ?_
      refine am_Rn.op _ (60, [some (.ref 128), some (.int l1)], [.int ((st_i q1.2 128 15 ((q1.2.1 128 15) + 1)).1 128 15), .ref 136], am_T0 (st_i q1.2 128 15 ((q1.2.1 128 15) + 1))) rfl rfl ?_
      refine am_Rn.op _ (61, [some (.ref 128), some (.int l1)], [.ref 128, .int ((st_i q1.2 128 15 ((q1.2.1 128 15) + 1)).1 128 15), .ref 136], am_T0 (st_i q1.2 128 15 ((q1.2.1 128 15) + 1))) rfl rfl ?_
      refine am_Rn.op _ (64, [some (.ref 128), some (.int l1)], [.int ((st_i q1.2 128 15 ((q1.2.1 128 15) + 1)).1 128 7), .int ((st_i q1.2 128 15 ((q1.2.1 128 15) + 1)).1 128 15), .ref 136], am_T0 (st_i q1.2 128 15 ((q1.2.1 128 15) + 1))) rfl rfl ?_
      obtain ⟨hb4, h⟩ := l2_n h
      refine am_Rn.iast (n := 9) rfl rfl hb4 ?_
      show am_Rn _ _ _ _ (65, [some (.ref 128), some (.int l1)], [], am_T0 (st_i (st_i q1.2 128 15 ((q1.2.1 128 15) + 1)) 136 (Int32.toNatClampNeg ((st_i q1.2 128 15 ((q1.2.1 128 15) + 1)).1 128 15)) ((st_i q1.2 128 15 ((q1.2.1 128 15) + 1)).1 128 7)))
      refine am_Rn.op _ (66, [some (.ref 128), some (.int l1)], [.ref 128], am_T0 (st_i (st_i q1.2 128 15 ((q1.2.1 128 15) + 1)) 136 (Int32.toNatClampNeg ((st_i q1.2 128 15 ((q1.2.1 128 15) + 1)).1 128 15)) ((st_i q1.2 128 15 ((q1.2.1 128 15) + 1)).1 128 7))) rfl rfl ?_
      refine am_Rn.op _ (69, [some (.ref 128), some (.int l1)], [.ref 137], am_T0 (st_i (st_i q1.2 128 15 ((q1.2.1 128 15) + 1)) 136 (Int32.toNatClampNeg ((st_i q1.2 128 15 ((q1.2.1 128 15) + 1)).1 128 15)) ((st_i q1.2 128 15 ((q1.2.1 128 15) + 1)).1 128 7))) rfl rfl ?_
      refine am_Rn.op _ (70, [some (.ref 128), some (.int l1)], [.ref 128, .ref 137], am_T0 (st_i (st_i q1.2 128 15 ((q1.2.1 128 15) + 1)) 136 (Int32.toNatClampNeg ((st_i q1.2 128 15 ((q1.2.1 128 15) + 1)).1 128 15)) ((st_i q1.2 128 15 ((q1.2.1 128 15) + 1)).1 128 7))) rfl rfl ?_
      refine am_Rn.op _ (73, [some (.ref 128), some (.int l1)], [.int ((st_i (st_i q1.2 128 15 ((q1.2.1 128 15) + 1)) 136 (Int32.toNatClampNeg ((st_i q1.2 128 15 ((q1.2.1 128 15) + 1)).1 128 15)) ((st_i q1.2 128 15 ((q1.2.1 128 15) + 1)).1 128 7)).1 128 15), .ref 137], am_T0 (st_i (st_i q1.2 128 15 ((q1.2.1 128 15) + 1)) 136 (Int32.toNatClampNeg ((st_i q1.2 128 15 ((q1.2.1 128 15) + 1)).1 128 15)) ((st_i q1.2 128 15 ((q1.2.1 128 15) + 1)).1 128 7))) rfl rfl ?_
      refine am_Rn.op _ (74, [some (.ref 128), some (.int l1)], [.int l1, .int ((st_i (st_i q1.2 128 15 ((q1.2.1 128 15) + 1)) 136 (Int32.toNatClampNeg ((st_i q1.2 128 15 ((q1.2.1 128 15) + 1)).1 128 15)) ((st_i q1.2 128 15 ((q1.2.1 128 15) + 1)).1 128 7)).1 128 15), .ref 137], am_T0 (st_i (st_i q1.2 128 15 ((q1.2.1 128 15) + 1)) 136 (Int32.toNatClampNeg ((st_i q1.2 128 15 ((q1.2.1 128 15) + 1)).1 128 15)) ((st_i q1.2 128 15 ((q1.2.1 128 15) + 1)).1 128 7))) rfl rfl ?_
      obtain ⟨hb5, h⟩ := l2_n h
      refine am_Rn.iast (n := 9) rfl rfl hb5 ?_
      show am_Rn _ _ _ _ (75, [some (.ref 128), some (.int l1)], [], am_T0 (st_i (st_i (st_i q1.2 128 15 ((q1.2.1 128 15) + 1)) 136 (Int32.toNatClampNeg ((st_i q1.2 128 15 ((q1.2.1 128 15) + 1)).1 128 15)) ((st_i q1.2 128 15 ((q1.2.1 128 15) + 1)).1 128 7)) 137 (Int32.toNatClampNeg ((st_i (st_i q1.2 128 15 ((q1.2.1 128 15) + 1)) 136 (Int32.toNatClampNeg ((st_i q1.2 128 15 ((q1.2.1 128 15) + 1)).1 128 15)) ((st_i q1.2 128 15 ((q1.2.1 128 15) + 1)).1 128 7)).1 128 15)) l1))
      refine am_Rn.op _ (76, [some (.ref 128), some (.int l1)], [.ref 128], am_T0 (st_i (st_i (st_i q1.2 128 15 ((q1.2.1 128 15) + 1)) 136 (Int32.toNatClampNeg ((st_i q1.2 128 15 ((q1.2.1 128 15) + 1)).1 128 15)) ((st_i q1.2 128 15 ((q1.2.1 128 15) + 1)).1 128 7)) 137 (Int32.toNatClampNeg ((st_i (st_i q1.2 128 15 ((q1.2.1 128 15) + 1)) 136 (Int32.toNatClampNeg ((st_i q1.2 128 15 ((q1.2.1 128 15) + 1)).1 128 15)) ((st_i q1.2 128 15 ((q1.2.1 128 15) + 1)).1 128 7)).1 128 15)) l1)) rfl rfl ?_
      refine am_Rn.op _ (77, [some (.ref 128), some (.int l1)], [.ref 128, .ref 128], am_T0 (st_i (st_i (st_i q1.2 128 15 ((q1.2.1 128 15) + 1)) 136 (Int32.toNatClampNeg ((st_i q1.2 128 15 ((q1.2.1 128 15) + 1)).1 128 15)) ((st_i q1.2 128 15 ((q1.2.1 128 15) + 1)).1 128 7)) 137 (Int32.toNatClampNeg ((st_i (st_i q1.2 128 15 ((q1.2.1 128 15) + 1)) 136 (Int32.toNatClampNeg ((st_i q1.2 128 15 ((q1.2.1 128 15) + 1)).1 128 15)) ((st_i q1.2 128 15 ((q1.2.1 128 15) + 1)).1 128 7)).1 128 15)) l1)) rfl rfl ?_
      refine am_Rn.op _ (80, [some (.ref 128), some (.int l1)], [.int ((st_i (st_i (st_i q1.2 128 15 ((q1.2.1 128 15) + 1)) 136 (Int32.toNatClampNeg ((st_i q1.2 128 15 ((q1.2.1 128 15) + 1)).1 128 15)) ((st_i q1.2 128 15 ((q1.2.1 128 15) + 1)).1 128 7)) 137 (Int32.toNatClampNeg ((st_i (st_i q1.2 128 15 ((q1.2.1 128 15) + 1)) 136 (Int32.toNatClampNeg ((st_i q1.2 128 15 ((q1.2.1 128 15) + 1)).1 128 15)) ((st_i q1.2 128 15 ((q1.2.1 128 15) + 1)).1 128 7)).1 128 15)) l1).1 128 7), .ref 128], am_T0 (st_i (st_i (st_i q1.2 128 15 ((q1.2.1 128 15) + 1)) 136 (Int32.toNatClampNeg ((st_i q1.2 128 15 ((q1.2.1 128 15) + 1)).1 128 15)) ((st_i q1.2 128 15 ((q1.2.1 128 15) + 1)).1 128 7)) 137 (Int32.toNatClampNeg ((st_i (st_i q1.2 128 15 ((q1.2.1 128 15) + 1)) 136 (Int32.toNatClampNeg ((st_i q1.2 128 15 ((q1.2.1 128 15) + 1)).1 128 15)) ((st_i q1.2 128 15 ((q1.2.1 128 15) + 1)).1 128 7)).1 128 15)) l1)) rfl rfl ?_
      refine am_Rn.op _ (81, [some (.ref 128), some (.int l1)], [.int 1, .int ((st_i (st_i (st_i q1.2 128 15 ((q1.2.1 128 15) + 1)) 136 (Int32.toNatClampNeg ((st_i q1.2 128 15 ((q1.2.1 128 15) + 1)).1 128 15)) ((st_i q1.2 128 15 ((q1.2.1 128 15) + 1)).1 128 7)) 137 (Int32.toNatClampNeg ((st_i (st_i q1.2 128 15 ((q1.2.1 128 15) + 1)) 136 (Int32.toNatClampNeg ((st_i q1.2 128 15 ((q1.2.1 128 15) + 1)).1 128 15)) ((st_i q1.2 128 15 ((q1.2.1 128 15) + 1)).1 128 7)).1 128 15)) l1).1 128 7), .ref 128], am_T0 (st_i (st_i (st_i q1.2 128 15 ((q1.2.1 128 15) + 1)) 136 (Int32.toNatClampNeg ((st_i q1.2 128 15 ((q1.2.1 128 15) + 1)).1 128 15)) ((st_i q1.2 128 15 ((q1.2.1 128 15) + 1)).1 128 7)) 137 (Int32.toNatClampNeg ((st_i (st_i q1.2 128 15 ((q1.2.1 128 15) + 1)) 136 (Int32.toNatClampNeg ((st_i q1.2 128 15 ((q1.2.1 128 15) + 1)).1 128 15)) ((st_i q1.2 128 15 ((q1.2.1 128 15) + 1)).1 128 7)).1 128 15)) l1)) rfl rfl ?_
      refine am_Rn.op _ (82, [some (.ref 128), some (.int l1)], [.int (((st_i (st_i (st_i q1.2 128 15 ((q1.2.1 128 15) + 1)) 136 (Int32.toNatClampNeg ((st_i q1.2 128 15 ((q1.2.1 128 15) + 1)).1 128 15)) ((st_i q1.2 128 15 ((q1.2.1 128 15) + 1)).1 128 7)) 137 (Int32.toNatClampNeg ((st_i (st_i q1.2 128 15 ((q1.2.1 128 15) + 1)) 136 (Int32.toNatClampNeg ((st_i q1.2 128 15 ((q1.2.1 128 15) + 1)).1 128 15)) ((st_i q1.2 128 15 ((q1.2.1 128 15) + 1)).1 128 7)).1 128 15)) l1).1 128 7) + 1), .ref 128], am_T0 (st_i (st_i (st_i q1.2 128 15 ((q1.2.1 128 15) + 1)) 136 (Int32.toNatClampNeg ((st_i q1.2 128 15 ((q1.2.1 128 15) + 1)).1 128 15)) ((st_i q1.2 128 15 ((q1.2.1 128 15) + 1)).1 128 7)) 137 (Int32.toNatClampNeg ((st_i (st_i q1.2 128 15 ((q1.2.1 128 15) + 1)) 136 (Int32.toNatClampNeg ((st_i q1.2 128 15 ((q1.2.1 128 15) + 1)).1 128 15)) ((st_i q1.2 128 15 ((q1.2.1 128 15) + 1)).1 128 7)).1 128 15)) l1)) rfl rfl ?_
      refine am_Rn.op _ (85, [some (.ref 128), some (.int l1)], [], am_T0 (st_i (st_i (st_i (st_i q1.2 128 15 ((q1.2.1 128 15) + 1)) 136 (Int32.toNatClampNeg ((st_i q1.2 128 15 ((q1.2.1 128 15) + 1)).1 128 15)) ((st_i q1.2 128 15 ((q1.2.1 128 15) + 1)).1 128 7)) 137 (Int32.toNatClampNeg ((st_i (st_i q1.2 128 15 ((q1.2.1 128 15) + 1)) 136 (Int32.toNatClampNeg ((st_i q1.2 128 15 ((q1.2.1 128 15) + 1)).1 128 15)) ((st_i q1.2 128 15 ((q1.2.1 128 15) + 1)).1 128 7)).1 128 15)) l1) 128 7 (((st_i (st_i (st_i q1.2 128 15 ((q1.2.1 128 15) + 1)) 136 (Int32.toNatClampNeg ((st_i q1.2 128 15 ((q1.2.1 128 15) + 1)).1 128 15)) ((st_i q1.2 128 15 ((q1.2.1 128 15) + 1)).1 128 7)) 137 (Int32.toNatClampNeg ((st_i (st_i q1.2 128 15 ((q1.2.1 128 15) + 1)) 136 (Int32.toNatClampNeg ((st_i q1.2 128 15 ((q1.2.1 128 15) + 1)).1 128 15)) ((st_i q1.2 128 15 ((q1.2.1 128 15) + 1)).1 128 7)).1 128 15)) l1).1 128 7) + 1))) rfl rfl ?_
      refine am_Rn.op _ (86, [some (.ref 128), some (.int l1)], [.int 1], am_T0 (st_i (st_i (st_i (st_i q1.2 128 15 ((q1.2.1 128 15) + 1)) 136 (Int32.toNatClampNeg ((st_i q1.2 128 15 ((q1.2.1 128 15) + 1)).1 128 15)) ((st_i q1.2 128 15 ((q1.2.1 128 15) + 1)).1 128 7)) 137 (Int32.toNatClampNeg ((st_i (st_i q1.2 128 15 ((q1.2.1 128 15) + 1)) 136 (Int32.toNatClampNeg ((st_i q1.2 128 15 ((q1.2.1 128 15) + 1)).1 128 15)) ((st_i q1.2 128 15 ((q1.2.1 128 15) + 1)).1 128 7)).1 128 15)) l1) 128 7 (((st_i (st_i (st_i q1.2 128 15 ((q1.2.1 128 15) + 1)) 136 (Int32.toNatClampNeg ((st_i q1.2 128 15 ((q1.2.1 128 15) + 1)).1 128 15)) ((st_i q1.2 128 15 ((q1.2.1 128 15) + 1)).1 128 7)) 137 (Int32.toNatClampNeg ((st_i (st_i q1.2 128 15 ((q1.2.1 128 15) + 1)) 136 (Int32.toNatClampNeg ((st_i q1.2 128 15 ((q1.2.1 128 15) + 1)).1 128 15)) ((st_i q1.2 128 15 ((q1.2.1 128 15) + 1)).1 128 7)).1 128 15)) l1).1 128 7) + 1))) rfl rfl ?_
      cases h
      exact am_Rn.rt _ rfl rfl
  · refine am_Rn.ifF hc ?_
    refine am_Rn.op _ (14, [some (.ref 128), some (.int l1)], [.ref 128], am_T0 q1.2) rfl rfl ?_
    refine am_Rn.op _ (15, [some (.ref 128), some (.int l1)], [.int 1, .ref 128], am_T0 q1.2) rfl rfl ?_
    refine am_Rn.op _ (16, [some (.ref 128), some (.int l1)], [.ref 128, .int 1, .ref 128], am_T0 q1.2) rfl rfl ?_
    refine am_Rn.op _ (19, [some (.ref 128), some (.int l1)], [.int (q1.2.1 128 7), .int 1, .ref 128], am_T0 q1.2) rfl rfl ?_
    obtain ⟨q6, hq6, h⟩ := l2_b h
    refine am_Rn.cl _ (some (.int q6.1)) (am_T0 q6.2) rfl rfl (rfX8_wrong (d + 0) N 1 (q1.2.1 128 7) q1.2 q6 hq6) ?_
    show am_Rn _ _ _ _ (22, [some (.ref 128), some (.int l1)], [.int q6.1], am_T0 q6.2)
    obtain ⟨hb7, h⟩ := l2_y h
    cases h
    exact am_Rn.rt _ rfl (l2_rz hb7)
-- X8_isTaking
def PfX8_isTaking_4 (d : Nat) (res : Option Value × am_S) (x : Int32 × Int32 × St) : Prop := am_Rn (am_C d) (am_ct 122) (am_rk 122) res (4, [some (.ref 128), some (.int x.1), some (.int x.2.1)], [], am_T0 x.2.2)
def QfX8_isTaking_4 (d : Nat) (res : Option Value × am_S) (y : (Int32 × St)) : Prop := res = (some (.int y.1), am_T0 y.2)
def fX8_isTaking_31 (N : Nat) (l2 : Int32) (s0 : Int32) (S : St) : Option ((Int32 × Int32 × St) ⊕ ((Int32 × St))) := some (.inl (s0, (l2 + 1), S))
set_option maxRecDepth 20000 in
theorem rfX8_isTaking_31 (d N : Nat) (res : Option Value × am_S) (l2 : Int32) (s0 : Int32) (S : St) (z : (Int32 × Int32 × St) ⊕ ((Int32 × St))) (h : fX8_isTaking_31 N l2 s0 S = some z) (hz : Sum.elim (PfX8_isTaking_4 (d + 0) res ) (QfX8_isTaking_4 (d + 0) res ) z) (w1 : Option Value) : am_Rn (am_C (d + 0)) (am_ct 122) (am_rk 122) res (31, [some (.ref 128), w1, some (.int l2)], [.int s0], am_T0 S) := by
  unfold fX8_isTaking_31 at h
  refine am_Rn.op _ (32, [some (.ref 128), some (.int s0), some (.int l2)], [], am_T0 S) rfl rfl ?_
  refine am_Rn.op _ (35, [some (.ref 128), some (.int s0), some (.int (l2 + 1))], [], am_T0 S) rfl rfl ?_
  refine am_Rn.op _ (4, [some (.ref 128), some (.int s0), some (.int (l2 + 1))], [], am_T0 S) rfl rfl ?_
  cases h
  exact hz 
def fX8_isTaking_26 (N : Nat) (l2 : Int32) (S : St) : Option ((Int32 × Int32 × St) ⊕ ((Int32 × St))) := fX8_isTaking_31 N l2 1 S
set_option maxRecDepth 20000 in
theorem rfX8_isTaking_26 (d N : Nat) (res : Option Value × am_S) (l2 : Int32) (S : St) (z : (Int32 × Int32 × St) ⊕ ((Int32 × St))) (h : fX8_isTaking_26 N l2 S = some z) (hz : Sum.elim (PfX8_isTaking_4 (d + 0) res ) (QfX8_isTaking_4 (d + 0) res ) z) (w1 : Option Value) : am_Rn (am_C (d + 0)) (am_ct 122) (am_rk 122) res (26, [some (.ref 128), w1, some (.int l2)], [], am_T0 S) := by
  unfold fX8_isTaking_26 at h
  refine am_Rn.op _ (27, [some (.ref 128), w1, some (.int l2)], [.int 1], am_T0 S) rfl rfl ?_
  refine am_Rn.op _ (31, [some (.ref 128), w1, some (.int l2)], [.int 1], am_T0 S) rfl rfl ?_
  exact rfX8_isTaking_31 d N _ l2 1 S _ h hz _
def bfX8_isTaking_4 (N : Nat) (x : Int32 × Int32 × St) : Option ((Int32 × Int32 × St) ⊕ ((Int32 × St))) := (if (x.2.2.1 128 15) < x.2.1 then (if x.1 = 0 ∨ x.1 = 1 then some (.inr (x.1, x.2.2)) else none) else (if x.1 = 0 then (if x.2.1 < 0 ∨ 9 ≤ Int32.toNatClampNeg x.2.1 then none else (if (x.2.2.1 137 (Int32.toNatClampNeg x.2.1)) = 5 then fX8_isTaking_26 N x.2.1 x.2.2 else fX8_isTaking_31 N x.2.1 0 x.2.2)) else fX8_isTaking_26 N x.2.1 x.2.2))
def fX8_isTaking_4 (N : Nat) (x : Int32 × Int32 × St) : Option ((Int32 × St)) := whl N (bfX8_isTaking_4 N ) x
set_option maxRecDepth 20000 in
theorem rbfX8_isTaking_4 (d N : Nat) (res : Option Value × am_S) (x : Int32 × Int32 × St) (z : (Int32 × Int32 × St) ⊕ ((Int32 × St))) (h : bfX8_isTaking_4 N x = some z) (hz : Sum.elim (PfX8_isTaking_4 (d + 0) res ) (QfX8_isTaking_4 (d + 0) res ) z) : PfX8_isTaking_4 (d + 0) res x := by
  unfold bfX8_isTaking_4 at h
  show am_Rn (am_C (d + 0)) (am_ct 122) (am_rk 122) res (4, [some (.ref 128), some (.int x.1), some (.int x.2.1)], [], am_T0 x.2.2)
  refine am_Rn.op _ (5, [some (.ref 128), some (.int x.1), some (.int x.2.1)], [.int x.2.1], am_T0 x.2.2) rfl rfl ?_
  refine am_Rn.op _ (6, [some (.ref 128), some (.int x.1), some (.int x.2.1)], [.ref 128, .int x.2.1], am_T0 x.2.2) rfl rfl ?_
  refine am_Rn.op _ (9, [some (.ref 128), some (.int x.1), some (.int x.2.1)], [.int (x.2.2.1 128 15), .int x.2.1], am_T0 x.2.2) rfl rfl ?_
  refine am_Rn.op _ (if (x.2.2.1 128 15) < x.2.1 then 38 else 12, [some (.ref 128), some (.int x.1), some (.int x.2.1)], [], am_T0 x.2.2) rfl rfl ?_
  rcases l2_i h with ⟨hc, h⟩ | ⟨hc, h⟩
  · refine am_Rn.ifT hc ?_
    refine am_Rn.op _ (39, [some (.ref 128), some (.int x.1), some (.int x.2.1)], [.int x.1], am_T0 x.2.2) rfl rfl ?_
    obtain ⟨hb1, h⟩ := l2_y h
    cases h
    exact am_Rn.rt2 _ rfl (l2_rz hb1) hz
  · refine am_Rn.ifF hc ?_
    refine am_Rn.op _ (13, [some (.ref 128), some (.int x.1), some (.int x.2.1)], [.int x.1], am_T0 x.2.2) rfl rfl ?_
    refine am_Rn.op _ (if x.1 = 0 then 16 else 26, [some (.ref 128), some (.int x.1), some (.int x.2.1)], [], am_T0 x.2.2) rfl rfl ?_
    rcases l2_i h with ⟨hc, h⟩ | ⟨hc, h⟩
    · refine am_Rn.ifT hc ?_
      refine am_Rn.op _ (17, [some (.ref 128), some (.int x.1), some (.int x.2.1)], [.ref 128], am_T0 x.2.2) rfl rfl ?_
      refine am_Rn.op _ (20, [some (.ref 128), some (.int x.1), some (.int x.2.1)], [.ref 137], am_T0 x.2.2) rfl rfl ?_
      refine am_Rn.op _ (21, [some (.ref 128), some (.int x.1), some (.int x.2.1)], [.int x.2.1, .ref 137], am_T0 x.2.2) rfl rfl ?_
      obtain ⟨hb2, h⟩ := l2_n h
      refine am_Rn.iald (n := 9) rfl rfl hb2 ?_
      show am_Rn _ _ _ _ (22, [some (.ref 128), some (.int x.1), some (.int x.2.1)], [.int (x.2.2.1 137 (Int32.toNatClampNeg x.2.1))], am_T0 x.2.2)
      refine am_Rn.op _ (23, [some (.ref 128), some (.int x.1), some (.int x.2.1)], [.int 5, .int (x.2.2.1 137 (Int32.toNatClampNeg x.2.1))], am_T0 x.2.2) rfl rfl ?_
      refine am_Rn.op _ (if (x.2.2.1 137 (Int32.toNatClampNeg x.2.1)) = 5 then 26 else 30, [some (.ref 128), some (.int x.1), some (.int x.2.1)], [], am_T0 x.2.2) rfl rfl ?_
      rcases l2_i h with ⟨hc, h⟩ | ⟨hc, h⟩
      · refine am_Rn.ifT hc ?_
        exact rfX8_isTaking_26 d N _ x.2.1 x.2.2 _ h hz _
      · refine am_Rn.ifF hc ?_
        refine am_Rn.op _ (31, [some (.ref 128), some (.int x.1), some (.int x.2.1)], [.int 0], am_T0 x.2.2) rfl rfl ?_
        exact rfX8_isTaking_31 d N _ x.2.1 0 x.2.2 _ h hz _
    · refine am_Rn.ifF hc ?_
      exact rfX8_isTaking_26 d N _ x.2.1 x.2.2 _ h hz _
theorem rfX8_isTaking_4 (d N : Nat) (res : Option Value × am_S) (x : Int32 × Int32 × St) (y : (Int32 × St)) (h : fX8_isTaking_4 N x = some y) (hq : QfX8_isTaking_4 (d + 0) res y) : PfX8_isTaking_4 (d + 0) res x := whl_ind _ _ (fun x z => rbfX8_isTaking_4 d N res x z) N x y h hq
def fX8_isTaking (N : Nat) (S : St) : Option (Int32 × St) := (fX8_isTaking_4 N (0, 1, S)).bind (fun y3 => some (y3.1, y3.2))
set_option maxRecDepth 20000 in
theorem rfX8_isTaking (d N : Nat) (S : St) (z : (Int32 × St)) (h : fX8_isTaking N S = some z) : am_C (d + 1) 122 [.ref 128] (am_T0 S) (some (.int z.1), am_T0 z.2) := by
  unfold fX8_isTaking at h
  show am_Rn (am_C (d + 0)) (am_ct 122) (am_rk 122) (some (.int z.1), am_T0 z.2) (0, [some (.ref 128), none, none], [], am_T0 S)
  refine am_Rn.op _ (1, [some (.ref 128), none, none], [.int 0], am_T0 S) rfl rfl ?_
  refine am_Rn.op _ (2, [some (.ref 128), some (.int 0), none], [], am_T0 S) rfl rfl ?_
  refine am_Rn.op _ (3, [some (.ref 128), some (.int 0), none], [.int 1], am_T0 S) rfl rfl ?_
  refine am_Rn.op _ (4, [some (.ref 128), some (.int 0), some (.int 1)], [], am_T0 S) rfl rfl ?_
  obtain ⟨y3, hy3, h⟩ := l2_b h
  refine rfX8_isTaking_4 d N _  (0, 1, S) y3 hy3 ?_ 
  cases h
  exact rfl
-- X8_isLetter
def fX8_isLetter_17 (N : Nat) (s0 : Int32) (S : St) : Option (Int32 × St) := (if s0 = 0 ∨ s0 = 1 then some (s0, S) else none)
set_option maxRecDepth 20000 in
theorem rfX8_isLetter_17 (d N : Nat) (s0 : Int32) (S : St) (z : (Int32 × St)) (h : fX8_isLetter_17 N s0 S = some z) (w0 : Option Value) : am_Rn (am_C (d + 0)) (am_ct 123) (am_rk 123) (some (.int z.1), am_T0 z.2) (17, [w0], [.int s0], am_T0 S) := by
  unfold fX8_isLetter_17 at h
  obtain ⟨hb1, h⟩ := l2_y h
  cases h
  exact am_Rn.rt _ rfl (l2_rz hb1)
def fX8_isLetter (N : Nat) (l0 : Int32) (S : St) : Option (Int32 × St) := (if l0 < 65 then fX8_isLetter_17 N 0 S else (if 70 < l0 then fX8_isLetter_17 N 0 S else fX8_isLetter_17 N 1 S))
set_option maxRecDepth 20000 in
theorem rfX8_isLetter (d N : Nat) (l0 : Int32) (S : St) (z : (Int32 × St)) (h : fX8_isLetter N l0 S = some z) : am_C (d + 1) 123 [.int l0] (am_T0 S) (some (.int z.1), am_T0 z.2) := by
  unfold fX8_isLetter at h
  show am_Rn (am_C (d + 0)) (am_ct 123) (am_rk 123) (some (.int z.1), am_T0 z.2) (0, [some (.int l0)], [], am_T0 S)
  refine am_Rn.op _ (1, [some (.int l0)], [.int l0], am_T0 S) rfl rfl ?_
  refine am_Rn.op _ (3, [some (.int l0)], [.int 65, .int l0], am_T0 S) rfl rfl ?_
  refine am_Rn.op _ (if l0 < 65 then 16 else 6, [some (.int l0)], [], am_T0 S) rfl rfl ?_
  rcases l2_i h with ⟨hc, h⟩ | ⟨hc, h⟩
  · refine am_Rn.ifT hc ?_
    refine am_Rn.op _ (17, [some (.int l0)], [.int 0], am_T0 S) rfl rfl ?_
    exact rfX8_isLetter_17 d N 0 S _ h _
  · refine am_Rn.ifF hc ?_
    refine am_Rn.op _ (7, [some (.int l0)], [.int l0], am_T0 S) rfl rfl ?_
    refine am_Rn.op _ (9, [some (.int l0)], [.int 70, .int l0], am_T0 S) rfl rfl ?_
    refine am_Rn.op _ (if 70 < l0 then 16 else 12, [some (.int l0)], [], am_T0 S) rfl rfl ?_
    rcases l2_i h with ⟨hc, h⟩ | ⟨hc, h⟩
    · refine am_Rn.ifT hc ?_
      refine am_Rn.op _ (17, [some (.int l0)], [.int 0], am_T0 S) rfl rfl ?_
      exact rfX8_isLetter_17 d N 0 S _ h _
    · refine am_Rn.ifF hc ?_
      refine am_Rn.op _ (13, [some (.int l0)], [.int 1], am_T0 S) rfl rfl ?_
      refine am_Rn.op _ (17, [some (.int l0)], [.int 1], am_T0 S) rfl rfl ?_
      exact rfX8_isLetter_17 d N 1 S _ h _
-- X8_goesOn
def fX8_goesOn_134 (N : Nat) (s0 : Int32) (S : St) : Option (Int32 × St) := (if s0 = 0 ∨ s0 = 1 then some (s0, S) else none)
set_option maxRecDepth 20000 in
theorem rfX8_goesOn_134 (d N : Nat) (s0 : Int32) (S : St) (z : (Int32 × St)) (h : fX8_goesOn_134 N s0 S = some z) (w0 : Option Value) (w1 : Option Value) (w2 : Option Value) (w3 : Option Value) : am_Rn (am_C (d + 2)) (am_ct 124) (am_rk 124) (some (.int z.1), am_T0 z.2) (134, [w0, w1, w2, w3], [.int s0], am_T0 S) := by
  unfold fX8_goesOn_134 at h
  obtain ⟨hb1, h⟩ := l2_y h
  cases h
  exact am_Rn.rt _ rfl (l2_rz hb1)
def fX8_goesOn_129 (N : Nat) (S : St) : Option (Int32 × St) := fX8_goesOn_134 N 1 S
set_option maxRecDepth 20000 in
theorem rfX8_goesOn_129 (d N : Nat) (S : St) (z : (Int32 × St)) (h : fX8_goesOn_129 N S = some z) (w0 : Option Value) (w1 : Option Value) (w2 : Option Value) (w3 : Option Value) : am_Rn (am_C (d + 2)) (am_ct 124) (am_rk 124) (some (.int z.1), am_T0 z.2) (129, [w0, w1, w2, w3], [], am_T0 S) := by
  unfold fX8_goesOn_129 at h
  refine am_Rn.op _ (130, [w0, w1, w2, w3], [.int 1], am_T0 S) rfl rfl ?_
  refine am_Rn.op _ (134, [w0, w1, w2, w3], [.int 1], am_T0 S) rfl rfl ?_
  exact rfX8_goesOn_134 d N 1 S _ h _ _ _ _
def fX8_goesOn_23 (N : Nat) (l1 : Int32) (l2 : Int32) (S : St) : Option (Int32 × St) := (fX8_sign N (S.1 128 7) S).bind (fun q2 => (fX8_isLetter N q2.1 q2.2).bind (fun q3 => (if q3.1 = 0 then (if q2.1 = 90 then (fX8_opens N 6 (st_i q3.2 128 7 ((q3.2.1 128 7) + 1))).bind (fun q4 => (if q4.1 = 0 ∨ q4.1 = 1 then some (q4.1, q4.2) else none)) else (if l1 = 5 then fX8_goesOn_129 N q3.2 else (fX8_wrong N 1 (q3.2.1 128 7) q3.2).bind (fun q6 => (if q6.1 = 0 then fX8_goesOn_134 N 0 q6.2 else fX8_goesOn_129 N q6.2)))) else (if l2 = 6 then (fX8_wrong N 3 (q3.2.1 128 7) q3.2).bind (fun q7 => (if q7.1 = 0 ∨ q7.1 = 1 then some (q7.1, q7.2) else none)) else (fX8_opens N 5 (st_i q3.2 128 7 ((q3.2.1 128 7) + 1))).bind (fun q9 => (if q9.1 = 0 then some (0, q9.2) else (if (q9.2.1 128 15) < 0 ∨ 9 ≤ Int32.toNatClampNeg (q9.2.1 128 15) then none else some (1, (st_i q9.2 138 (Int32.toNatClampNeg (q9.2.1 128 15)) (l2 + 1))))))))))
set_option maxRecDepth 20000 in
theorem rfX8_goesOn_23 (d N : Nat) (l1 : Int32) (l2 : Int32) (S : St) (z : (Int32 × St)) (h : fX8_goesOn_23 N l1 l2 S = some z) (w3 : Option Value) : am_Rn (am_C (d + 2)) (am_ct 124) (am_rk 124) (some (.int z.1), am_T0 z.2) (23, [some (.ref 128), some (.int l1), some (.int l2), w3], [], am_T0 S) := by
  unfold fX8_goesOn_23 at h
  refine am_Rn.op _ (24, [some (.ref 128), some (.int l1), some (.int l2), w3], [.ref 128], am_T0 S) rfl rfl ?_
  refine am_Rn.op _ (25, [some (.ref 128), some (.int l1), some (.int l2), w3], [.ref 128, .ref 128], am_T0 S) rfl rfl ?_
  refine am_Rn.op _ (28, [some (.ref 128), some (.int l1), some (.int l2), w3], [.int (S.1 128 7), .ref 128], am_T0 S) rfl rfl ?_
  obtain ⟨q2, hq2, h⟩ := l2_b h
  refine am_Rn.cl _ (some (.int q2.1)) (am_T0 q2.2) rfl rfl (rfX8_sign (d + 1) N (S.1 128 7) S q2 hq2) ?_
  show am_Rn _ _ _ _ (31, [some (.ref 128), some (.int l1), some (.int l2), w3], [.int q2.1], am_T0 q2.2)
  refine am_Rn.op _ (32, [some (.ref 128), some (.int l1), some (.int l2), some (.int q2.1)], [], am_T0 q2.2) rfl rfl ?_
  refine am_Rn.op _ (33, [some (.ref 128), some (.int l1), some (.int l2), some (.int q2.1)], [.int q2.1], am_T0 q2.2) rfl rfl ?_
  obtain ⟨q3, hq3, h⟩ := l2_b h
  refine am_Rn.cl _ (some (.int q3.1)) (am_T0 q3.2) rfl rfl (rfX8_isLetter (d + 1) N q2.1 q2.2 q3 hq3) ?_
  show am_Rn _ _ _ _ (36, [some (.ref 128), some (.int l1), some (.int l2), some (.int q2.1)], [.int q3.1], am_T0 q3.2)
  refine am_Rn.op _ (if q3.1 = 0 then 89 else 39, [some (.ref 128), some (.int l1), some (.int l2), some (.int q2.1)], [], am_T0 q3.2) rfl rfl ?_
  rcases l2_i h with ⟨hc, h⟩ | ⟨hc, h⟩
  · refine am_Rn.ifT hc ?_
    refine am_Rn.op _ (90, [some (.ref 128), some (.int l1), some (.int l2), some (.int q2.1)], [.int q2.1], am_T0 q3.2) rfl rfl ?_
    refine am_Rn.op _ (92, [some (.ref 128), some (.int l1), some (.int l2), some (.int q2.1)], [.int 90, .int q2.1], am_T0 q3.2) rfl rfl ?_
    refine am_Rn.op _ (if q2.1 = 90 then 95 else 112, [some (.ref 128), some (.int l1), some (.int l2), some (.int q2.1)], [], am_T0 q3.2) rfl rfl ?_
    rcases l2_i h with ⟨hc, h⟩ | ⟨hc, h⟩
    · refine am_Rn.ifT hc ?_
      refine am_Rn.op _ (96, [some (.ref 128), some (.int l1), some (.int l2), some (.int q2.1)], [.ref 128], am_T0 q3.2) rfl rfl ?_
      refine am_Rn.op _ (97, [some (.ref 128), some (.int l1), some (.int l2), some (.int q2.1)], [.ref 128, .ref 128], am_T0 q3.2) rfl rfl ?_
      refine am_Rn.op _ (100, [some (.ref 128), some (.int l1), some (.int l2), some (.int q2.1)], [.int (q3.2.1 128 7), .ref 128], am_T0 q3.2) rfl rfl ?_
      refine am_Rn.op _ (101, [some (.ref 128), some (.int l1), some (.int l2), some (.int q2.1)], [.int 1, .int (q3.2.1 128 7), .ref 128], am_T0 q3.2) rfl rfl ?_
      refine am_Rn.op _ (102, [some (.ref 128), some (.int l1), some (.int l2), some (.int q2.1)], [.int ((q3.2.1 128 7) + 1), .ref 128], am_T0 q3.2) rfl rfl ?_
      refine am_Rn.op _ (105, [some (.ref 128), some (.int l1), some (.int l2), some (.int q2.1)], [], am_T0 (st_i q3.2 128 7 ((q3.2.1 128 7) + 1))) rfl rfl ?_
      refine am_Rn.op _ (106, [some (.ref 128), some (.int l1), some (.int l2), some (.int q2.1)], [.ref 128], am_T0 (st_i q3.2 128 7 ((q3.2.1 128 7) + 1))) rfl rfl ?_
      refine am_Rn.op _ (108, [some (.ref 128), some (.int l1), some (.int l2), some (.int q2.1)], [.int 6, .ref 128], am_T0 (st_i q3.2 128 7 ((q3.2.1 128 7) + 1))) rfl rfl ?_
      obtain ⟨q4, hq4, h⟩ := l2_b h
      refine am_Rn.cl _ (some (.int q4.1)) (am_T0 q4.2) rfl rfl (rfX8_opens (d + 0) N 6 (st_i q3.2 128 7 ((q3.2.1 128 7) + 1)) q4 hq4) ?_
      show am_Rn _ _ _ _ (111, [some (.ref 128), some (.int l1), some (.int l2), some (.int q2.1)], [.int q4.1], am_T0 q4.2)
      obtain ⟨hb5, h⟩ := l2_y h
      cases h
      exact am_Rn.rt _ rfl (l2_rz hb5)
    · refine am_Rn.ifF hc ?_
      refine am_Rn.op _ (113, [some (.ref 128), some (.int l1), some (.int l2), some (.int q2.1)], [.int l1], am_T0 q3.2) rfl rfl ?_
      refine am_Rn.op _ (114, [some (.ref 128), some (.int l1), some (.int l2), some (.int q2.1)], [.int 5, .int l1], am_T0 q3.2) rfl rfl ?_
      refine am_Rn.op _ (if l1 = 5 then 129 else 117, [some (.ref 128), some (.int l1), some (.int l2), some (.int q2.1)], [], am_T0 q3.2) rfl rfl ?_
      rcases l2_i h with ⟨hc, h⟩ | ⟨hc, h⟩
      · refine am_Rn.ifT hc ?_
        exact rfX8_goesOn_129 d N q3.2 _ h _ _ _ _
      · refine am_Rn.ifF hc ?_
        refine am_Rn.op _ (118, [some (.ref 128), some (.int l1), some (.int l2), some (.int q2.1)], [.ref 128], am_T0 q3.2) rfl rfl ?_
        refine am_Rn.op _ (119, [some (.ref 128), some (.int l1), some (.int l2), some (.int q2.1)], [.int 1, .ref 128], am_T0 q3.2) rfl rfl ?_
        refine am_Rn.op _ (120, [some (.ref 128), some (.int l1), some (.int l2), some (.int q2.1)], [.ref 128, .int 1, .ref 128], am_T0 q3.2) rfl rfl ?_
        refine am_Rn.op _ (123, [some (.ref 128), some (.int l1), some (.int l2), some (.int q2.1)], [.int (q3.2.1 128 7), .int 1, .ref 128], am_T0 q3.2) rfl rfl ?_
        obtain ⟨q6, hq6, h⟩ := l2_b h
        refine am_Rn.cl _ (some (.int q6.1)) (am_T0 q6.2) rfl rfl (rfX8_wrong (d + 1) N 1 (q3.2.1 128 7) q3.2 q6 hq6) ?_
        show am_Rn _ _ _ _ (126, [some (.ref 128), some (.int l1), some (.int l2), some (.int q2.1)], [.int q6.1], am_T0 q6.2)
        refine am_Rn.op _ (if q6.1 = 0 then 133 else 129, [some (.ref 128), some (.int l1), some (.int l2), some (.int q2.1)], [], am_T0 q6.2) rfl rfl ?_
        rcases l2_i h with ⟨hc, h⟩ | ⟨hc, h⟩
        · refine am_Rn.ifT hc ?_
          refine am_Rn.op _ (134, [some (.ref 128), some (.int l1), some (.int l2), some (.int q2.1)], [.int 0], am_T0 q6.2) rfl rfl ?_
          exact rfX8_goesOn_134 d N 0 q6.2 _ h _ _ _ _
        · refine am_Rn.ifF hc ?_
          exact rfX8_goesOn_129 d N q6.2 _ h _ _ _ _
  · refine am_Rn.ifF hc ?_
    refine am_Rn.op _ (40, [some (.ref 128), some (.int l1), some (.int l2), some (.int q2.1)], [.int l2], am_T0 q3.2) rfl rfl ?_
    refine am_Rn.op _ (42, [some (.ref 128), some (.int l1), some (.int l2), some (.int q2.1)], [.int 6, .int l2], am_T0 q3.2) rfl rfl ?_
    refine am_Rn.op _ (if l2 = 6 then 45 else 55, [some (.ref 128), some (.int l1), some (.int l2), some (.int q2.1)], [], am_T0 q3.2) rfl rfl ?_
    rcases l2_i h with ⟨hc, h⟩ | ⟨hc, h⟩
    · refine am_Rn.ifT hc ?_
      refine am_Rn.op _ (46, [some (.ref 128), some (.int l1), some (.int l2), some (.int q2.1)], [.ref 128], am_T0 q3.2) rfl rfl ?_
      refine am_Rn.op _ (47, [some (.ref 128), some (.int l1), some (.int l2), some (.int q2.1)], [.int 3, .ref 128], am_T0 q3.2) rfl rfl ?_
      refine am_Rn.op _ (48, [some (.ref 128), some (.int l1), some (.int l2), some (.int q2.1)], [.ref 128, .int 3, .ref 128], am_T0 q3.2) rfl rfl ?_
      refine am_Rn.op _ (51, [some (.ref 128), some (.int l1), some (.int l2), some (.int q2.1)], [.int (q3.2.1 128 7), .int 3, .ref 128], am_T0 q3.2) rfl rfl ?_
      obtain ⟨q7, hq7, h⟩ := l2_b h
      refine am_Rn.cl _ (some (.int q7.1)) (am_T0 q7.2) rfl rfl (rfX8_wrong (d + 1) N 3 (q3.2.1 128 7) q3.2 q7 hq7) ?_
      show am_Rn _ _ _ _ (54, [some (.ref 128), some (.int l1), some (.int l2), some (.int q2.1)], [.int q7.1], am_T0 q7.2)
      obtain ⟨hb8, h⟩ := l2_y h
      cases h
      exact am_Rn.rt _ rfl (l2_rz hb8)
    · refine am_Rn.ifF hc ?_
      refine am_Rn.op _ (56, [some (.ref 128), some (.int l1), some (.int l2), some (.int q2.1)], [.ref 128], am_T0 q3.2) rfl rfl ?_
      refine am_Rn.op _ (57, [some (.ref 128), some (.int l1), some (.int l2), some (.int q2.1)], [.ref 128, .ref 128], am_T0 q3.2) rfl rfl ?_
      refine am_Rn.op _ (60, [some (.ref 128), some (.int l1), some (.int l2), some (.int q2.1)], [.int (q3.2.1 128 7), .ref 128], am_T0 q3.2) rfl rfl ?_
      refine am_Rn.op _ (61, [some (.ref 128), some (.int l1), some (.int l2), some (.int q2.1)], [.int 1, .int (q3.2.1 128 7), .ref 128], am_T0 q3.2) rfl rfl ?_
      refine am_Rn.op _ (62, [some (.ref 128), some (.int l1), some (.int l2), some (.int q2.1)], [.int ((q3.2.1 128 7) + 1), .ref 128], am_T0 q3.2) rfl rfl ?_
      refine am_Rn.op _ (65, [some (.ref 128), some (.int l1), some (.int l2), some (.int q2.1)], [], am_T0 (st_i q3.2 128 7 ((q3.2.1 128 7) + 1))) rfl rfl ?_
      refine am_Rn.op _ (66, [some (.ref 128), some (.int l1), some (.int l2), some (.int q2.1)], [.ref 128], am_T0 (st_i q3.2 128 7 ((q3.2.1 128 7) + 1))) rfl rfl ?_
      refine am_Rn.op _ (67, [some (.ref 128), some (.int l1), some (.int l2), some (.int q2.1)], [.int 5, .ref 128], am_T0 (st_i q3.2 128 7 ((q3.2.1 128 7) + 1))) rfl rfl ?_
      obtain ⟨q9, hq9, h⟩ := l2_b h
      refine am_Rn.cl _ (some (.int q9.1)) (am_T0 q9.2) rfl rfl (rfX8_opens (d + 0) N 5 (st_i q3.2 128 7 ((q3.2.1 128 7) + 1)) q9 hq9) ?_
      show am_Rn _ _ _ _ (70, [some (.ref 128), some (.int l1), some (.int l2), some (.int q2.1)], [.int q9.1], am_T0 q9.2)
      refine am_Rn.op _ (if q9.1 = 0 then 73 else 75, [some (.ref 128), some (.int l1), some (.int l2), some (.int q2.1)], [], am_T0 q9.2) rfl rfl ?_
      rcases l2_i h with ⟨hc, h⟩ | ⟨hc, h⟩
      · refine am_Rn.ifT hc ?_
        refine am_Rn.op _ (74, [some (.ref 128), some (.int l1), some (.int l2), some (.int q2.1)], [.int 0], am_T0 q9.2) rfl rfl ?_
        cases h
        exact am_Rn.rt _ rfl rfl
      · refine am_Rn.ifF hc ?_
        refine am_Rn.op _ (76, [some (.ref 128), some (.int l1), some (.int l2), some (.int q2.1)], [.ref 128], am_T0 q9.2) rfl rfl ?_
        refine am_Rn.op _ (79, [some (.ref 128), some (.int l1), some (.int l2), some (.int q2.1)], [.ref 138], am_T0 q9.2) rfl rfl ?_
        refine am_Rn.op _ (80, [some (.ref 128), some (.int l1), some (.int l2), some (.int q2.1)], [.ref 128, .ref 138], am_T0 q9.2) rfl rfl ?_
        refine am_Rn.op _ (83, [some (.ref 128), some (.int l1), some (.int l2), some (.int q2.1)], [.int (q9.2.1 128 15), .ref 138], am_T0 q9.2) rfl rfl ?_
        refine am_Rn.op _ (84, [some (.ref 128), some (.int l1), some (.int l2), some (.int q2.1)], [.int l2, .int (q9.2.1 128 15), .ref 138], am_T0 q9.2) rfl rfl ?_
        refine am_Rn.op _ (85, [some (.ref 128), some (.int l1), some (.int l2), some (.int q2.1)], [.int 1, .int l2, .int (q9.2.1 128 15), .ref 138], am_T0 q9.2) rfl rfl ?_
        refine am_Rn.op _ (86, [some (.ref 128), some (.int l1), some (.int l2), some (.int q2.1)], [.int (l2 + 1), .int (q9.2.1 128 15), .ref 138], am_T0 q9.2) rfl rfl ?_
        obtain ⟨hb10, h⟩ := l2_n h
        refine am_Rn.iast (n := 9) rfl rfl hb10 ?_
        show am_Rn _ _ _ _ (87, [some (.ref 128), some (.int l1), some (.int l2), some (.int q2.1)], [], am_T0 (st_i q9.2 138 (Int32.toNatClampNeg (q9.2.1 128 15)) (l2 + 1)))
        refine am_Rn.op _ (88, [some (.ref 128), some (.int l1), some (.int l2), some (.int q2.1)], [.int 1], am_T0 (st_i q9.2 138 (Int32.toNatClampNeg (q9.2.1 128 15)) (l2 + 1))) rfl rfl ?_
        cases h
        exact am_Rn.rt _ rfl rfl
def fX8_goesOn (N : Nat) (l1 : Int32) (l2 : Int32) (S : St) : Option (Int32 × St) := (if l1 = 1 then (fX8_opens N 2 S).bind (fun q11 => (if q11.1 = 0 ∨ q11.1 = 1 then some (q11.1, q11.2) else none)) else (if l1 = 4 then fX8_goesOn_23 N l1 l2 S else (if l1 = 5 then fX8_goesOn_23 N l1 l2 S else some (1, S))))
set_option maxRecDepth 20000 in
theorem rfX8_goesOn (d N : Nat) (l1 : Int32) (l2 : Int32) (S : St) (z : (Int32 × St)) (h : fX8_goesOn N l1 l2 S = some z) : am_C (d + 3) 124 [.ref 128, .int l1, .int l2] (am_T0 S) (some (.int z.1), am_T0 z.2) := by
  unfold fX8_goesOn at h
  show am_Rn (am_C (d + 2)) (am_ct 124) (am_rk 124) (some (.int z.1), am_T0 z.2) (0, [some (.ref 128), some (.int l1), some (.int l2), none], [], am_T0 S)
  refine am_Rn.op _ (1, [some (.ref 128), some (.int l1), some (.int l2), none], [.int l1], am_T0 S) rfl rfl ?_
  refine am_Rn.op _ (2, [some (.ref 128), some (.int l1), some (.int l2), none], [.int 1, .int l1], am_T0 S) rfl rfl ?_
  refine am_Rn.op _ (if l1 = 1 then 5 else 11, [some (.ref 128), some (.int l1), some (.int l2), none], [], am_T0 S) rfl rfl ?_
  rcases l2_i h with ⟨hc, h⟩ | ⟨hc, h⟩
  · refine am_Rn.ifT hc ?_
    refine am_Rn.op _ (6, [some (.ref 128), some (.int l1), some (.int l2), none], [.ref 128], am_T0 S) rfl rfl ?_
    refine am_Rn.op _ (7, [some (.ref 128), some (.int l1), some (.int l2), none], [.int 2, .ref 128], am_T0 S) rfl rfl ?_
    obtain ⟨q11, hq11, h⟩ := l2_b h
    refine am_Rn.cl _ (some (.int q11.1)) (am_T0 q11.2) rfl rfl (rfX8_opens (d + 0) N 2 S q11 hq11) ?_
    show am_Rn _ _ _ _ (10, [some (.ref 128), some (.int l1), some (.int l2), none], [.int q11.1], am_T0 q11.2)
    obtain ⟨hb12, h⟩ := l2_y h
    cases h
    exact am_Rn.rt _ rfl (l2_rz hb12)
  · refine am_Rn.ifF hc ?_
    refine am_Rn.op _ (12, [some (.ref 128), some (.int l1), some (.int l2), none], [.int l1], am_T0 S) rfl rfl ?_
    refine am_Rn.op _ (13, [some (.ref 128), some (.int l1), some (.int l2), none], [.int 4, .int l1], am_T0 S) rfl rfl ?_
    refine am_Rn.op _ (if l1 = 4 then 23 else 16, [some (.ref 128), some (.int l1), some (.int l2), none], [], am_T0 S) rfl rfl ?_
    rcases l2_i h with ⟨hc, h⟩ | ⟨hc, h⟩
    · refine am_Rn.ifT hc ?_
      exact rfX8_goesOn_23 d N l1 l2 S _ h _
    · refine am_Rn.ifF hc ?_
      refine am_Rn.op _ (17, [some (.ref 128), some (.int l1), some (.int l2), none], [.int l1], am_T0 S) rfl rfl ?_
      refine am_Rn.op _ (18, [some (.ref 128), some (.int l1), some (.int l2), none], [.int 5, .int l1], am_T0 S) rfl rfl ?_
      refine am_Rn.op _ (if l1 = 5 then 23 else 21, [some (.ref 128), some (.int l1), some (.int l2), none], [], am_T0 S) rfl rfl ?_
      rcases l2_i h with ⟨hc, h⟩ | ⟨hc, h⟩
      · refine am_Rn.ifT hc ?_
        exact rfX8_goesOn_23 d N l1 l2 S _ h _
      · refine am_Rn.ifF hc ?_
        refine am_Rn.op _ (22, [some (.ref 128), some (.int l1), some (.int l2), none], [.int 1], am_T0 S) rfl rfl ?_
        cases h
        exact am_Rn.rt _ rfl rfl
