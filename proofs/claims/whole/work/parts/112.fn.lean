-- X8_statement
def PfX8_statement_299 (d : Nat) (res : Option Value × am_S) (l1 : Int32) (x : Int32 × St) : Prop := ∀ (w2 w3 w4 w5 w6 : Option Value), am_Rn (am_C d) (am_ct 145) (am_rk 145) res (299, [some (.ref 128), some (.int l1), w2, w3, w4, w5, w6, some (.int x.1)], [], am_T0 x.2)
def QfX8_statement_299 (d : Nat) (res : Option Value × am_S) (l1 : Int32) (y : Int32 × St) : Prop := ∀ (w2 w3 w4 w5 w6 : Option Value), am_Rn (am_C d) (am_ct 145) (am_rk 145) res (328, [some (.ref 128), some (.int l1), w2, w3, w4, w5, w6, some (.int y.1)], [], am_T0 y.2)
def fX8_statement_356 (N : Nat) (s0 : Int32) (S : St) : Option (Int32 × St) := some (s0, S)
set_option maxRecDepth 20000 in
theorem rfX8_statement_356 (d N : Nat) (s0 : Int32) (S : St) (z : (Int32 × St)) (h : fX8_statement_356 N s0 S = some z) (w0 : Option Value) (w1 : Option Value) (w2 : Option Value) (w3 : Option Value) (w4 : Option Value) (w5 : Option Value) (w6 : Option Value) (w7 : Option Value) : am_Rn (am_C (d + 4)) (am_ct 145) (am_rk 145) (some (.int z.1), am_T0 z.2) (356, [w0, w1, w2, w3, w4, w5, w6, w7], [.int s0], am_T0 S) := by
  unfold fX8_statement_356 at h
  cases h
  exact am_Rn.rt _ rfl rfl
def bfX8_statement_299 (N : Nat) (l1 : Int32) (x : Int32 × St) : Option ((Int32 × St) ⊕ (Int32 × St)) := (fX8_signOf N l1 x.1 x.2).bind (fun q1 => (fX8_isLetter N q1.1 q1.2).bind (fun q2 => (if q2.1 = 0 then some (.inr (x.1, q2.2)) else (fX8_shutOf N l1 (x.1 + 1) q2.2).bind (fun q3 => some (.inl ((q3.1 + 1), q3.2))))))
def fX8_statement_299 (N : Nat) (l1 : Int32) (x : Int32 × St) : Option (Int32 × St) := whl N (bfX8_statement_299 N l1 ) x
set_option maxRecDepth 20000 in
theorem rbfX8_statement_299 (d N : Nat) (res : Option Value × am_S) (l1 : Int32) (x : Int32 × St) (z : (Int32 × St) ⊕ (Int32 × St)) (h : bfX8_statement_299 N l1 x = some z) (hz : Sum.elim (PfX8_statement_299 (d + 4) res l1 ) (QfX8_statement_299 (d + 4) res l1 ) z) : PfX8_statement_299 (d + 4) res l1 x := by
  unfold bfX8_statement_299 at h
  show ∀ (w2 w3 w4 w5 w6 : Option Value), am_Rn (am_C (d + 4)) (am_ct 145) (am_rk 145) res (299, [some (.ref 128), some (.int l1), w2, w3, w4, w5, w6, some (.int x.1)], [], am_T0 x.2)
  intro w2 w3 w4 w5 w6
  refine am_Rn.op _ (300, [some (.ref 128), some (.int l1), w2, w3, w4, w5, w6, some (.int x.1)], [.ref 128], am_T0 x.2) rfl rfl ?_
  refine am_Rn.op _ (301, [some (.ref 128), some (.int l1), w2, w3, w4, w5, w6, some (.int x.1)], [.int l1, .ref 128], am_T0 x.2) rfl rfl ?_
  refine am_Rn.op _ (303, [some (.ref 128), some (.int l1), w2, w3, w4, w5, w6, some (.int x.1)], [.int x.1, .int l1, .ref 128], am_T0 x.2) rfl rfl ?_
  obtain ⟨q1, hq1, h⟩ := l2_b h
  refine am_Rn.cl _ (some (.int q1.1)) (am_T0 q1.2) rfl rfl (rfX8_signOf (d + 3) N l1 x.1 x.2 q1 hq1) ?_
  show am_Rn _ _ _ _ (306, [some (.ref 128), some (.int l1), w2, w3, w4, w5, w6, some (.int x.1)], [.int q1.1], am_T0 q1.2)
  obtain ⟨q2, hq2, h⟩ := l2_b h
  refine am_Rn.cl _ (some (.int q2.1)) (am_T0 q2.2) rfl rfl (rfX8_isLetter (d + 3) N q1.1 q1.2 q2 hq2) ?_
  show am_Rn _ _ _ _ (309, [some (.ref 128), some (.int l1), w2, w3, w4, w5, w6, some (.int x.1)], [.int q2.1], am_T0 q2.2)
  refine am_Rn.op _ (if q2.1 = 0 then 328 else 312, [some (.ref 128), some (.int l1), w2, w3, w4, w5, w6, some (.int x.1)], [], am_T0 q2.2) rfl rfl ?_
  rcases l2_i h with ⟨hc, h⟩ | ⟨hc, h⟩
  · refine am_Rn.ifT hc ?_
    cases h
    exact hz _ _ _ _ _
  · refine am_Rn.ifF hc ?_
    refine am_Rn.op _ (313, [some (.ref 128), some (.int l1), w2, w3, w4, w5, w6, some (.int x.1)], [.ref 128], am_T0 q2.2) rfl rfl ?_
    refine am_Rn.op _ (314, [some (.ref 128), some (.int l1), w2, w3, w4, w5, w6, some (.int x.1)], [.int l1, .ref 128], am_T0 q2.2) rfl rfl ?_
    refine am_Rn.op _ (316, [some (.ref 128), some (.int l1), w2, w3, w4, w5, w6, some (.int x.1)], [.int x.1, .int l1, .ref 128], am_T0 q2.2) rfl rfl ?_
    refine am_Rn.op _ (317, [some (.ref 128), some (.int l1), w2, w3, w4, w5, w6, some (.int x.1)], [.int 1, .int x.1, .int l1, .ref 128], am_T0 q2.2) rfl rfl ?_
    refine am_Rn.op _ (318, [some (.ref 128), some (.int l1), w2, w3, w4, w5, w6, some (.int x.1)], [.int (x.1 + 1), .int l1, .ref 128], am_T0 q2.2) rfl rfl ?_
    obtain ⟨q3, hq3, h⟩ := l2_b h
    refine am_Rn.cl _ (some (.int q3.1)) (am_T0 q3.2) rfl rfl (rfX8_shutOf (d + 3) N l1 (x.1 + 1) q2.2 q3 hq3) ?_
    show am_Rn _ _ _ _ (321, [some (.ref 128), some (.int l1), w2, w3, w4, w5, w6, some (.int x.1)], [.int q3.1], am_T0 q3.2)
    refine am_Rn.op _ (322, [some (.ref 128), some (.int l1), w2, w3, w4, w5, w6, some (.int x.1)], [.int 1, .int q3.1], am_T0 q3.2) rfl rfl ?_
    refine am_Rn.op _ (323, [some (.ref 128), some (.int l1), w2, w3, w4, w5, w6, some (.int x.1)], [.int (q3.1 + 1)], am_T0 q3.2) rfl rfl ?_
    refine am_Rn.op _ (325, [some (.ref 128), some (.int l1), w2, w3, w4, w5, w6, some (.int (q3.1 + 1))], [], am_T0 q3.2) rfl rfl ?_
    refine am_Rn.op _ (299, [some (.ref 128), some (.int l1), w2, w3, w4, w5, w6, some (.int (q3.1 + 1))], [], am_T0 q3.2) rfl rfl ?_
    cases h
    exact hz _ _ _ _ _
theorem rfX8_statement_299 (d N : Nat) (res : Option Value × am_S) (l1 : Int32) (x : Int32 × St) (y : Int32 × St) (h : fX8_statement_299 N l1 x = some y) (hq : QfX8_statement_299 (d + 4) res l1 y) : PfX8_statement_299 (d + 4) res l1 x := whl_ind _ _ (fun x z => rbfX8_statement_299 d N res l1 x z) N x y h hq
def fX8_statement_138 (N : Nat) (l2 : Int32) (S : St) : Option (Int32 × St) := some ((l2 + 1), S)
set_option maxRecDepth 20000 in
theorem rfX8_statement_138 (d N : Nat) (l2 : Int32) (S : St) (z : (Int32 × St)) (h : fX8_statement_138 N l2 S = some z) (w0 : Option Value) (w1 : Option Value) (w3 : Option Value) (w4 : Option Value) (w5 : Option Value) (w6 : Option Value) (w7 : Option Value) : am_Rn (am_C (d + 4)) (am_ct 145) (am_rk 145) (some (.int z.1), am_T0 z.2) (138, [w0, w1, some (.int l2), w3, w4, w5, w6, w7], [], am_T0 S) := by
  unfold fX8_statement_138 at h
  refine am_Rn.op _ (139, [w0, w1, some (.int l2), w3, w4, w5, w6, w7], [.int l2], am_T0 S) rfl rfl ?_
  refine am_Rn.op _ (140, [w0, w1, some (.int l2), w3, w4, w5, w6, w7], [.int 1, .int l2], am_T0 S) rfl rfl ?_
  refine am_Rn.op _ (141, [w0, w1, some (.int l2), w3, w4, w5, w6, w7], [.int (l2 + 1)], am_T0 S) rfl rfl ?_
  cases h
  exact am_Rn.rt _ rfl rfl
def fX8_statement (N : Nat) (l1 : Int32) (l2 : Int32) (l3 : Int32) (l4 : Int32) (S : St) : Option (Int32 × St) := (fX8_clears N 142 S).bind (fun q4 => (fX8_signOf N l1 (l2 + 1) (st_i q4 128 23 0)).bind (fun q5 => (fX8_signOf N l1 l2 q5.2).bind (fun q6 => (if q6.1 = 33 then (fX8_puts N ((2 + q5.1) - 65) l4 1 q6.2).bind (fun q7 => some ((l2 + 2), q7)) else (if q6.1 = 42 then (fX8_star N l1 (l2 + 1) l3 l4 q6.2).bind (fun q8 => (fX8_shutOf N l1 (l2 + 1) q8).bind (fun q9 => some ((q9.1 + 1), q9.2))) else (if q6.1 = 43 then (fX8_puts N 0 (l4 ||| (1 <<< ((q5.1 - 48) &&& 31))) 1 q6.2).bind (fun q10 => some ((l2 + 2), q10)) else (if q6.1 = 45 then (fX8_puts N 0 (l4 &&& ((1 <<< ((q5.1 - 48) &&& 31)) ^^^ (-1))) 1 q6.2).bind (fun q11 => some ((l2 + 2), q11)) else (if q6.1 = 46 then (fX8_puts N 1 l4 1 q6.2).bind (fun q12 => some ((l2 + 1), q12)) else (if q6.1 = 63 then (fX8_shutOf N l1 (l2 + 1) q6.2).bind (fun q13 => (fX8_block N l1 (l2 + 1) l3 l4 q13.2).bind (fun q14 => (fX8_block N l1 (q13.1 + 1) l3 l4 q14).bind (fun q15 => (fX8_shutOf N l1 (q13.1 + 1) q15).bind (fun q16 => some ((q16.1 + 1), q16.2))))) else (if q6.1 = 64 then (fX8_calls N (q5.1 - 97) l4 q6.2).bind (fun q17 => some ((l2 + 2), q17)) else (if q6.1 = 94 then (if l3 ≤ 0 then fX8_statement_138 N l2 q6.2 else (fX8_puts N ((2 + l3) - 1) l4 1 q6.2).bind (fun q18 => fX8_statement_138 N l2 q18)) else (fX8_tries N l1 (l2 + 1) l3 l4 q6.2).bind (fun q19 => (fX8_shutOf N l1 (l2 + 1) q19).bind (fun q20 => (fX8_statement_299 N l1 ((q20.1 + 1), q20.2)).bind (fun y21 => (fX8_signOf N l1 y21.1 y21.2).bind (fun q27 => (if q27.1 = 90 then (fX8_shutOf N l1 (y21.1 + 1) q27.2).bind (fun q28 => fX8_statement_356 N (q28.1 + 1) q28.2) else fX8_statement_356 N y21.1 q27.2))))))))))))))))
set_option maxRecDepth 20000 in
theorem rfX8_statement (d N : Nat) (l1 : Int32) (l2 : Int32) (l3 : Int32) (l4 : Int32) (S : St) (z : (Int32 × St)) (h : fX8_statement N l1 l2 l3 l4 S = some z) : am_C (d + 5) 145 [.ref 128, .int l1, .int l2, .int l3, .int l4] (am_T0 S) (some (.int z.1), am_T0 z.2) := by
  unfold fX8_statement at h
  show am_Rn (am_C (d + 4)) (am_ct 145) (am_rk 145) (some (.int z.1), am_T0 z.2) (0, [some (.ref 128), some (.int l1), some (.int l2), some (.int l3), some (.int l4), none, none, none], [], am_T0 S)
  refine am_Rn.op _ (1, [some (.ref 128), some (.int l1), some (.int l2), some (.int l3), some (.int l4), none, none, none], [.ref 128], am_T0 S) rfl rfl ?_
  refine am_Rn.op _ (4, [some (.ref 128), some (.int l1), some (.int l2), some (.int l3), some (.int l4), none, none, none], [.ref 142], am_T0 S) rfl rfl ?_
  obtain ⟨q4, hq4, h⟩ := l2_b h
  refine am_Rn.cl _ none (am_T0 q4) rfl rfl (rfX8_clears (d + 3) N 142 rfl S q4 hq4) ?_
  show am_Rn _ _ _ _ (7, [some (.ref 128), some (.int l1), some (.int l2), some (.int l3), some (.int l4), none, none, none], [], am_T0 q4)
  refine am_Rn.op _ (8, [some (.ref 128), some (.int l1), some (.int l2), some (.int l3), some (.int l4), none, none, none], [.ref 128], am_T0 q4) rfl rfl ?_
  refine am_Rn.op _ (9, [some (.ref 128), some (.int l1), some (.int l2), some (.int l3), some (.int l4), none, none, none], [.int 0, .ref 128], am_T0 q4) rfl rfl ?_
  refine am_Rn.op _ (12, [some (.ref 128), some (.int l1), some (.int l2), some (.int l3), some (.int l4), none, none, none], [], am_T0 (st_i q4 128 23 0)) rfl rfl ?_
  refine am_Rn.op _ (13, [some (.ref 128), some (.int l1), some (.int l2), some (.int l3), some (.int l4), none, none, none], [.ref 128], am_T0 (st_i q4 128 23 0)) rfl rfl ?_
  refine am_Rn.op _ (14, [some (.ref 128), some (.int l1), some (.int l2), some (.int l3), some (.int l4), none, none, none], [.int l1, .ref 128], am_T0 (st_i q4 128 23 0)) rfl rfl ?_
  refine am_Rn.op _ (15, [some (.ref 128), some (.int l1), some (.int l2), some (.int l3), some (.int l4), none, none, none], [.int l2, .int l1, .ref 128], am_T0 (st_i q4 128 23 0)) rfl rfl ?_
  refine am_Rn.op _ (16, [some (.ref 128), some (.int l1), some (.int l2), some (.int l3), some (.int l4), none, none, none], [.int 1, .int l2, .int l1, .ref 128], am_T0 (st_i q4 128 23 0)) rfl rfl ?_
  refine am_Rn.op _ (17, [some (.ref 128), some (.int l1), some (.int l2), some (.int l3), some (.int l4), none, none, none], [.int (l2 + 1), .int l1, .ref 128], am_T0 (st_i q4 128 23 0)) rfl rfl ?_
  obtain ⟨q5, hq5, h⟩ := l2_b h
  refine am_Rn.cl _ (some (.int q5.1)) (am_T0 q5.2) rfl rfl (rfX8_signOf (d + 3) N l1 (l2 + 1) (st_i q4 128 23 0) q5 hq5) ?_
  show am_Rn _ _ _ _ (20, [some (.ref 128), some (.int l1), some (.int l2), some (.int l3), some (.int l4), none, none, none], [.int q5.1], am_T0 q5.2)
  refine am_Rn.op _ (22, [some (.ref 128), some (.int l1), some (.int l2), some (.int l3), some (.int l4), some (.int q5.1), none, none], [], am_T0 q5.2) rfl rfl ?_
  refine am_Rn.op _ (23, [some (.ref 128), some (.int l1), some (.int l2), some (.int l3), some (.int l4), some (.int q5.1), none, none], [.ref 128], am_T0 q5.2) rfl rfl ?_
  refine am_Rn.op _ (24, [some (.ref 128), some (.int l1), some (.int l2), some (.int l3), some (.int l4), some (.int q5.1), none, none], [.int l1, .ref 128], am_T0 q5.2) rfl rfl ?_
  refine am_Rn.op _ (25, [some (.ref 128), some (.int l1), some (.int l2), some (.int l3), some (.int l4), some (.int q5.1), none, none], [.int l2, .int l1, .ref 128], am_T0 q5.2) rfl rfl ?_
  obtain ⟨q6, hq6, h⟩ := l2_b h
  refine am_Rn.cl _ (some (.int q6.1)) (am_T0 q6.2) rfl rfl (rfX8_signOf (d + 3) N l1 l2 q5.2 q6 hq6) ?_
  show am_Rn _ _ _ _ (28, [some (.ref 128), some (.int l1), some (.int l2), some (.int l3), some (.int l4), some (.int q5.1), none, none], [.int q6.1], am_T0 q6.2)
  refine am_Rn.op _ ((if q6.1 = 33 then 104 else (if q6.1 = 42 then 254 else (if q6.1 = 43 then 154 else (if q6.1 = 45 then 174 else (if q6.1 = 46 then 142 else (if q6.1 = 63 then 211 else (if q6.1 = 64 then 196 else (if q6.1 = 94 then 122 else 276)))))))), [some (.ref 128), some (.int l1), some (.int l2), some (.int l3), some (.int l4), some (.int q5.1), none, none], [], am_T0 q6.2) rfl rfl ?_
  rcases l2_i h with ⟨hc, h⟩ | ⟨hc, h⟩
  · refine am_Rn.ifT hc ?_
    refine am_Rn.op _ (105, [some (.ref 128), some (.int l1), some (.int l2), some (.int l3), some (.int l4), some (.int q5.1), none, none], [.ref 128], am_T0 q6.2) rfl rfl ?_
    refine am_Rn.op _ (106, [some (.ref 128), some (.int l1), some (.int l2), some (.int l3), some (.int l4), some (.int q5.1), none, none], [.int 2, .ref 128], am_T0 q6.2) rfl rfl ?_
    refine am_Rn.op _ (108, [some (.ref 128), some (.int l1), some (.int l2), some (.int l3), some (.int l4), some (.int q5.1), none, none], [.int q5.1, .int 2, .ref 128], am_T0 q6.2) rfl rfl ?_
    refine am_Rn.op _ (109, [some (.ref 128), some (.int l1), some (.int l2), some (.int l3), some (.int l4), some (.int q5.1), none, none], [.int (2 + q5.1), .ref 128], am_T0 q6.2) rfl rfl ?_
    refine am_Rn.op _ (111, [some (.ref 128), some (.int l1), some (.int l2), some (.int l3), some (.int l4), some (.int q5.1), none, none], [.int 65, .int (2 + q5.1), .ref 128], am_T0 q6.2) rfl rfl ?_
    refine am_Rn.op _ (112, [some (.ref 128), some (.int l1), some (.int l2), some (.int l3), some (.int l4), some (.int q5.1), none, none], [.int ((2 + q5.1) - 65), .ref 128], am_T0 q6.2) rfl rfl ?_
    refine am_Rn.op _ (114, [some (.ref 128), some (.int l1), some (.int l2), some (.int l3), some (.int l4), some (.int q5.1), none, none], [.int l4, .int ((2 + q5.1) - 65), .ref 128], am_T0 q6.2) rfl rfl ?_
    refine am_Rn.op _ (115, [some (.ref 128), some (.int l1), some (.int l2), some (.int l3), some (.int l4), some (.int q5.1), none, none], [.int 1, .int l4, .int ((2 + q5.1) - 65), .ref 128], am_T0 q6.2) rfl rfl ?_
    obtain ⟨q7, hq7, h⟩ := l2_b h
    refine am_Rn.cl _ none (am_T0 q7) rfl rfl (rfX8_puts (d + 2) N ((2 + q5.1) - 65) l4 1 q6.2 q7 hq7) ?_
    show am_Rn _ _ _ _ (118, [some (.ref 128), some (.int l1), some (.int l2), some (.int l3), some (.int l4), some (.int q5.1), none, none], [], am_T0 q7)
    refine am_Rn.op _ (119, [some (.ref 128), some (.int l1), some (.int l2), some (.int l3), some (.int l4), some (.int q5.1), none, none], [.int l2], am_T0 q7) rfl rfl ?_
    refine am_Rn.op _ (120, [some (.ref 128), some (.int l1), some (.int l2), some (.int l3), some (.int l4), some (.int q5.1), none, none], [.int 2, .int l2], am_T0 q7) rfl rfl ?_
    refine am_Rn.op _ (121, [some (.ref 128), some (.int l1), some (.int l2), some (.int l3), some (.int l4), some (.int q5.1), none, none], [.int (l2 + 2)], am_T0 q7) rfl rfl ?_
    cases h
    exact am_Rn.rt _ rfl rfl
  · refine am_Rn.ifF hc ?_
    rcases l2_i h with ⟨hc, h⟩ | ⟨hc, h⟩
    · refine am_Rn.ifT hc ?_
      refine am_Rn.op _ (255, [some (.ref 128), some (.int l1), some (.int l2), some (.int l3), some (.int l4), some (.int q5.1), none, none], [.ref 128], am_T0 q6.2) rfl rfl ?_
      refine am_Rn.op _ (256, [some (.ref 128), some (.int l1), some (.int l2), some (.int l3), some (.int l4), some (.int q5.1), none, none], [.int l1, .ref 128], am_T0 q6.2) rfl rfl ?_
      refine am_Rn.op _ (257, [some (.ref 128), some (.int l1), some (.int l2), some (.int l3), some (.int l4), some (.int q5.1), none, none], [.int l2, .int l1, .ref 128], am_T0 q6.2) rfl rfl ?_
      refine am_Rn.op _ (258, [some (.ref 128), some (.int l1), some (.int l2), some (.int l3), some (.int l4), some (.int q5.1), none, none], [.int 1, .int l2, .int l1, .ref 128], am_T0 q6.2) rfl rfl ?_
      refine am_Rn.op _ (259, [some (.ref 128), some (.int l1), some (.int l2), some (.int l3), some (.int l4), some (.int q5.1), none, none], [.int (l2 + 1), .int l1, .ref 128], am_T0 q6.2) rfl rfl ?_
      refine am_Rn.op _ (260, [some (.ref 128), some (.int l1), some (.int l2), some (.int l3), some (.int l4), some (.int q5.1), none, none], [.int l3, .int (l2 + 1), .int l1, .ref 128], am_T0 q6.2) rfl rfl ?_
      refine am_Rn.op _ (262, [some (.ref 128), some (.int l1), some (.int l2), some (.int l3), some (.int l4), some (.int q5.1), none, none], [.int l4, .int l3, .int (l2 + 1), .int l1, .ref 128], am_T0 q6.2) rfl rfl ?_
      obtain ⟨q8, hq8, h⟩ := l2_b h
      refine am_Rn.cl _ none (am_T0 q8) rfl rfl (rfX8_star (d + 1) N l1 (l2 + 1) l3 l4 q6.2 q8 hq8) ?_
      show am_Rn _ _ _ _ (265, [some (.ref 128), some (.int l1), some (.int l2), some (.int l3), some (.int l4), some (.int q5.1), none, none], [], am_T0 q8)
      refine am_Rn.op _ (266, [some (.ref 128), some (.int l1), some (.int l2), some (.int l3), some (.int l4), some (.int q5.1), none, none], [.ref 128], am_T0 q8) rfl rfl ?_
      refine am_Rn.op _ (267, [some (.ref 128), some (.int l1), some (.int l2), some (.int l3), some (.int l4), some (.int q5.1), none, none], [.int l1, .ref 128], am_T0 q8) rfl rfl ?_
      refine am_Rn.op _ (268, [some (.ref 128), some (.int l1), some (.int l2), some (.int l3), some (.int l4), some (.int q5.1), none, none], [.int l2, .int l1, .ref 128], am_T0 q8) rfl rfl ?_
      refine am_Rn.op _ (269, [some (.ref 128), some (.int l1), some (.int l2), some (.int l3), some (.int l4), some (.int q5.1), none, none], [.int 1, .int l2, .int l1, .ref 128], am_T0 q8) rfl rfl ?_
      refine am_Rn.op _ (270, [some (.ref 128), some (.int l1), some (.int l2), some (.int l3), some (.int l4), some (.int q5.1), none, none], [.int (l2 + 1), .int l1, .ref 128], am_T0 q8) rfl rfl ?_
      obtain ⟨q9, hq9, h⟩ := l2_b h
      refine am_Rn.cl _ (some (.int q9.1)) (am_T0 q9.2) rfl rfl (rfX8_shutOf (d + 3) N l1 (l2 + 1) q8 q9 hq9) ?_
      show am_Rn _ _ _ _ (273, [some (.ref 128), some (.int l1), some (.int l2), some (.int l3), some (.int l4), some (.int q5.1), none, none], [.int q9.1], am_T0 q9.2)
      refine am_Rn.op _ (274, [some (.ref 128), some (.int l1), some (.int l2), some (.int l3), some (.int l4), some (.int q5.1), none, none], [.int 1, .int q9.1], am_T0 q9.2) rfl rfl ?_
      refine am_Rn.op _ (275, [some (.ref 128), some (.int l1), some (.int l2), some (.int l3), some (.int l4), some (.int q5.1), none, none], [.int (q9.1 + 1)], am_T0 q9.2) rfl rfl ?_
      cases h
      exact am_Rn.rt _ rfl rfl
    · refine am_Rn.ifF hc ?_
      rcases l2_i h with ⟨hc, h⟩ | ⟨hc, h⟩
      · refine am_Rn.ifT hc ?_
        refine am_Rn.op _ (155, [some (.ref 128), some (.int l1), some (.int l2), some (.int l3), some (.int l4), some (.int q5.1), none, none], [.ref 128], am_T0 q6.2) rfl rfl ?_
        refine am_Rn.op _ (156, [some (.ref 128), some (.int l1), some (.int l2), some (.int l3), some (.int l4), some (.int q5.1), none, none], [.int 0, .ref 128], am_T0 q6.2) rfl rfl ?_
        refine am_Rn.op _ (158, [some (.ref 128), some (.int l1), some (.int l2), some (.int l3), some (.int l4), some (.int q5.1), none, none], [.int l4, .int 0, .ref 128], am_T0 q6.2) rfl rfl ?_
        refine am_Rn.op _ (159, [some (.ref 128), some (.int l1), some (.int l2), some (.int l3), some (.int l4), some (.int q5.1), none, none], [.int 1, .int l4, .int 0, .ref 128], am_T0 q6.2) rfl rfl ?_
        refine am_Rn.op _ (161, [some (.ref 128), some (.int l1), some (.int l2), some (.int l3), some (.int l4), some (.int q5.1), none, none], [.int q5.1, .int 1, .int l4, .int 0, .ref 128], am_T0 q6.2) rfl rfl ?_
        refine am_Rn.op _ (163, [some (.ref 128), some (.int l1), some (.int l2), some (.int l3), some (.int l4), some (.int q5.1), none, none], [.int 48, .int q5.1, .int 1, .int l4, .int 0, .ref 128], am_T0 q6.2) rfl rfl ?_
        refine am_Rn.op _ (164, [some (.ref 128), some (.int l1), some (.int l2), some (.int l3), some (.int l4), some (.int q5.1), none, none], [.int (q5.1 - 48), .int 1, .int l4, .int 0, .ref 128], am_T0 q6.2) rfl rfl ?_
        refine am_Rn.op _ (165, [some (.ref 128), some (.int l1), some (.int l2), some (.int l3), some (.int l4), some (.int q5.1), none, none], [.int (1 <<< ((q5.1 - 48) &&& 31)), .int l4, .int 0, .ref 128], am_T0 q6.2) rfl rfl ?_
        refine am_Rn.op _ (166, [some (.ref 128), some (.int l1), some (.int l2), some (.int l3), some (.int l4), some (.int q5.1), none, none], [.int (l4 ||| (1 <<< ((q5.1 - 48) &&& 31))), .int 0, .ref 128], am_T0 q6.2) rfl rfl ?_
        refine am_Rn.op _ (167, [some (.ref 128), some (.int l1), some (.int l2), some (.int l3), some (.int l4), some (.int q5.1), none, none], [.int 1, .int (l4 ||| (1 <<< ((q5.1 - 48) &&& 31))), .int 0, .ref 128], am_T0 q6.2) rfl rfl ?_
        obtain ⟨q10, hq10, h⟩ := l2_b h
        refine am_Rn.cl _ none (am_T0 q10) rfl rfl (rfX8_puts (d + 2) N 0 (l4 ||| (1 <<< ((q5.1 - 48) &&& 31))) 1 q6.2 q10 hq10) ?_
        show am_Rn _ _ _ _ (170, [some (.ref 128), some (.int l1), some (.int l2), some (.int l3), some (.int l4), some (.int q5.1), none, none], [], am_T0 q10)
        refine am_Rn.op _ (171, [some (.ref 128), some (.int l1), some (.int l2), some (.int l3), some (.int l4), some (.int q5.1), none, none], [.int l2], am_T0 q10) rfl rfl ?_
        refine am_Rn.op _ (172, [some (.ref 128), some (.int l1), some (.int l2), some (.int l3), some (.int l4), some (.int q5.1), none, none], [.int 2, .int l2], am_T0 q10) rfl rfl ?_
        refine am_Rn.op _ (173, [some (.ref 128), some (.int l1), some (.int l2), some (.int l3), some (.int l4), some (.int q5.1), none, none], [.int (l2 + 2)], am_T0 q10) rfl rfl ?_
        cases h
        exact am_Rn.rt _ rfl rfl
      · refine am_Rn.ifF hc ?_
        rcases l2_i h with ⟨hc, h⟩ | ⟨hc, h⟩
        · refine am_Rn.ifT hc ?_
          refine am_Rn.op _ (175, [some (.ref 128), some (.int l1), some (.int l2), some (.int l3), some (.int l4), some (.int q5.1), none, none], [.ref 128], am_T0 q6.2) rfl rfl ?_
          refine am_Rn.op _ (176, [some (.ref 128), some (.int l1), some (.int l2), some (.int l3), some (.int l4), some (.int q5.1), none, none], [.int 0, .ref 128], am_T0 q6.2) rfl rfl ?_
          refine am_Rn.op _ (178, [some (.ref 128), some (.int l1), some (.int l2), some (.int l3), some (.int l4), some (.int q5.1), none, none], [.int l4, .int 0, .ref 128], am_T0 q6.2) rfl rfl ?_
          refine am_Rn.op _ (179, [some (.ref 128), some (.int l1), some (.int l2), some (.int l3), some (.int l4), some (.int q5.1), none, none], [.int 1, .int l4, .int 0, .ref 128], am_T0 q6.2) rfl rfl ?_
          refine am_Rn.op _ (181, [some (.ref 128), some (.int l1), some (.int l2), some (.int l3), some (.int l4), some (.int q5.1), none, none], [.int q5.1, .int 1, .int l4, .int 0, .ref 128], am_T0 q6.2) rfl rfl ?_
          refine am_Rn.op _ (183, [some (.ref 128), some (.int l1), some (.int l2), some (.int l3), some (.int l4), some (.int q5.1), none, none], [.int 48, .int q5.1, .int 1, .int l4, .int 0, .ref 128], am_T0 q6.2) rfl rfl ?_
          refine am_Rn.op _ (184, [some (.ref 128), some (.int l1), some (.int l2), some (.int l3), some (.int l4), some (.int q5.1), none, none], [.int (q5.1 - 48), .int 1, .int l4, .int 0, .ref 128], am_T0 q6.2) rfl rfl ?_
          refine am_Rn.op _ (185, [some (.ref 128), some (.int l1), some (.int l2), some (.int l3), some (.int l4), some (.int q5.1), none, none], [.int (1 <<< ((q5.1 - 48) &&& 31)), .int l4, .int 0, .ref 128], am_T0 q6.2) rfl rfl ?_
          refine am_Rn.op _ (186, [some (.ref 128), some (.int l1), some (.int l2), some (.int l3), some (.int l4), some (.int q5.1), none, none], [.int (-1), .int (1 <<< ((q5.1 - 48) &&& 31)), .int l4, .int 0, .ref 128], am_T0 q6.2) rfl rfl ?_
          refine am_Rn.op _ (187, [some (.ref 128), some (.int l1), some (.int l2), some (.int l3), some (.int l4), some (.int q5.1), none, none], [.int ((1 <<< ((q5.1 - 48) &&& 31)) ^^^ (-1)), .int l4, .int 0, .ref 128], am_T0 q6.2) rfl rfl ?_
          refine am_Rn.op _ (188, [some (.ref 128), some (.int l1), some (.int l2), some (.int l3), some (.int l4), some (.int q5.1), none, none], [.int (l4 &&& ((1 <<< ((q5.1 - 48) &&& 31)) ^^^ (-1))), .int 0, .ref 128], am_T0 q6.2) rfl rfl ?_
          refine am_Rn.op _ (189, [some (.ref 128), some (.int l1), some (.int l2), some (.int l3), some (.int l4), some (.int q5.1), none, none], [.int 1, .int (l4 &&& ((1 <<< ((q5.1 - 48) &&& 31)) ^^^ (-1))), .int 0, .ref 128], am_T0 q6.2) rfl rfl ?_
          obtain ⟨q11, hq11, h⟩ := l2_b h
          refine am_Rn.cl _ none (am_T0 q11) rfl rfl (rfX8_puts (d + 2) N 0 (l4 &&& ((1 <<< ((q5.1 - 48) &&& 31)) ^^^ (-1))) 1 q6.2 q11 hq11) ?_
          show am_Rn _ _ _ _ (192, [some (.ref 128), some (.int l1), some (.int l2), some (.int l3), some (.int l4), some (.int q5.1), none, none], [], am_T0 q11)
          refine am_Rn.op _ (193, [some (.ref 128), some (.int l1), some (.int l2), some (.int l3), some (.int l4), some (.int q5.1), none, none], [.int l2], am_T0 q11) rfl rfl ?_
          refine am_Rn.op _ (194, [some (.ref 128), some (.int l1), some (.int l2), some (.int l3), some (.int l4), some (.int q5.1), none, none], [.int 2, .int l2], am_T0 q11) rfl rfl ?_
          refine am_Rn.op _ (195, [some (.ref 128), some (.int l1), some (.int l2), some (.int l3), some (.int l4), some (.int q5.1), none, none], [.int (l2 + 2)], am_T0 q11) rfl rfl ?_
          cases h
          exact am_Rn.rt _ rfl rfl
        · refine am_Rn.ifF hc ?_
          rcases l2_i h with ⟨hc, h⟩ | ⟨hc, h⟩
          · refine am_Rn.ifT hc ?_
            refine am_Rn.op _ (143, [some (.ref 128), some (.int l1), some (.int l2), some (.int l3), some (.int l4), some (.int q5.1), none, none], [.ref 128], am_T0 q6.2) rfl rfl ?_
            refine am_Rn.op _ (144, [some (.ref 128), some (.int l1), some (.int l2), some (.int l3), some (.int l4), some (.int q5.1), none, none], [.int 1, .ref 128], am_T0 q6.2) rfl rfl ?_
            refine am_Rn.op _ (146, [some (.ref 128), some (.int l1), some (.int l2), some (.int l3), some (.int l4), some (.int q5.1), none, none], [.int l4, .int 1, .ref 128], am_T0 q6.2) rfl rfl ?_
            refine am_Rn.op _ (147, [some (.ref 128), some (.int l1), some (.int l2), some (.int l3), some (.int l4), some (.int q5.1), none, none], [.int 1, .int l4, .int 1, .ref 128], am_T0 q6.2) rfl rfl ?_
            obtain ⟨q12, hq12, h⟩ := l2_b h
            refine am_Rn.cl _ none (am_T0 q12) rfl rfl (rfX8_puts (d + 2) N 1 l4 1 q6.2 q12 hq12) ?_
            show am_Rn _ _ _ _ (150, [some (.ref 128), some (.int l1), some (.int l2), some (.int l3), some (.int l4), some (.int q5.1), none, none], [], am_T0 q12)
            refine am_Rn.op _ (151, [some (.ref 128), some (.int l1), some (.int l2), some (.int l3), some (.int l4), some (.int q5.1), none, none], [.int l2], am_T0 q12) rfl rfl ?_
            refine am_Rn.op _ (152, [some (.ref 128), some (.int l1), some (.int l2), some (.int l3), some (.int l4), some (.int q5.1), none, none], [.int 1, .int l2], am_T0 q12) rfl rfl ?_
            refine am_Rn.op _ (153, [some (.ref 128), some (.int l1), some (.int l2), some (.int l3), some (.int l4), some (.int q5.1), none, none], [.int (l2 + 1)], am_T0 q12) rfl rfl ?_
            cases h
            exact am_Rn.rt _ rfl rfl
          · refine am_Rn.ifF hc ?_
            rcases l2_i h with ⟨hc, h⟩ | ⟨hc, h⟩
            · refine am_Rn.ifT hc ?_
              refine am_Rn.op _ (212, [some (.ref 128), some (.int l1), some (.int l2), some (.int l3), some (.int l4), some (.int q5.1), none, none], [.ref 128], am_T0 q6.2) rfl rfl ?_
              refine am_Rn.op _ (213, [some (.ref 128), some (.int l1), some (.int l2), some (.int l3), some (.int l4), some (.int q5.1), none, none], [.int l1, .ref 128], am_T0 q6.2) rfl rfl ?_
              refine am_Rn.op _ (214, [some (.ref 128), some (.int l1), some (.int l2), some (.int l3), some (.int l4), some (.int q5.1), none, none], [.int l2, .int l1, .ref 128], am_T0 q6.2) rfl rfl ?_
              refine am_Rn.op _ (215, [some (.ref 128), some (.int l1), some (.int l2), some (.int l3), some (.int l4), some (.int q5.1), none, none], [.int 1, .int l2, .int l1, .ref 128], am_T0 q6.2) rfl rfl ?_
              refine am_Rn.op _ (216, [some (.ref 128), some (.int l1), some (.int l2), some (.int l3), some (.int l4), some (.int q5.1), none, none], [.int (l2 + 1), .int l1, .ref 128], am_T0 q6.2) rfl rfl ?_
              obtain ⟨q13, hq13, h⟩ := l2_b h
              refine am_Rn.cl _ (some (.int q13.1)) (am_T0 q13.2) rfl rfl (rfX8_shutOf (d + 3) N l1 (l2 + 1) q6.2 q13 hq13) ?_
              show am_Rn _ _ _ _ (219, [some (.ref 128), some (.int l1), some (.int l2), some (.int l3), some (.int l4), some (.int q5.1), none, none], [.int q13.1], am_T0 q13.2)
              refine am_Rn.op _ (220, [some (.ref 128), some (.int l1), some (.int l2), some (.int l3), some (.int l4), some (.int q5.1), none, none], [.int 1, .int q13.1], am_T0 q13.2) rfl rfl ?_
              refine am_Rn.op _ (221, [some (.ref 128), some (.int l1), some (.int l2), some (.int l3), some (.int l4), some (.int q5.1), none, none], [.int (q13.1 + 1)], am_T0 q13.2) rfl rfl ?_
              refine am_Rn.op _ (223, [some (.ref 128), some (.int l1), some (.int l2), some (.int l3), some (.int l4), some (.int q5.1), some (.int (q13.1 + 1)), none], [], am_T0 q13.2) rfl rfl ?_
              refine am_Rn.op _ (224, [some (.ref 128), some (.int l1), some (.int l2), some (.int l3), some (.int l4), some (.int q5.1), some (.int (q13.1 + 1)), none], [.ref 128], am_T0 q13.2) rfl rfl ?_
              refine am_Rn.op _ (225, [some (.ref 128), some (.int l1), some (.int l2), some (.int l3), some (.int l4), some (.int q5.1), some (.int (q13.1 + 1)), none], [.int l1, .ref 128], am_T0 q13.2) rfl rfl ?_
              refine am_Rn.op _ (226, [some (.ref 128), some (.int l1), some (.int l2), some (.int l3), some (.int l4), some (.int q5.1), some (.int (q13.1 + 1)), none], [.int l2, .int l1, .ref 128], am_T0 q13.2) rfl rfl ?_
              refine am_Rn.op _ (227, [some (.ref 128), some (.int l1), some (.int l2), some (.int l3), some (.int l4), some (.int q5.1), some (.int (q13.1 + 1)), none], [.int 1, .int l2, .int l1, .ref 128], am_T0 q13.2) rfl rfl ?_
              refine am_Rn.op _ (228, [some (.ref 128), some (.int l1), some (.int l2), some (.int l3), some (.int l4), some (.int q5.1), some (.int (q13.1 + 1)), none], [.int (l2 + 1), .int l1, .ref 128], am_T0 q13.2) rfl rfl ?_
              refine am_Rn.op _ (229, [some (.ref 128), some (.int l1), some (.int l2), some (.int l3), some (.int l4), some (.int q5.1), some (.int (q13.1 + 1)), none], [.int l3, .int (l2 + 1), .int l1, .ref 128], am_T0 q13.2) rfl rfl ?_
              refine am_Rn.op _ (231, [some (.ref 128), some (.int l1), some (.int l2), some (.int l3), some (.int l4), some (.int q5.1), some (.int (q13.1 + 1)), none], [.int l4, .int l3, .int (l2 + 1), .int l1, .ref 128], am_T0 q13.2) rfl rfl ?_
              obtain ⟨q14, hq14, h⟩ := l2_b h
              refine am_Rn.cl _ none (am_T0 q14) rfl rfl (rfX8_block (d + 1) N l1 (l2 + 1) l3 l4 q13.2 q14 hq14) ?_
              show am_Rn _ _ _ _ (234, [some (.ref 128), some (.int l1), some (.int l2), some (.int l3), some (.int l4), some (.int q5.1), some (.int (q13.1 + 1)), none], [], am_T0 q14)
              refine am_Rn.op _ (235, [some (.ref 128), some (.int l1), some (.int l2), some (.int l3), some (.int l4), some (.int q5.1), some (.int (q13.1 + 1)), none], [.ref 128], am_T0 q14) rfl rfl ?_
              refine am_Rn.op _ (236, [some (.ref 128), some (.int l1), some (.int l2), some (.int l3), some (.int l4), some (.int q5.1), some (.int (q13.1 + 1)), none], [.int l1, .ref 128], am_T0 q14) rfl rfl ?_
              refine am_Rn.op _ (238, [some (.ref 128), some (.int l1), some (.int l2), some (.int l3), some (.int l4), some (.int q5.1), some (.int (q13.1 + 1)), none], [.int (q13.1 + 1), .int l1, .ref 128], am_T0 q14) rfl rfl ?_
              refine am_Rn.op _ (239, [some (.ref 128), some (.int l1), some (.int l2), some (.int l3), some (.int l4), some (.int q5.1), some (.int (q13.1 + 1)), none], [.int l3, .int (q13.1 + 1), .int l1, .ref 128], am_T0 q14) rfl rfl ?_
              refine am_Rn.op _ (241, [some (.ref 128), some (.int l1), some (.int l2), some (.int l3), some (.int l4), some (.int q5.1), some (.int (q13.1 + 1)), none], [.int l4, .int l3, .int (q13.1 + 1), .int l1, .ref 128], am_T0 q14) rfl rfl ?_
              obtain ⟨q15, hq15, h⟩ := l2_b h
              refine am_Rn.cl _ none (am_T0 q15) rfl rfl (rfX8_block (d + 1) N l1 (q13.1 + 1) l3 l4 q14 q15 hq15) ?_
              show am_Rn _ _ _ _ (244, [some (.ref 128), some (.int l1), some (.int l2), some (.int l3), some (.int l4), some (.int q5.1), some (.int (q13.1 + 1)), none], [], am_T0 q15)
              refine am_Rn.op _ (245, [some (.ref 128), some (.int l1), some (.int l2), some (.int l3), some (.int l4), some (.int q5.1), some (.int (q13.1 + 1)), none], [.ref 128], am_T0 q15) rfl rfl ?_
              refine am_Rn.op _ (246, [some (.ref 128), some (.int l1), some (.int l2), some (.int l3), some (.int l4), some (.int q5.1), some (.int (q13.1 + 1)), none], [.int l1, .ref 128], am_T0 q15) rfl rfl ?_
              refine am_Rn.op _ (248, [some (.ref 128), some (.int l1), some (.int l2), some (.int l3), some (.int l4), some (.int q5.1), some (.int (q13.1 + 1)), none], [.int (q13.1 + 1), .int l1, .ref 128], am_T0 q15) rfl rfl ?_
              obtain ⟨q16, hq16, h⟩ := l2_b h
              refine am_Rn.cl _ (some (.int q16.1)) (am_T0 q16.2) rfl rfl (rfX8_shutOf (d + 3) N l1 (q13.1 + 1) q15 q16 hq16) ?_
              show am_Rn _ _ _ _ (251, [some (.ref 128), some (.int l1), some (.int l2), some (.int l3), some (.int l4), some (.int q5.1), some (.int (q13.1 + 1)), none], [.int q16.1], am_T0 q16.2)
              refine am_Rn.op _ (252, [some (.ref 128), some (.int l1), some (.int l2), some (.int l3), some (.int l4), some (.int q5.1), some (.int (q13.1 + 1)), none], [.int 1, .int q16.1], am_T0 q16.2) rfl rfl ?_
              refine am_Rn.op _ (253, [some (.ref 128), some (.int l1), some (.int l2), some (.int l3), some (.int l4), some (.int q5.1), some (.int (q13.1 + 1)), none], [.int (q16.1 + 1)], am_T0 q16.2) rfl rfl ?_
              cases h
              exact am_Rn.rt _ rfl rfl
            · refine am_Rn.ifF hc ?_
              rcases l2_i h with ⟨hc, h⟩ | ⟨hc, h⟩
              · refine am_Rn.ifT hc ?_
                refine am_Rn.op _ (197, [some (.ref 128), some (.int l1), some (.int l2), some (.int l3), some (.int l4), some (.int q5.1), none, none], [.ref 128], am_T0 q6.2) rfl rfl ?_
                refine am_Rn.op _ (199, [some (.ref 128), some (.int l1), some (.int l2), some (.int l3), some (.int l4), some (.int q5.1), none, none], [.int q5.1, .ref 128], am_T0 q6.2) rfl rfl ?_
                refine am_Rn.op _ (201, [some (.ref 128), some (.int l1), some (.int l2), some (.int l3), some (.int l4), some (.int q5.1), none, none], [.int 97, .int q5.1, .ref 128], am_T0 q6.2) rfl rfl ?_
                refine am_Rn.op _ (202, [some (.ref 128), some (.int l1), some (.int l2), some (.int l3), some (.int l4), some (.int q5.1), none, none], [.int (q5.1 - 97), .ref 128], am_T0 q6.2) rfl rfl ?_
                refine am_Rn.op _ (204, [some (.ref 128), some (.int l1), some (.int l2), some (.int l3), some (.int l4), some (.int q5.1), none, none], [.int l4, .int (q5.1 - 97), .ref 128], am_T0 q6.2) rfl rfl ?_
                obtain ⟨q17, hq17, h⟩ := l2_b h
                refine am_Rn.cl _ none (am_T0 q17) rfl rfl (rfX8_calls (d + 1) N (q5.1 - 97) l4 q6.2 q17 hq17) ?_
                show am_Rn _ _ _ _ (207, [some (.ref 128), some (.int l1), some (.int l2), some (.int l3), some (.int l4), some (.int q5.1), none, none], [], am_T0 q17)
                refine am_Rn.op _ (208, [some (.ref 128), some (.int l1), some (.int l2), some (.int l3), some (.int l4), some (.int q5.1), none, none], [.int l2], am_T0 q17) rfl rfl ?_
                refine am_Rn.op _ (209, [some (.ref 128), some (.int l1), some (.int l2), some (.int l3), some (.int l4), some (.int q5.1), none, none], [.int 2, .int l2], am_T0 q17) rfl rfl ?_
                refine am_Rn.op _ (210, [some (.ref 128), some (.int l1), some (.int l2), some (.int l3), some (.int l4), some (.int q5.1), none, none], [.int (l2 + 2)], am_T0 q17) rfl rfl ?_
                cases h
                exact am_Rn.rt _ rfl rfl
              · refine am_Rn.ifF hc ?_
                rcases l2_i h with ⟨hc, h⟩ | ⟨hc, h⟩
                · refine am_Rn.ifT hc ?_
                  refine am_Rn.op _ (123, [some (.ref 128), some (.int l1), some (.int l2), some (.int l3), some (.int l4), some (.int q5.1), none, none], [.int l3], am_T0 q6.2) rfl rfl ?_
                  refine am_Rn.op _ (if l3 ≤ 0 then 138 else 126, [some (.ref 128), some (.int l1), some (.int l2), some (.int l3), some (.int l4), some (.int q5.1), none, none], [], am_T0 q6.2) rfl rfl ?_
                  rcases l2_i h with ⟨hc, h⟩ | ⟨hc, h⟩
                  · refine am_Rn.ifT hc ?_
                    exact rfX8_statement_138 d N l2 q6.2 _ h _ _ _ _ _ _ _
                  · refine am_Rn.ifF hc ?_
                    refine am_Rn.op _ (127, [some (.ref 128), some (.int l1), some (.int l2), some (.int l3), some (.int l4), some (.int q5.1), none, none], [.ref 128], am_T0 q6.2) rfl rfl ?_
                    refine am_Rn.op _ (128, [some (.ref 128), some (.int l1), some (.int l2), some (.int l3), some (.int l4), some (.int q5.1), none, none], [.int 2, .ref 128], am_T0 q6.2) rfl rfl ?_
                    refine am_Rn.op _ (129, [some (.ref 128), some (.int l1), some (.int l2), some (.int l3), some (.int l4), some (.int q5.1), none, none], [.int l3, .int 2, .ref 128], am_T0 q6.2) rfl rfl ?_
                    refine am_Rn.op _ (130, [some (.ref 128), some (.int l1), some (.int l2), some (.int l3), some (.int l4), some (.int q5.1), none, none], [.int (2 + l3), .ref 128], am_T0 q6.2) rfl rfl ?_
                    refine am_Rn.op _ (131, [some (.ref 128), some (.int l1), some (.int l2), some (.int l3), some (.int l4), some (.int q5.1), none, none], [.int 1, .int (2 + l3), .ref 128], am_T0 q6.2) rfl rfl ?_
                    refine am_Rn.op _ (132, [some (.ref 128), some (.int l1), some (.int l2), some (.int l3), some (.int l4), some (.int q5.1), none, none], [.int ((2 + l3) - 1), .ref 128], am_T0 q6.2) rfl rfl ?_
                    refine am_Rn.op _ (134, [some (.ref 128), some (.int l1), some (.int l2), some (.int l3), some (.int l4), some (.int q5.1), none, none], [.int l4, .int ((2 + l3) - 1), .ref 128], am_T0 q6.2) rfl rfl ?_
                    refine am_Rn.op _ (135, [some (.ref 128), some (.int l1), some (.int l2), some (.int l3), some (.int l4), some (.int q5.1), none, none], [.int 1, .int l4, .int ((2 + l3) - 1), .ref 128], am_T0 q6.2) rfl rfl ?_
                    obtain ⟨q18, hq18, h⟩ := l2_b h
                    refine am_Rn.cl _ none (am_T0 q18) rfl rfl (rfX8_puts (d + 2) N ((2 + l3) - 1) l4 1 q6.2 q18 hq18) ?_
                    show am_Rn _ _ _ _ (138, [some (.ref 128), some (.int l1), some (.int l2), some (.int l3), some (.int l4), some (.int q5.1), none, none], [], am_T0 q18)
                    exact rfX8_statement_138 d N l2 q18 _ h _ _ _ _ _ _ _
                · refine am_Rn.ifF hc ?_
                  refine am_Rn.op _ (277, [some (.ref 128), some (.int l1), some (.int l2), some (.int l3), some (.int l4), some (.int q5.1), none, none], [.ref 128], am_T0 q6.2) rfl rfl ?_
                  refine am_Rn.op _ (278, [some (.ref 128), some (.int l1), some (.int l2), some (.int l3), some (.int l4), some (.int q5.1), none, none], [.int l1, .ref 128], am_T0 q6.2) rfl rfl ?_
                  refine am_Rn.op _ (279, [some (.ref 128), some (.int l1), some (.int l2), some (.int l3), some (.int l4), some (.int q5.1), none, none], [.int l2, .int l1, .ref 128], am_T0 q6.2) rfl rfl ?_
                  refine am_Rn.op _ (280, [some (.ref 128), some (.int l1), some (.int l2), some (.int l3), some (.int l4), some (.int q5.1), none, none], [.int 1, .int l2, .int l1, .ref 128], am_T0 q6.2) rfl rfl ?_
                  refine am_Rn.op _ (281, [some (.ref 128), some (.int l1), some (.int l2), some (.int l3), some (.int l4), some (.int q5.1), none, none], [.int (l2 + 1), .int l1, .ref 128], am_T0 q6.2) rfl rfl ?_
                  refine am_Rn.op _ (282, [some (.ref 128), some (.int l1), some (.int l2), some (.int l3), some (.int l4), some (.int q5.1), none, none], [.int l3, .int (l2 + 1), .int l1, .ref 128], am_T0 q6.2) rfl rfl ?_
                  refine am_Rn.op _ (284, [some (.ref 128), some (.int l1), some (.int l2), some (.int l3), some (.int l4), some (.int q5.1), none, none], [.int l4, .int l3, .int (l2 + 1), .int l1, .ref 128], am_T0 q6.2) rfl rfl ?_
                  obtain ⟨q19, hq19, h⟩ := l2_b h
                  refine am_Rn.cl _ none (am_T0 q19) rfl rfl (rfX8_tries (d + 0) N l1 (l2 + 1) l3 l4 q6.2 q19 hq19) ?_
                  show am_Rn _ _ _ _ (287, [some (.ref 128), some (.int l1), some (.int l2), some (.int l3), some (.int l4), some (.int q5.1), none, none], [], am_T0 q19)
                  refine am_Rn.op _ (288, [some (.ref 128), some (.int l1), some (.int l2), some (.int l3), some (.int l4), some (.int q5.1), none, none], [.ref 128], am_T0 q19) rfl rfl ?_
                  refine am_Rn.op _ (289, [some (.ref 128), some (.int l1), some (.int l2), some (.int l3), some (.int l4), some (.int q5.1), none, none], [.int l1, .ref 128], am_T0 q19) rfl rfl ?_
                  refine am_Rn.op _ (290, [some (.ref 128), some (.int l1), some (.int l2), some (.int l3), some (.int l4), some (.int q5.1), none, none], [.int l2, .int l1, .ref 128], am_T0 q19) rfl rfl ?_
                  refine am_Rn.op _ (291, [some (.ref 128), some (.int l1), some (.int l2), some (.int l3), some (.int l4), some (.int q5.1), none, none], [.int 1, .int l2, .int l1, .ref 128], am_T0 q19) rfl rfl ?_
                  refine am_Rn.op _ (292, [some (.ref 128), some (.int l1), some (.int l2), some (.int l3), some (.int l4), some (.int q5.1), none, none], [.int (l2 + 1), .int l1, .ref 128], am_T0 q19) rfl rfl ?_
                  obtain ⟨q20, hq20, h⟩ := l2_b h
                  refine am_Rn.cl _ (some (.int q20.1)) (am_T0 q20.2) rfl rfl (rfX8_shutOf (d + 3) N l1 (l2 + 1) q19 q20 hq20) ?_
                  show am_Rn _ _ _ _ (295, [some (.ref 128), some (.int l1), some (.int l2), some (.int l3), some (.int l4), some (.int q5.1), none, none], [.int q20.1], am_T0 q20.2)
                  refine am_Rn.op _ (296, [some (.ref 128), some (.int l1), some (.int l2), some (.int l3), some (.int l4), some (.int q5.1), none, none], [.int 1, .int q20.1], am_T0 q20.2) rfl rfl ?_
                  refine am_Rn.op _ (297, [some (.ref 128), some (.int l1), some (.int l2), some (.int l3), some (.int l4), some (.int q5.1), none, none], [.int (q20.1 + 1)], am_T0 q20.2) rfl rfl ?_
                  refine am_Rn.op _ (299, [some (.ref 128), some (.int l1), some (.int l2), some (.int l3), some (.int l4), some (.int q5.1), none, some (.int (q20.1 + 1))], [], am_T0 q20.2) rfl rfl ?_
                  obtain ⟨y21, hy21, h⟩ := l2_b h
                  refine rfX8_statement_299 d N _ l1 ((q20.1 + 1), q20.2) y21 hy21 ?_ _ _ _ _ _
                  intro w22 w23 w24 w25 w26
                  show am_Rn _ _ _ _ (328, [some (.ref 128), some (.int l1), w22, w23, w24, w25, w26, some (.int y21.1)], [], am_T0 y21.2)
                  refine am_Rn.op _ (329, [some (.ref 128), some (.int l1), w22, w23, w24, w25, w26, some (.int y21.1)], [.ref 128], am_T0 y21.2) rfl rfl ?_
                  refine am_Rn.op _ (330, [some (.ref 128), some (.int l1), w22, w23, w24, w25, w26, some (.int y21.1)], [.int l1, .ref 128], am_T0 y21.2) rfl rfl ?_
                  refine am_Rn.op _ (332, [some (.ref 128), some (.int l1), w22, w23, w24, w25, w26, some (.int y21.1)], [.int y21.1, .int l1, .ref 128], am_T0 y21.2) rfl rfl ?_
                  obtain ⟨q27, hq27, h⟩ := l2_b h
                  refine am_Rn.cl _ (some (.int q27.1)) (am_T0 q27.2) rfl rfl (rfX8_signOf (d + 3) N l1 y21.1 y21.2 q27 hq27) ?_
                  show am_Rn _ _ _ _ (335, [some (.ref 128), some (.int l1), w22, w23, w24, w25, w26, some (.int y21.1)], [.int q27.1], am_T0 q27.2)
                  refine am_Rn.op _ (337, [some (.ref 128), some (.int l1), w22, w23, w24, w25, w26, some (.int y21.1)], [.int 90, .int q27.1], am_T0 q27.2) rfl rfl ?_
                  refine am_Rn.op _ (if q27.1 = 90 then 340 else 354, [some (.ref 128), some (.int l1), w22, w23, w24, w25, w26, some (.int y21.1)], [], am_T0 q27.2) rfl rfl ?_
                  rcases l2_i h with ⟨hc, h⟩ | ⟨hc, h⟩
                  · refine am_Rn.ifT hc ?_
                    refine am_Rn.op _ (341, [some (.ref 128), some (.int l1), w22, w23, w24, w25, w26, some (.int y21.1)], [.ref 128], am_T0 q27.2) rfl rfl ?_
                    refine am_Rn.op _ (342, [some (.ref 128), some (.int l1), w22, w23, w24, w25, w26, some (.int y21.1)], [.int l1, .ref 128], am_T0 q27.2) rfl rfl ?_
                    refine am_Rn.op _ (344, [some (.ref 128), some (.int l1), w22, w23, w24, w25, w26, some (.int y21.1)], [.int y21.1, .int l1, .ref 128], am_T0 q27.2) rfl rfl ?_
                    refine am_Rn.op _ (345, [some (.ref 128), some (.int l1), w22, w23, w24, w25, w26, some (.int y21.1)], [.int 1, .int y21.1, .int l1, .ref 128], am_T0 q27.2) rfl rfl ?_
                    refine am_Rn.op _ (346, [some (.ref 128), some (.int l1), w22, w23, w24, w25, w26, some (.int y21.1)], [.int (y21.1 + 1), .int l1, .ref 128], am_T0 q27.2) rfl rfl ?_
                    obtain ⟨q28, hq28, h⟩ := l2_b h
                    refine am_Rn.cl _ (some (.int q28.1)) (am_T0 q28.2) rfl rfl (rfX8_shutOf (d + 3) N l1 (y21.1 + 1) q27.2 q28 hq28) ?_
                    show am_Rn _ _ _ _ (349, [some (.ref 128), some (.int l1), w22, w23, w24, w25, w26, some (.int y21.1)], [.int q28.1], am_T0 q28.2)
                    refine am_Rn.op _ (350, [some (.ref 128), some (.int l1), w22, w23, w24, w25, w26, some (.int y21.1)], [.int 1, .int q28.1], am_T0 q28.2) rfl rfl ?_
                    refine am_Rn.op _ (351, [some (.ref 128), some (.int l1), w22, w23, w24, w25, w26, some (.int y21.1)], [.int (q28.1 + 1)], am_T0 q28.2) rfl rfl ?_
                    refine am_Rn.op _ (356, [some (.ref 128), some (.int l1), w22, w23, w24, w25, w26, some (.int y21.1)], [.int (q28.1 + 1)], am_T0 q28.2) rfl rfl ?_
                    exact rfX8_statement_356 d N (q28.1 + 1) q28.2 _ h _ _ _ _ _ _ _ _
                  · refine am_Rn.ifF hc ?_
                    refine am_Rn.op _ (356, [some (.ref 128), some (.int l1), w22, w23, w24, w25, w26, some (.int y21.1)], [.int y21.1], am_T0 q27.2) rfl rfl ?_
                    exact rfX8_statement_356 d N y21.1 q27.2 _ h _ _ _ _ _ _ _ _
-- X8_passes
def PfX8_passes_3 (d : Nat) (res : Option Value × am_S) (l1 : Int32) (l2 : Int32) (l3 : Int32) (x : Int32 × St) : Prop := ∀ (w5 w6 : Option Value), am_Rn (am_C d) (am_ct 146) (am_rk 146) res (3, [some (.ref 128), some (.int l1), some (.int l2), some (.int l3), some (.int x.1), w5, w6], [], am_T0 x.2)
def QfX8_passes_3 (d : Nat) (res : Option Value × am_S) (l1 : Int32) (l2 : Int32) (l3 : Int32) (y : St) : Prop := ∀ (w4 w5 w6 : Option Value), am_Rn (am_C d) (am_ct 146) (am_rk 146) res (24, [some (.ref 128), some (.int l1), some (.int l2), some (.int l3), w4, w5, w6], [], am_T0 y)
def PfX8_passes_27 (d : Nat) (res : Option Value × am_S) (l1 : Int32) (l2 : Int32) (l3 : Int32) (x : Int32 × St) : Prop := ∀ (w5 w6 : Option Value), am_Rn (am_C d) (am_ct 146) (am_rk 146) res (27, [some (.ref 128), some (.int l1), some (.int l2), some (.int l3), some (.int x.1), w5, w6], [], am_T0 x.2)
def QfX8_passes_27 (d : Nat) (res : Option Value × am_S) (l1 : Int32) (l2 : Int32) (l3 : Int32) (y : St) : Prop := ∀ (w1 w2 w3 w4 w5 w6 : Option Value), am_Rn (am_C d) (am_ct 146) (am_rk 146) res (201, [some (.ref 128), w1, w2, w3, w4, w5, w6], [], am_T0 y)
def PfX8_passes_84 (d : Nat) (res : Option Value × am_S) (l1 : Int32) (l2 : Int32) (l3 : Int32) (l4 : Int32) (x : Int32 × St) : Prop := ∀ (w6 : Option Value), am_Rn (am_C d) (am_ct 146) (am_rk 146) res (84, [some (.ref 128), some (.int l1), some (.int l2), some (.int l3), some (.int l4), some (.int x.1), w6], [], am_T0 x.2)
def QfX8_passes_84 (d : Nat) (res : Option Value × am_S) (l1 : Int32) (l2 : Int32) (l3 : Int32) (l4 : Int32) (y : St) : Prop := ∀ (w5 w6 : Option Value), am_Rn (am_C d) (am_ct 146) (am_rk 146) res (195, [some (.ref 128), some (.int l1), some (.int l2), some (.int l3), some (.int l4), w5, w6], [], am_T0 y)
def PfX8_passes_127 (d : Nat) (res : Option Value × am_S) (l1 : Int32) (l2 : Int32) (l3 : Int32) (l4 : Int32) (l5 : Int32) (x : Int32 × St) : Prop := am_Rn (am_C d) (am_ct 146) (am_rk 146) res (127, [some (.ref 128), some (.int l1), some (.int l2), some (.int l3), some (.int l4), some (.int l5), some (.int x.1)], [], am_T0 x.2)
def QfX8_passes_127 (d : Nat) (res : Option Value × am_S) (l1 : Int32) (l2 : Int32) (l3 : Int32) (l4 : Int32) (l5 : Int32) (y : St) : Prop := ∀ (w6 : Option Value), am_Rn (am_C d) (am_ct 146) (am_rk 146) res (189, [some (.ref 128), some (.int l1), some (.int l2), some (.int l3), some (.int l4), some (.int l5), w6], [], am_T0 y)
def PfX8_passes_204 (d : Nat) (res : Option Value × am_S) (x : Int32 × St) : Prop := ∀ (w1 w2 w3 w5 w6 : Option Value), am_Rn (am_C d) (am_ct 146) (am_rk 146) res (204, [some (.ref 128), w1, w2, w3, some (.int x.1), w5, w6], [], am_T0 x.2)
def QfX8_passes_204 (d : Nat) (res : Option Value × am_S) (y : St) : Prop := res = (none, am_T0 y)
def bfX8_passes_204 (N : Nat) (x : Int32 × St) : Option ((Int32 × St) ⊕ (St)) := (if 4 ≤ x.1 then some (.inr x.2) else (if x.1 < 0 ∨ 4 ≤ Int32.toNatClampNeg x.1 then none else (if x.1 < 0 ∨ 4 ≤ Int32.toNatClampNeg x.1 then none else some (.inl ((x.1 + 1), (st_i x.2 145 (Int32.toNatClampNeg x.1) (x.2.1 146 (Int32.toNatClampNeg x.1))))))))
def fX8_passes_204 (N : Nat) (x : Int32 × St) : Option (St) := whl N (bfX8_passes_204 N ) x
set_option maxRecDepth 20000 in
theorem rbfX8_passes_204 (d N : Nat) (res : Option Value × am_S) (x : Int32 × St) (z : (Int32 × St) ⊕ (St)) (h : bfX8_passes_204 N x = some z) (hz : Sum.elim (PfX8_passes_204 (d + 5) res ) (QfX8_passes_204 (d + 5) res ) z) : PfX8_passes_204 (d + 5) res x := by
  unfold bfX8_passes_204 at h
  show ∀ (w1 w2 w3 w5 w6 : Option Value), am_Rn (am_C (d + 5)) (am_ct 146) (am_rk 146) res (204, [some (.ref 128), w1, w2, w3, some (.int x.1), w5, w6], [], am_T0 x.2)
  intro w1 w2 w3 w5 w6
  refine am_Rn.op _ (206, [some (.ref 128), w1, w2, w3, some (.int x.1), w5, w6], [.int x.1], am_T0 x.2) rfl rfl ?_
  refine am_Rn.op _ (207, [some (.ref 128), w1, w2, w3, some (.int x.1), w5, w6], [.int 4, .int x.1], am_T0 x.2) rfl rfl ?_
  refine am_Rn.op _ (if 4 ≤ x.1 then 230 else 210, [some (.ref 128), w1, w2, w3, some (.int x.1), w5, w6], [], am_T0 x.2) rfl rfl ?_
  rcases l2_i h with ⟨hc, h⟩ | ⟨hc, h⟩
  · refine am_Rn.ifT hc ?_
    cases h
    exact am_Rn.rt2 _ rfl rfl hz
  · refine am_Rn.ifF hc ?_
    refine am_Rn.op _ (211, [some (.ref 128), w1, w2, w3, some (.int x.1), w5, w6], [.ref 128], am_T0 x.2) rfl rfl ?_
    refine am_Rn.op _ (214, [some (.ref 128), w1, w2, w3, some (.int x.1), w5, w6], [.ref 145], am_T0 x.2) rfl rfl ?_
    refine am_Rn.op _ (216, [some (.ref 128), w1, w2, w3, some (.int x.1), w5, w6], [.int x.1, .ref 145], am_T0 x.2) rfl rfl ?_
    refine am_Rn.op _ (217, [some (.ref 128), w1, w2, w3, some (.int x.1), w5, w6], [.ref 128, .int x.1, .ref 145], am_T0 x.2) rfl rfl ?_
    refine am_Rn.op _ (220, [some (.ref 128), w1, w2, w3, some (.int x.1), w5, w6], [.ref 146, .int x.1, .ref 145], am_T0 x.2) rfl rfl ?_
    refine am_Rn.op _ (222, [some (.ref 128), w1, w2, w3, some (.int x.1), w5, w6], [.int x.1, .ref 146, .int x.1, .ref 145], am_T0 x.2) rfl rfl ?_
    obtain ⟨hb1, h⟩ := l2_n h
    refine am_Rn.iald (n := 4) rfl rfl hb1 ?_
    show am_Rn _ _ _ _ (223, [some (.ref 128), w1, w2, w3, some (.int x.1), w5, w6], [.int (x.2.1 146 (Int32.toNatClampNeg x.1)), .int x.1, .ref 145], am_T0 x.2)
    obtain ⟨hb2, h⟩ := l2_n h
    refine am_Rn.iast (n := 4) rfl rfl hb2 ?_
    show am_Rn _ _ _ _ (224, [some (.ref 128), w1, w2, w3, some (.int x.1), w5, w6], [], am_T0 (st_i x.2 145 (Int32.toNatClampNeg x.1) (x.2.1 146 (Int32.toNatClampNeg x.1))))
    refine am_Rn.op _ (227, [some (.ref 128), w1, w2, w3, some (.int (x.1 + 1)), w5, w6], [], am_T0 (st_i x.2 145 (Int32.toNatClampNeg x.1) (x.2.1 146 (Int32.toNatClampNeg x.1)))) rfl rfl ?_
    refine am_Rn.op _ (204, [some (.ref 128), w1, w2, w3, some (.int (x.1 + 1)), w5, w6], [], am_T0 (st_i x.2 145 (Int32.toNatClampNeg x.1) (x.2.1 146 (Int32.toNatClampNeg x.1)))) rfl rfl ?_
    cases h
    exact hz _ _ _ _ _
theorem rfX8_passes_204 (d N : Nat) (res : Option Value × am_S) (x : Int32 × St) (y : St) (h : fX8_passes_204 N x = some y) (hq : QfX8_passes_204 (d + 5) res y) : PfX8_passes_204 (d + 5) res x := whl_ind _ _ (fun x z => rbfX8_passes_204 d N res x z) N x y h hq
def fX8_passes_195 (N : Nat) (l1 : Int32) (l2 : Int32) (l3 : Int32) (l4 : Int32) (S : St) : Option ((Int32 × St) ⊕ (St)) := some (.inl ((l4 + 1), S))
set_option maxRecDepth 20000 in
theorem rfX8_passes_195 (d N : Nat) (res : Option Value × am_S) (l1 : Int32) (l2 : Int32) (l3 : Int32) (l4 : Int32) (S : St) (z : (Int32 × St) ⊕ (St)) (h : fX8_passes_195 N l1 l2 l3 l4 S = some z) (hz : Sum.elim (PfX8_passes_27 (d + 5) res l1 l2 l3 ) (QfX8_passes_27 (d + 5) res l1 l2 l3 ) z) (w5 : Option Value) (w6 : Option Value) : am_Rn (am_C (d + 5)) (am_ct 146) (am_rk 146) res (195, [some (.ref 128), some (.int l1), some (.int l2), some (.int l3), some (.int l4), w5, w6], [], am_T0 S) := by
  unfold fX8_passes_195 at h
  refine am_Rn.op _ (198, [some (.ref 128), some (.int l1), some (.int l2), some (.int l3), some (.int (l4 + 1)), w5, w6], [], am_T0 S) rfl rfl ?_
  refine am_Rn.op _ (27, [some (.ref 128), some (.int l1), some (.int l2), some (.int l3), some (.int (l4 + 1)), w5, w6], [], am_T0 S) rfl rfl ?_
  cases h
  exact hz _ _
def bfX8_passes_127 (N : Nat) (l1 : Int32) (l2 : Int32) (l3 : Int32) (l4 : Int32) (l5 : Int32) (x : Int32 × St) : Option ((Int32 × St) ⊕ (St)) := (if 8 ≤ x.1 then some (.inr (x.2)) else (if ((x.1 * 4) + l5) < 0 ∨ 32 ≤ Int32.toNatClampNeg ((x.1 * 4) + l5) then none else (if l4 < 0 ∨ 4 ≤ Int32.toNatClampNeg l4 then none else (if ((x.1 * 4) + l5) < 0 ∨ 32 ≤ Int32.toNatClampNeg ((x.1 * 4) + l5) then none else (fX8_sum N (x.2.1 145 (Int32.toNatClampNeg l4)) (x.2.1 142 (Int32.toNatClampNeg ((x.1 * 4) + l5))) x.2).bind (fun q6 => (fX8_less N (x.2.1 147 (Int32.toNatClampNeg ((x.1 * 4) + l5))) q6.1 q6.2).bind (fun q7 => (if ((x.1 * 4) + l5) < 0 ∨ 32 ≤ Int32.toNatClampNeg ((x.1 * 4) + l5) then none else some (.inl ((x.1 + 1), (st_i q7.2 147 (Int32.toNatClampNeg ((x.1 * 4) + l5)) q7.1))))))))))
def fX8_passes_127 (N : Nat) (l1 : Int32) (l2 : Int32) (l3 : Int32) (l4 : Int32) (l5 : Int32) (x : Int32 × St) : Option (St) := whl N (bfX8_passes_127 N l1 l2 l3 l4 l5 ) x
set_option maxRecDepth 20000 in
theorem rbfX8_passes_127 (d N : Nat) (res : Option Value × am_S) (l1 : Int32) (l2 : Int32) (l3 : Int32) (l4 : Int32) (l5 : Int32) (x : Int32 × St) (z : (Int32 × St) ⊕ (St)) (h : bfX8_passes_127 N l1 l2 l3 l4 l5 x = some z) (hz : Sum.elim (PfX8_passes_127 (d + 5) res l1 l2 l3 l4 l5 ) (QfX8_passes_127 (d + 5) res l1 l2 l3 l4 l5 ) z) : PfX8_passes_127 (d + 5) res l1 l2 l3 l4 l5 x := by
  unfold bfX8_passes_127 at h
  show am_Rn (am_C (d + 5)) (am_ct 146) (am_rk 146) res (127, [some (.ref 128), some (.int l1), some (.int l2), some (.int l3), some (.int l4), some (.int l5), some (.int x.1)], [], am_T0 x.2)
  refine am_Rn.op _ (129, [some (.ref 128), some (.int l1), some (.int l2), some (.int l3), some (.int l4), some (.int l5), some (.int x.1)], [.int x.1], am_T0 x.2) rfl rfl ?_
  refine am_Rn.op _ (131, [some (.ref 128), some (.int l1), some (.int l2), some (.int l3), some (.int l4), some (.int l5), some (.int x.1)], [.int 8, .int x.1], am_T0 x.2) rfl rfl ?_
  refine am_Rn.op _ (if 8 ≤ x.1 then 189 else 134, [some (.ref 128), some (.int l1), some (.int l2), some (.int l3), some (.int l4), some (.int l5), some (.int x.1)], [], am_T0 x.2) rfl rfl ?_
  rcases l2_i h with ⟨hc, h⟩ | ⟨hc, h⟩
  · refine am_Rn.ifT hc ?_
    cases h
    exact hz _
  · refine am_Rn.ifF hc ?_
    refine am_Rn.op _ (135, [some (.ref 128), some (.int l1), some (.int l2), some (.int l3), some (.int l4), some (.int l5), some (.int x.1)], [.ref 128], am_T0 x.2) rfl rfl ?_
    refine am_Rn.op _ (138, [some (.ref 128), some (.int l1), some (.int l2), some (.int l3), some (.int l4), some (.int l5), some (.int x.1)], [.ref 147], am_T0 x.2) rfl rfl ?_
    refine am_Rn.op _ (140, [some (.ref 128), some (.int l1), some (.int l2), some (.int l3), some (.int l4), some (.int l5), some (.int x.1)], [.int x.1, .ref 147], am_T0 x.2) rfl rfl ?_
    refine am_Rn.op _ (141, [some (.ref 128), some (.int l1), some (.int l2), some (.int l3), some (.int l4), some (.int l5), some (.int x.1)], [.int 4, .int x.1, .ref 147], am_T0 x.2) rfl rfl ?_
    refine am_Rn.op _ (142, [some (.ref 128), some (.int l1), some (.int l2), some (.int l3), some (.int l4), some (.int l5), some (.int x.1)], [.int (x.1 * 4), .ref 147], am_T0 x.2) rfl rfl ?_
    refine am_Rn.op _ (144, [some (.ref 128), some (.int l1), some (.int l2), some (.int l3), some (.int l4), some (.int l5), some (.int x.1)], [.int l5, .int (x.1 * 4), .ref 147], am_T0 x.2) rfl rfl ?_
    refine am_Rn.op _ (145, [some (.ref 128), some (.int l1), some (.int l2), some (.int l3), some (.int l4), some (.int l5), some (.int x.1)], [.int ((x.1 * 4) + l5), .ref 147], am_T0 x.2) rfl rfl ?_
    refine am_Rn.op _ (146, [some (.ref 128), some (.int l1), some (.int l2), some (.int l3), some (.int l4), some (.int l5), some (.int x.1)], [.ref 128, .int ((x.1 * 4) + l5), .ref 147], am_T0 x.2) rfl rfl ?_
    refine am_Rn.op _ (149, [some (.ref 128), some (.int l1), some (.int l2), some (.int l3), some (.int l4), some (.int l5), some (.int x.1)], [.ref 147, .int ((x.1 * 4) + l5), .ref 147], am_T0 x.2) rfl rfl ?_
    refine am_Rn.op _ (151, [some (.ref 128), some (.int l1), some (.int l2), some (.int l3), some (.int l4), some (.int l5), some (.int x.1)], [.int x.1, .ref 147, .int ((x.1 * 4) + l5), .ref 147], am_T0 x.2) rfl rfl ?_
    refine am_Rn.op _ (152, [some (.ref 128), some (.int l1), some (.int l2), some (.int l3), some (.int l4), some (.int l5), some (.int x.1)], [.int 4, .int x.1, .ref 147, .int ((x.1 * 4) + l5), .ref 147], am_T0 x.2) rfl rfl ?_
    refine am_Rn.op _ (153, [some (.ref 128), some (.int l1), some (.int l2), some (.int l3), some (.int l4), some (.int l5), some (.int x.1)], [.int (x.1 * 4), .ref 147, .int ((x.1 * 4) + l5), .ref 147], am_T0 x.2) rfl rfl ?_
    refine am_Rn.op _ (155, [some (.ref 128), some (.int l1), some (.int l2), some (.int l3), some (.int l4), some (.int l5), some (.int x.1)], [.int l5, .int (x.1 * 4), .ref 147, .int ((x.1 * 4) + l5), .ref 147], am_T0 x.2) rfl rfl ?_
    refine am_Rn.op _ (156, [some (.ref 128), some (.int l1), some (.int l2), some (.int l3), some (.int l4), some (.int l5), some (.int x.1)], [.int ((x.1 * 4) + l5), .ref 147, .int ((x.1 * 4) + l5), .ref 147], am_T0 x.2) rfl rfl ?_
    obtain ⟨hb3, h⟩ := l2_n h
    refine am_Rn.iald (n := 32) rfl rfl hb3 ?_
    show am_Rn _ _ _ _ (157, [some (.ref 128), some (.int l1), some (.int l2), some (.int l3), some (.int l4), some (.int l5), some (.int x.1)], [.int (x.2.1 147 (Int32.toNatClampNeg ((x.1 * 4) + l5))), .int ((x.1 * 4) + l5), .ref 147], am_T0 x.2)
    refine am_Rn.op _ (158, [some (.ref 128), some (.int l1), some (.int l2), some (.int l3), some (.int l4), some (.int l5), some (.int x.1)], [.ref 128, .int (x.2.1 147 (Int32.toNatClampNeg ((x.1 * 4) + l5))), .int ((x.1 * 4) + l5), .ref 147], am_T0 x.2) rfl rfl ?_
    refine am_Rn.op _ (161, [some (.ref 128), some (.int l1), some (.int l2), some (.int l3), some (.int l4), some (.int l5), some (.int x.1)], [.ref 145, .int (x.2.1 147 (Int32.toNatClampNeg ((x.1 * 4) + l5))), .int ((x.1 * 4) + l5), .ref 147], am_T0 x.2) rfl rfl ?_
    refine am_Rn.op _ (163, [some (.ref 128), some (.int l1), some (.int l2), some (.int l3), some (.int l4), some (.int l5), some (.int x.1)], [.int l4, .ref 145, .int (x.2.1 147 (Int32.toNatClampNeg ((x.1 * 4) + l5))), .int ((x.1 * 4) + l5), .ref 147], am_T0 x.2) rfl rfl ?_
    obtain ⟨hb4, h⟩ := l2_n h
    refine am_Rn.iald (n := 4) rfl rfl hb4 ?_
    show am_Rn _ _ _ _ (164, [some (.ref 128), some (.int l1), some (.int l2), some (.int l3), some (.int l4), some (.int l5), some (.int x.1)], [.int (x.2.1 145 (Int32.toNatClampNeg l4)), .int (x.2.1 147 (Int32.toNatClampNeg ((x.1 * 4) + l5))), .int ((x.1 * 4) + l5), .ref 147], am_T0 x.2)
    refine am_Rn.op _ (165, [some (.ref 128), some (.int l1), some (.int l2), some (.int l3), some (.int l4), some (.int l5), some (.int x.1)], [.ref 128, .int (x.2.1 145 (Int32.toNatClampNeg l4)), .int (x.2.1 147 (Int32.toNatClampNeg ((x.1 * 4) + l5))), .int ((x.1 * 4) + l5), .ref 147], am_T0 x.2) rfl rfl ?_
    refine am_Rn.op _ (168, [some (.ref 128), some (.int l1), some (.int l2), some (.int l3), some (.int l4), some (.int l5), some (.int x.1)], [.ref 142, .int (x.2.1 145 (Int32.toNatClampNeg l4)), .int (x.2.1 147 (Int32.toNatClampNeg ((x.1 * 4) + l5))), .int ((x.1 * 4) + l5), .ref 147], am_T0 x.2) rfl rfl ?_
    refine am_Rn.op _ (170, [some (.ref 128), some (.int l1), some (.int l2), some (.int l3), some (.int l4), some (.int l5), some (.int x.1)], [.int x.1, .ref 142, .int (x.2.1 145 (Int32.toNatClampNeg l4)), .int (x.2.1 147 (Int32.toNatClampNeg ((x.1 * 4) + l5))), .int ((x.1 * 4) + l5), .ref 147], am_T0 x.2) rfl rfl ?_
    refine am_Rn.op _ (171, [some (.ref 128), some (.int l1), some (.int l2), some (.int l3), some (.int l4), some (.int l5), some (.int x.1)], [.int 4, .int x.1, .ref 142, .int (x.2.1 145 (Int32.toNatClampNeg l4)), .int (x.2.1 147 (Int32.toNatClampNeg ((x.1 * 4) + l5))), .int ((x.1 * 4) + l5), .ref 147], am_T0 x.2) rfl rfl ?_
    refine am_Rn.op _ (172, [some (.ref 128), some (.int l1), some (.int l2), some (.int l3), some (.int l4), some (.int l5), some (.int x.1)], [.int (x.1 * 4), .ref 142, .int (x.2.1 145 (Int32.toNatClampNeg l4)), .int (x.2.1 147 (Int32.toNatClampNeg ((x.1 * 4) + l5))), .int ((x.1 * 4) + l5), .ref 147], am_T0 x.2) rfl rfl ?_
    refine am_Rn.op _ (174, [some (.ref 128), some (.int l1), some (.int l2), some (.int l3), some (.int l4), some (.int l5), some (.int x.1)], [.int l5, .int (x.1 * 4), .ref 142, .int (x.2.1 145 (Int32.toNatClampNeg l4)), .int (x.2.1 147 (Int32.toNatClampNeg ((x.1 * 4) + l5))), .int ((x.1 * 4) + l5), .ref 147], am_T0 x.2) rfl rfl ?_
    refine am_Rn.op _ (175, [some (.ref 128), some (.int l1), some (.int l2), some (.int l3), some (.int l4), some (.int l5), some (.int x.1)], [.int ((x.1 * 4) + l5), .ref 142, .int (x.2.1 145 (Int32.toNatClampNeg l4)), .int (x.2.1 147 (Int32.toNatClampNeg ((x.1 * 4) + l5))), .int ((x.1 * 4) + l5), .ref 147], am_T0 x.2) rfl rfl ?_
    obtain ⟨hb5, h⟩ := l2_n h
    refine am_Rn.iald (n := 32) rfl rfl hb5 ?_
    show am_Rn _ _ _ _ (176, [some (.ref 128), some (.int l1), some (.int l2), some (.int l3), some (.int l4), some (.int l5), some (.int x.1)], [.int (x.2.1 142 (Int32.toNatClampNeg ((x.1 * 4) + l5))), .int (x.2.1 145 (Int32.toNatClampNeg l4)), .int (x.2.1 147 (Int32.toNatClampNeg ((x.1 * 4) + l5))), .int ((x.1 * 4) + l5), .ref 147], am_T0 x.2)
    obtain ⟨q6, hq6, h⟩ := l2_b h
    refine am_Rn.cl _ (some (.int q6.1)) (am_T0 q6.2) rfl rfl (rfX8_sum (d + 3) N (x.2.1 145 (Int32.toNatClampNeg l4)) (x.2.1 142 (Int32.toNatClampNeg ((x.1 * 4) + l5))) x.2 q6 hq6) ?_
    show am_Rn _ _ _ _ (179, [some (.ref 128), some (.int l1), some (.int l2), some (.int l3), some (.int l4), some (.int l5), some (.int x.1)], [.int q6.1, .int (x.2.1 147 (Int32.toNatClampNeg ((x.1 * 4) + l5))), .int ((x.1 * 4) + l5), .ref 147], am_T0 q6.2)
    obtain ⟨q7, hq7, h⟩ := l2_b h
    refine am_Rn.cl _ (some (.int q7.1)) (am_T0 q7.2) rfl rfl (rfX8_less (d + 4) N (x.2.1 147 (Int32.toNatClampNeg ((x.1 * 4) + l5))) q6.1 q6.2 q7 hq7) ?_
    show am_Rn _ _ _ _ (182, [some (.ref 128), some (.int l1), some (.int l2), some (.int l3), some (.int l4), some (.int l5), some (.int x.1)], [.int q7.1, .int ((x.1 * 4) + l5), .ref 147], am_T0 q7.2)
    obtain ⟨hb8, h⟩ := l2_n h
    refine am_Rn.iast (n := 32) rfl rfl hb8 ?_
    show am_Rn _ _ _ _ (183, [some (.ref 128), some (.int l1), some (.int l2), some (.int l3), some (.int l4), some (.int l5), some (.int x.1)], [], am_T0 (st_i q7.2 147 (Int32.toNatClampNeg ((x.1 * 4) + l5)) q7.1))
    refine am_Rn.op _ (186, [some (.ref 128), some (.int l1), some (.int l2), some (.int l3), some (.int l4), some (.int l5), some (.int (x.1 + 1))], [], am_T0 (st_i q7.2 147 (Int32.toNatClampNeg ((x.1 * 4) + l5)) q7.1)) rfl rfl ?_
    refine am_Rn.op _ (127, [some (.ref 128), some (.int l1), some (.int l2), some (.int l3), some (.int l4), some (.int l5), some (.int (x.1 + 1))], [], am_T0 (st_i q7.2 147 (Int32.toNatClampNeg ((x.1 * 4) + l5)) q7.1)) rfl rfl ?_
    cases h
    exact hz 
theorem rfX8_passes_127 (d N : Nat) (res : Option Value × am_S) (l1 : Int32) (l2 : Int32) (l3 : Int32) (l4 : Int32) (l5 : Int32) (x : Int32 × St) (y : St) (h : fX8_passes_127 N l1 l2 l3 l4 l5 x = some y) (hq : QfX8_passes_127 (d + 5) res l1 l2 l3 l4 l5 y) : PfX8_passes_127 (d + 5) res l1 l2 l3 l4 l5 x := whl_ind _ _ (fun x z => rbfX8_passes_127 d N res l1 l2 l3 l4 l5 x z) N x y h hq
def bfX8_passes_84 (N : Nat) (l1 : Int32) (l2 : Int32) (l3 : Int32) (l4 : Int32) (x : Int32 × St) : Option ((Int32 × St) ⊕ (St)) := (if 4 ≤ x.1 then some (.inr (x.2)) else (if x.1 < 0 ∨ 4 ≤ Int32.toNatClampNeg x.1 then none else (if l4 < 0 ∨ 4 ≤ Int32.toNatClampNeg l4 then none else (if x.1 < 0 ∨ 32 ≤ Int32.toNatClampNeg x.1 then none else (fX8_sum N (x.2.1 145 (Int32.toNatClampNeg l4)) (x.2.1 142 (Int32.toNatClampNeg x.1)) x.2).bind (fun q12 => (fX8_less N (x.2.1 146 (Int32.toNatClampNeg x.1)) q12.1 q12.2).bind (fun q13 => (if x.1 < 0 ∨ 4 ≤ Int32.toNatClampNeg x.1 then none else (fX8_passes_127 N l1 l2 l3 l4 x.1 (1, (st_i q13.2 146 (Int32.toNatClampNeg x.1) q13.1))).bind (fun y15 => some (.inl ((x.1 + 1), y15))))))))))
def fX8_passes_84 (N : Nat) (l1 : Int32) (l2 : Int32) (l3 : Int32) (l4 : Int32) (x : Int32 × St) : Option (St) := whl N (bfX8_passes_84 N l1 l2 l3 l4 ) x
set_option maxRecDepth 20000 in
theorem rbfX8_passes_84 (d N : Nat) (res : Option Value × am_S) (l1 : Int32) (l2 : Int32) (l3 : Int32) (l4 : Int32) (x : Int32 × St) (z : (Int32 × St) ⊕ (St)) (h : bfX8_passes_84 N l1 l2 l3 l4 x = some z) (hz : Sum.elim (PfX8_passes_84 (d + 5) res l1 l2 l3 l4 ) (QfX8_passes_84 (d + 5) res l1 l2 l3 l4 ) z) : PfX8_passes_84 (d + 5) res l1 l2 l3 l4 x := by
  unfold bfX8_passes_84 at h
  show ∀ (w6 : Option Value), am_Rn (am_C (d + 5)) (am_ct 146) (am_rk 146) res (84, [some (.ref 128), some (.int l1), some (.int l2), some (.int l3), some (.int l4), some (.int x.1), w6], [], am_T0 x.2)
  intro w6
  refine am_Rn.op _ (86, [some (.ref 128), some (.int l1), some (.int l2), some (.int l3), some (.int l4), some (.int x.1), w6], [.int x.1], am_T0 x.2) rfl rfl ?_
  refine am_Rn.op _ (87, [some (.ref 128), some (.int l1), some (.int l2), some (.int l3), some (.int l4), some (.int x.1), w6], [.int 4, .int x.1], am_T0 x.2) rfl rfl ?_
  refine am_Rn.op _ (if 4 ≤ x.1 then 195 else 90, [some (.ref 128), some (.int l1), some (.int l2), some (.int l3), some (.int l4), some (.int x.1), w6], [], am_T0 x.2) rfl rfl ?_
  rcases l2_i h with ⟨hc, h⟩ | ⟨hc, h⟩
  · refine am_Rn.ifT hc ?_
    cases h
    exact hz _ _
  · refine am_Rn.ifF hc ?_
    refine am_Rn.op _ (91, [some (.ref 128), some (.int l1), some (.int l2), some (.int l3), some (.int l4), some (.int x.1), w6], [.ref 128], am_T0 x.2) rfl rfl ?_
    refine am_Rn.op _ (94, [some (.ref 128), some (.int l1), some (.int l2), some (.int l3), some (.int l4), some (.int x.1), w6], [.ref 146], am_T0 x.2) rfl rfl ?_
    refine am_Rn.op _ (96, [some (.ref 128), some (.int l1), some (.int l2), some (.int l3), some (.int l4), some (.int x.1), w6], [.int x.1, .ref 146], am_T0 x.2) rfl rfl ?_
    refine am_Rn.op _ (97, [some (.ref 128), some (.int l1), some (.int l2), some (.int l3), some (.int l4), some (.int x.1), w6], [.ref 128, .int x.1, .ref 146], am_T0 x.2) rfl rfl ?_
    refine am_Rn.op _ (100, [some (.ref 128), some (.int l1), some (.int l2), some (.int l3), some (.int l4), some (.int x.1), w6], [.ref 146, .int x.1, .ref 146], am_T0 x.2) rfl rfl ?_
    refine am_Rn.op _ (102, [some (.ref 128), some (.int l1), some (.int l2), some (.int l3), some (.int l4), some (.int x.1), w6], [.int x.1, .ref 146, .int x.1, .ref 146], am_T0 x.2) rfl rfl ?_
    obtain ⟨hb9, h⟩ := l2_n h
    refine am_Rn.iald (n := 4) rfl rfl hb9 ?_
    show am_Rn _ _ _ _ (103, [some (.ref 128), some (.int l1), some (.int l2), some (.int l3), some (.int l4), some (.int x.1), w6], [.int (x.2.1 146 (Int32.toNatClampNeg x.1)), .int x.1, .ref 146], am_T0 x.2)
    refine am_Rn.op _ (104, [some (.ref 128), some (.int l1), some (.int l2), some (.int l3), some (.int l4), some (.int x.1), w6], [.ref 128, .int (x.2.1 146 (Int32.toNatClampNeg x.1)), .int x.1, .ref 146], am_T0 x.2) rfl rfl ?_
    refine am_Rn.op _ (107, [some (.ref 128), some (.int l1), some (.int l2), some (.int l3), some (.int l4), some (.int x.1), w6], [.ref 145, .int (x.2.1 146 (Int32.toNatClampNeg x.1)), .int x.1, .ref 146], am_T0 x.2) rfl rfl ?_
    refine am_Rn.op _ (109, [some (.ref 128), some (.int l1), some (.int l2), some (.int l3), some (.int l4), some (.int x.1), w6], [.int l4, .ref 145, .int (x.2.1 146 (Int32.toNatClampNeg x.1)), .int x.1, .ref 146], am_T0 x.2) rfl rfl ?_
    obtain ⟨hb10, h⟩ := l2_n h
    refine am_Rn.iald (n := 4) rfl rfl hb10 ?_
    show am_Rn _ _ _ _ (110, [some (.ref 128), some (.int l1), some (.int l2), some (.int l3), some (.int l4), some (.int x.1), w6], [.int (x.2.1 145 (Int32.toNatClampNeg l4)), .int (x.2.1 146 (Int32.toNatClampNeg x.1)), .int x.1, .ref 146], am_T0 x.2)
    refine am_Rn.op _ (111, [some (.ref 128), some (.int l1), some (.int l2), some (.int l3), some (.int l4), some (.int x.1), w6], [.ref 128, .int (x.2.1 145 (Int32.toNatClampNeg l4)), .int (x.2.1 146 (Int32.toNatClampNeg x.1)), .int x.1, .ref 146], am_T0 x.2) rfl rfl ?_
    refine am_Rn.op _ (114, [some (.ref 128), some (.int l1), some (.int l2), some (.int l3), some (.int l4), some (.int x.1), w6], [.ref 142, .int (x.2.1 145 (Int32.toNatClampNeg l4)), .int (x.2.1 146 (Int32.toNatClampNeg x.1)), .int x.1, .ref 146], am_T0 x.2) rfl rfl ?_
    refine am_Rn.op _ (116, [some (.ref 128), some (.int l1), some (.int l2), some (.int l3), some (.int l4), some (.int x.1), w6], [.int x.1, .ref 142, .int (x.2.1 145 (Int32.toNatClampNeg l4)), .int (x.2.1 146 (Int32.toNatClampNeg x.1)), .int x.1, .ref 146], am_T0 x.2) rfl rfl ?_
    obtain ⟨hb11, h⟩ := l2_n h
    refine am_Rn.iald (n := 32) rfl rfl hb11 ?_
    show am_Rn _ _ _ _ (117, [some (.ref 128), some (.int l1), some (.int l2), some (.int l3), some (.int l4), some (.int x.1), w6], [.int (x.2.1 142 (Int32.toNatClampNeg x.1)), .int (x.2.1 145 (Int32.toNatClampNeg l4)), .int (x.2.1 146 (Int32.toNatClampNeg x.1)), .int x.1, .ref 146], am_T0 x.2)
    obtain ⟨q12, hq12, h⟩ := l2_b h
    refine am_Rn.cl _ (some (.int q12.1)) (am_T0 q12.2) rfl rfl (rfX8_sum (d + 3) N (x.2.1 145 (Int32.toNatClampNeg l4)) (x.2.1 142 (Int32.toNatClampNeg x.1)) x.2 q12 hq12) ?_
    show am_Rn _ _ _ _ (120, [some (.ref 128), some (.int l1), some (.int l2), some (.int l3), some (.int l4), some (.int x.1), w6], [.int q12.1, .int (x.2.1 146 (Int32.toNatClampNeg x.1)), .int x.1, .ref 146], am_T0 q12.2)
    obtain ⟨q13, hq13, h⟩ := l2_b h
    refine am_Rn.cl _ (some (.int q13.1)) (am_T0 q13.2) rfl rfl (rfX8_less (d + 4) N (x.2.1 146 (Int32.toNatClampNeg x.1)) q12.1 q12.2 q13 hq13) ?_
    show am_Rn _ _ _ _ (123, [some (.ref 128), some (.int l1), some (.int l2), some (.int l3), some (.int l4), some (.int x.1), w6], [.int q13.1, .int x.1, .ref 146], am_T0 q13.2)
    obtain ⟨hb14, h⟩ := l2_n h
    refine am_Rn.iast (n := 4) rfl rfl hb14 ?_
    show am_Rn _ _ _ _ (124, [some (.ref 128), some (.int l1), some (.int l2), some (.int l3), some (.int l4), some (.int x.1), w6], [], am_T0 (st_i q13.2 146 (Int32.toNatClampNeg x.1) q13.1))
    refine am_Rn.op _ (125, [some (.ref 128), some (.int l1), some (.int l2), some (.int l3), some (.int l4), some (.int x.1), w6], [.int 1], am_T0 (st_i q13.2 146 (Int32.toNatClampNeg x.1) q13.1)) rfl rfl ?_
    refine am_Rn.op _ (127, [some (.ref 128), some (.int l1), some (.int l2), some (.int l3), some (.int l4), some (.int x.1), some (.int 1)], [], am_T0 (st_i q13.2 146 (Int32.toNatClampNeg x.1) q13.1)) rfl rfl ?_
    obtain ⟨y15, hy15, h⟩ := l2_b h
    refine rfX8_passes_127 d N _ l1 l2 l3 l4 x.1 (1, (st_i q13.2 146 (Int32.toNatClampNeg x.1) q13.1)) y15 hy15 ?_ 
    intro w16
    show am_Rn _ _ _ _ (189, [some (.ref 128), some (.int l1), some (.int l2), some (.int l3), some (.int l4), some (.int x.1), w16], [], am_T0 y15)
    refine am_Rn.op _ (192, [some (.ref 128), some (.int l1), some (.int l2), some (.int l3), some (.int l4), some (.int (x.1 + 1)), w16], [], am_T0 y15) rfl rfl ?_
    refine am_Rn.op _ (84, [some (.ref 128), some (.int l1), some (.int l2), some (.int l3), some (.int l4), some (.int (x.1 + 1)), w16], [], am_T0 y15) rfl rfl ?_
    cases h
    exact hz _
theorem rfX8_passes_84 (d N : Nat) (res : Option Value × am_S) (l1 : Int32) (l2 : Int32) (l3 : Int32) (l4 : Int32) (x : Int32 × St) (y : St) (h : fX8_passes_84 N l1 l2 l3 l4 x = some y) (hq : QfX8_passes_84 (d + 5) res l1 l2 l3 l4 y) : PfX8_passes_84 (d + 5) res l1 l2 l3 l4 x := whl_ind _ _ (fun x z => rbfX8_passes_84 d N res l1 l2 l3 l4 x z) N x y h hq
def fX8_passes_78 (N : Nat) (l1 : Int32) (l2 : Int32) (l3 : Int32) (l4 : Int32) (s1 : Int32) (S : St) : Option ((Int32 × St) ⊕ (St)) := (if s1 = 0 ∨ s1 = 1 then (fX8_passes_84 N l1 l2 l3 l4 (0, (st_i S 128 28 s1))).bind (fun y18 => fX8_passes_195 N l1 l2 l3 l4 y18) else none)
set_option maxRecDepth 20000 in
theorem rfX8_passes_78 (d N : Nat) (res : Option Value × am_S) (l1 : Int32) (l2 : Int32) (l3 : Int32) (l4 : Int32) (s1 : Int32) (S : St) (z : (Int32 × St) ⊕ (St)) (h : fX8_passes_78 N l1 l2 l3 l4 s1 S = some z) (hz : Sum.elim (PfX8_passes_27 (d + 5) res l1 l2 l3 ) (QfX8_passes_27 (d + 5) res l1 l2 l3 ) z) (w5 : Option Value) (w6 : Option Value) : am_Rn (am_C (d + 5)) (am_ct 146) (am_rk 146) res (78, [some (.ref 128), some (.int l1), some (.int l2), some (.int l3), some (.int l4), w5, w6], [.int s1, .ref 128], am_T0 S) := by
  unfold fX8_passes_78 at h
  obtain ⟨hb17, h⟩ := l2_y h
  refine am_Rn.putf rfl rfl (l2_bool hb17) ?_
  show am_Rn _ _ _ _ (81, [some (.ref 128), some (.int l1), some (.int l2), some (.int l3), some (.int l4), w5, w6], [], am_T0 (st_i S 128 28 s1))
  refine am_Rn.op _ (82, [some (.ref 128), some (.int l1), some (.int l2), some (.int l3), some (.int l4), w5, w6], [.int 0], am_T0 (st_i S 128 28 s1)) rfl rfl ?_
  refine am_Rn.op _ (84, [some (.ref 128), some (.int l1), some (.int l2), some (.int l3), some (.int l4), some (.int 0), w6], [], am_T0 (st_i S 128 28 s1)) rfl rfl ?_
  obtain ⟨y18, hy18, h⟩ := l2_b h
  refine rfX8_passes_84 d N _ l1 l2 l3 l4 (0, (st_i S 128 28 s1)) y18 hy18 ?_ _
  intro w19 w20
  show am_Rn _ _ _ _ (195, [some (.ref 128), some (.int l1), some (.int l2), some (.int l3), some (.int l4), w19, w20], [], am_T0 y18)
  exact rfX8_passes_195 d N _ l1 l2 l3 l4 y18 _ h hz _ _
def fX8_passes_73 (N : Nat) (l1 : Int32) (l2 : Int32) (l3 : Int32) (l4 : Int32) (S : St) : Option ((Int32 × St) ⊕ (St)) := fX8_passes_78 N l1 l2 l3 l4 1 S
set_option maxRecDepth 20000 in
theorem rfX8_passes_73 (d N : Nat) (res : Option Value × am_S) (l1 : Int32) (l2 : Int32) (l3 : Int32) (l4 : Int32) (S : St) (z : (Int32 × St) ⊕ (St)) (h : fX8_passes_73 N l1 l2 l3 l4 S = some z) (hz : Sum.elim (PfX8_passes_27 (d + 5) res l1 l2 l3 ) (QfX8_passes_27 (d + 5) res l1 l2 l3 ) z) (w5 : Option Value) (w6 : Option Value) : am_Rn (am_C (d + 5)) (am_ct 146) (am_rk 146) res (73, [some (.ref 128), some (.int l1), some (.int l2), some (.int l3), some (.int l4), w5, w6], [.ref 128], am_T0 S) := by
  unfold fX8_passes_73 at h
  refine am_Rn.op _ (74, [some (.ref 128), some (.int l1), some (.int l2), some (.int l3), some (.int l4), w5, w6], [.int 1, .ref 128], am_T0 S) rfl rfl ?_
  refine am_Rn.op _ (78, [some (.ref 128), some (.int l1), some (.int l2), some (.int l3), some (.int l4), w5, w6], [.int 1, .ref 128], am_T0 S) rfl rfl ?_
  exact rfX8_passes_78 d N _ l1 l2 l3 l4 1 S _ h hz _ _
def bfX8_passes_27 (N : Nat) (l1 : Int32) (l2 : Int32) (l3 : Int32) (x : Int32 × St) : Option ((Int32 × St) ⊕ (St)) := (if 4 ≤ x.1 then some (.inr (x.2)) else (if x.1 < 0 ∨ 4 ≤ Int32.toNatClampNeg x.1 then none else (if (x.2.1 145 (Int32.toNatClampNeg x.1)) < 100000 then (fX8_statement N l1 l2 l3 x.1 x.2).bind (fun q22 => (if (q22.2.1 128 28) = 0 then (if (q22.2.1 128 23) = 0 then fX8_passes_78 N l1 l2 l3 x.1 0 q22.2 else fX8_passes_73 N l1 l2 l3 x.1 q22.2) else fX8_passes_73 N l1 l2 l3 x.1 q22.2)) else fX8_passes_195 N l1 l2 l3 x.1 x.2)))
def fX8_passes_27 (N : Nat) (l1 : Int32) (l2 : Int32) (l3 : Int32) (x : Int32 × St) : Option (St) := whl N (bfX8_passes_27 N l1 l2 l3 ) x
set_option maxRecDepth 20000 in
theorem rbfX8_passes_27 (d N : Nat) (res : Option Value × am_S) (l1 : Int32) (l2 : Int32) (l3 : Int32) (x : Int32 × St) (z : (Int32 × St) ⊕ (St)) (h : bfX8_passes_27 N l1 l2 l3 x = some z) (hz : Sum.elim (PfX8_passes_27 (d + 5) res l1 l2 l3 ) (QfX8_passes_27 (d + 5) res l1 l2 l3 ) z) : PfX8_passes_27 (d + 5) res l1 l2 l3 x := by
  unfold bfX8_passes_27 at h
  show ∀ (w5 w6 : Option Value), am_Rn (am_C (d + 5)) (am_ct 146) (am_rk 146) res (27, [some (.ref 128), some (.int l1), some (.int l2), some (.int l3), some (.int x.1), w5, w6], [], am_T0 x.2)
  intro w5 w6
  refine am_Rn.op _ (29, [some (.ref 128), some (.int l1), some (.int l2), some (.int l3), some (.int x.1), w5, w6], [.int x.1], am_T0 x.2) rfl rfl ?_
  refine am_Rn.op _ (30, [some (.ref 128), some (.int l1), some (.int l2), some (.int l3), some (.int x.1), w5, w6], [.int 4, .int x.1], am_T0 x.2) rfl rfl ?_
  refine am_Rn.op _ (if 4 ≤ x.1 then 201 else 33, [some (.ref 128), some (.int l1), some (.int l2), some (.int l3), some (.int x.1), w5, w6], [], am_T0 x.2) rfl rfl ?_
  rcases l2_i h with ⟨hc, h⟩ | ⟨hc, h⟩
  · refine am_Rn.ifT hc ?_
    cases h
    exact hz _ _ _ _ _ _
  · refine am_Rn.ifF hc ?_
    refine am_Rn.op _ (34, [some (.ref 128), some (.int l1), some (.int l2), some (.int l3), some (.int x.1), w5, w6], [.ref 128], am_T0 x.2) rfl rfl ?_
    refine am_Rn.op _ (37, [some (.ref 128), some (.int l1), some (.int l2), some (.int l3), some (.int x.1), w5, w6], [.ref 145], am_T0 x.2) rfl rfl ?_
    refine am_Rn.op _ (39, [some (.ref 128), some (.int l1), some (.int l2), some (.int l3), some (.int x.1), w5, w6], [.int x.1, .ref 145], am_T0 x.2) rfl rfl ?_
    obtain ⟨hb21, h⟩ := l2_n h
    refine am_Rn.iald (n := 4) rfl rfl hb21 ?_
    show am_Rn _ _ _ _ (40, [some (.ref 128), some (.int l1), some (.int l2), some (.int l3), some (.int x.1), w5, w6], [.int (x.2.1 145 (Int32.toNatClampNeg x.1))], am_T0 x.2)
    refine am_Rn.op _ (42, [some (.ref 128), some (.int l1), some (.int l2), some (.int l3), some (.int x.1), w5, w6], [.int 100000, .int (x.2.1 145 (Int32.toNatClampNeg x.1))], am_T0 x.2) rfl rfl ?_
    refine am_Rn.op _ (if (x.2.1 145 (Int32.toNatClampNeg x.1)) < 100000 then 48 else 45, [some (.ref 128), some (.int l1), some (.int l2), some (.int l3), some (.int x.1), w5, w6], [], am_T0 x.2) rfl rfl ?_
    rcases l2_i h with ⟨hc, h⟩ | ⟨hc, h⟩
    · refine am_Rn.ifT hc ?_
      refine am_Rn.op _ (49, [some (.ref 128), some (.int l1), some (.int l2), some (.int l3), some (.int x.1), w5, w6], [.ref 128], am_T0 x.2) rfl rfl ?_
      refine am_Rn.op _ (50, [some (.ref 128), some (.int l1), some (.int l2), some (.int l3), some (.int x.1), w5, w6], [.int l1, .ref 128], am_T0 x.2) rfl rfl ?_
      refine am_Rn.op _ (51, [some (.ref 128), some (.int l1), some (.int l2), some (.int l3), some (.int x.1), w5, w6], [.int l2, .int l1, .ref 128], am_T0 x.2) rfl rfl ?_
      refine am_Rn.op _ (52, [some (.ref 128), some (.int l1), some (.int l2), some (.int l3), some (.int x.1), w5, w6], [.int l3, .int l2, .int l1, .ref 128], am_T0 x.2) rfl rfl ?_
      refine am_Rn.op _ (54, [some (.ref 128), some (.int l1), some (.int l2), some (.int l3), some (.int x.1), w5, w6], [.int x.1, .int l3, .int l2, .int l1, .ref 128], am_T0 x.2) rfl rfl ?_
      obtain ⟨q22, hq22, h⟩ := l2_b h
      refine am_Rn.cl _ (some (.int q22.1)) (am_T0 q22.2) rfl rfl (rfX8_statement (d + 0) N l1 l2 l3 x.1 x.2 q22 hq22) ?_
      show am_Rn _ _ _ _ (57, [some (.ref 128), some (.int l1), some (.int l2), some (.int l3), some (.int x.1), w5, w6], [.int q22.1], am_T0 q22.2)
      refine am_Rn.op _ (58, [some (.ref 128), some (.int l1), some (.int l2), some (.int l3), some (.int x.1), w5, w6], [], am_T0 q22.2) rfl rfl ?_
      refine am_Rn.op _ (59, [some (.ref 128), some (.int l1), some (.int l2), some (.int l3), some (.int x.1), w5, w6], [.ref 128], am_T0 q22.2) rfl rfl ?_
      refine am_Rn.op _ (60, [some (.ref 128), some (.int l1), some (.int l2), some (.int l3), some (.int x.1), w5, w6], [.ref 128, .ref 128], am_T0 q22.2) rfl rfl ?_
      refine am_Rn.op _ (63, [some (.ref 128), some (.int l1), some (.int l2), some (.int l3), some (.int x.1), w5, w6], [.int (q22.2.1 128 28), .ref 128], am_T0 q22.2) rfl rfl ?_
      refine am_Rn.op _ (if (q22.2.1 128 28) = 0 then 66 else 73, [some (.ref 128), some (.int l1), some (.int l2), some (.int l3), some (.int x.1), w5, w6], [.ref 128], am_T0 q22.2) rfl rfl ?_
      rcases l2_i h with ⟨hc, h⟩ | ⟨hc, h⟩
      · refine am_Rn.ifT hc ?_
        refine am_Rn.op _ (67, [some (.ref 128), some (.int l1), some (.int l2), some (.int l3), some (.int x.1), w5, w6], [.ref 128, .ref 128], am_T0 q22.2) rfl rfl ?_
        refine am_Rn.op _ (70, [some (.ref 128), some (.int l1), some (.int l2), some (.int l3), some (.int x.1), w5, w6], [.int (q22.2.1 128 23), .ref 128], am_T0 q22.2) rfl rfl ?_
        refine am_Rn.op _ (if (q22.2.1 128 23) = 0 then 77 else 73, [some (.ref 128), some (.int l1), some (.int l2), some (.int l3), some (.int x.1), w5, w6], [.ref 128], am_T0 q22.2) rfl rfl ?_
        rcases l2_i h with ⟨hc, h⟩ | ⟨hc, h⟩
        · refine am_Rn.ifT hc ?_
          refine am_Rn.op _ (78, [some (.ref 128), some (.int l1), some (.int l2), some (.int l3), some (.int x.1), w5, w6], [.int 0, .ref 128], am_T0 q22.2) rfl rfl ?_
          exact rfX8_passes_78 d N _ l1 l2 l3 x.1 0 q22.2 _ h hz _ _
        · refine am_Rn.ifF hc ?_
          exact rfX8_passes_73 d N _ l1 l2 l3 x.1 q22.2 _ h hz _ _
      · refine am_Rn.ifF hc ?_
        exact rfX8_passes_73 d N _ l1 l2 l3 x.1 q22.2 _ h hz _ _
    · refine am_Rn.ifF hc ?_
      refine am_Rn.op _ (195, [some (.ref 128), some (.int l1), some (.int l2), some (.int l3), some (.int x.1), w5, w6], [], am_T0 x.2) rfl rfl ?_
      exact rfX8_passes_195 d N _ l1 l2 l3 x.1 x.2 _ h hz _ _
theorem rfX8_passes_27 (d N : Nat) (res : Option Value × am_S) (l1 : Int32) (l2 : Int32) (l3 : Int32) (x : Int32 × St) (y : St) (h : fX8_passes_27 N l1 l2 l3 x = some y) (hq : QfX8_passes_27 (d + 5) res l1 l2 l3 y) : PfX8_passes_27 (d + 5) res l1 l2 l3 x := whl_ind _ _ (fun x z => rbfX8_passes_27 d N res l1 l2 l3 x z) N x y h hq
def bfX8_passes_3 (N : Nat) (l1 : Int32) (l2 : Int32) (l3 : Int32) (x : Int32 × St) : Option ((Int32 × St) ⊕ (St)) := (if 4 ≤ x.1 then some (.inr (x.2)) else (if x.1 < 0 ∨ 4 ≤ Int32.toNatClampNeg x.1 then none else some (.inl ((x.1 + 1), (st_i x.2 146 (Int32.toNatClampNeg x.1) 100000)))))
def fX8_passes_3 (N : Nat) (l1 : Int32) (l2 : Int32) (l3 : Int32) (x : Int32 × St) : Option (St) := whl N (bfX8_passes_3 N l1 l2 l3 ) x
set_option maxRecDepth 20000 in
theorem rbfX8_passes_3 (d N : Nat) (res : Option Value × am_S) (l1 : Int32) (l2 : Int32) (l3 : Int32) (x : Int32 × St) (z : (Int32 × St) ⊕ (St)) (h : bfX8_passes_3 N l1 l2 l3 x = some z) (hz : Sum.elim (PfX8_passes_3 (d + 5) res l1 l2 l3 ) (QfX8_passes_3 (d + 5) res l1 l2 l3 ) z) : PfX8_passes_3 (d + 5) res l1 l2 l3 x := by
  unfold bfX8_passes_3 at h
  show ∀ (w5 w6 : Option Value), am_Rn (am_C (d + 5)) (am_ct 146) (am_rk 146) res (3, [some (.ref 128), some (.int l1), some (.int l2), some (.int l3), some (.int x.1), w5, w6], [], am_T0 x.2)
  intro w5 w6
  refine am_Rn.op _ (5, [some (.ref 128), some (.int l1), some (.int l2), some (.int l3), some (.int x.1), w5, w6], [.int x.1], am_T0 x.2) rfl rfl ?_
  refine am_Rn.op _ (6, [some (.ref 128), some (.int l1), some (.int l2), some (.int l3), some (.int x.1), w5, w6], [.int 4, .int x.1], am_T0 x.2) rfl rfl ?_
  refine am_Rn.op _ (if 4 ≤ x.1 then 24 else 9, [some (.ref 128), some (.int l1), some (.int l2), some (.int l3), some (.int x.1), w5, w6], [], am_T0 x.2) rfl rfl ?_
  rcases l2_i h with ⟨hc, h⟩ | ⟨hc, h⟩
  · refine am_Rn.ifT hc ?_
    cases h
    exact hz _ _ _
  · refine am_Rn.ifF hc ?_
    refine am_Rn.op _ (10, [some (.ref 128), some (.int l1), some (.int l2), some (.int l3), some (.int x.1), w5, w6], [.ref 128], am_T0 x.2) rfl rfl ?_
    refine am_Rn.op _ (13, [some (.ref 128), some (.int l1), some (.int l2), some (.int l3), some (.int x.1), w5, w6], [.ref 146], am_T0 x.2) rfl rfl ?_
    refine am_Rn.op _ (15, [some (.ref 128), some (.int l1), some (.int l2), some (.int l3), some (.int x.1), w5, w6], [.int x.1, .ref 146], am_T0 x.2) rfl rfl ?_
    refine am_Rn.op _ (17, [some (.ref 128), some (.int l1), some (.int l2), some (.int l3), some (.int x.1), w5, w6], [.int 100000, .int x.1, .ref 146], am_T0 x.2) rfl rfl ?_
    obtain ⟨hb23, h⟩ := l2_n h
    refine am_Rn.iast (n := 4) rfl rfl hb23 ?_
    show am_Rn _ _ _ _ (18, [some (.ref 128), some (.int l1), some (.int l2), some (.int l3), some (.int x.1), w5, w6], [], am_T0 (st_i x.2 146 (Int32.toNatClampNeg x.1) 100000))
    refine am_Rn.op _ (21, [some (.ref 128), some (.int l1), some (.int l2), some (.int l3), some (.int (x.1 + 1)), w5, w6], [], am_T0 (st_i x.2 146 (Int32.toNatClampNeg x.1) 100000)) rfl rfl ?_
    refine am_Rn.op _ (3, [some (.ref 128), some (.int l1), some (.int l2), some (.int l3), some (.int (x.1 + 1)), w5, w6], [], am_T0 (st_i x.2 146 (Int32.toNatClampNeg x.1) 100000)) rfl rfl ?_
    cases h
    exact hz _ _
theorem rfX8_passes_3 (d N : Nat) (res : Option Value × am_S) (l1 : Int32) (l2 : Int32) (l3 : Int32) (x : Int32 × St) (y : St) (h : fX8_passes_3 N l1 l2 l3 x = some y) (hq : QfX8_passes_3 (d + 5) res l1 l2 l3 y) : PfX8_passes_3 (d + 5) res l1 l2 l3 x := whl_ind _ _ (fun x z => rbfX8_passes_3 d N res l1 l2 l3 x z) N x y h hq
def fX8_passes (N : Nat) (l1 : Int32) (l2 : Int32) (l3 : Int32) (S : St) : Option St := (fX8_passes_3 N l1 l2 l3 (0, S)).bind (fun y24 => (fX8_passes_27 N l1 l2 l3 (0, y24)).bind (fun y28 => (fX8_passes_204 N (0, y28)).bind (fun y35 => some y35)))
set_option maxRecDepth 20000 in
theorem rfX8_passes (d N : Nat) (l1 : Int32) (l2 : Int32) (l3 : Int32) (S : St) (z : St) (h : fX8_passes N l1 l2 l3 S = some z) : am_C (d + 6) 146 [.ref 128, .int l1, .int l2, .int l3] (am_T0 S) (none, am_T0 z) := by
  unfold fX8_passes at h
  show am_Rn (am_C (d + 5)) (am_ct 146) (am_rk 146) (none, am_T0 z) (0, [some (.ref 128), some (.int l1), some (.int l2), some (.int l3), none, none, none], [], am_T0 S)
  refine am_Rn.op _ (1, [some (.ref 128), some (.int l1), some (.int l2), some (.int l3), none, none, none], [.int 0], am_T0 S) rfl rfl ?_
  refine am_Rn.op _ (3, [some (.ref 128), some (.int l1), some (.int l2), some (.int l3), some (.int 0), none, none], [], am_T0 S) rfl rfl ?_
  obtain ⟨y24, hy24, h⟩ := l2_b h
  refine rfX8_passes_3 d N _ l1 l2 l3 (0, S) y24 hy24 ?_ _ _
  intro w25 w26 w27
  show am_Rn _ _ _ _ (24, [some (.ref 128), some (.int l1), some (.int l2), some (.int l3), w25, w26, w27], [], am_T0 y24)
  refine am_Rn.op _ (25, [some (.ref 128), some (.int l1), some (.int l2), some (.int l3), w25, w26, w27], [.int 0], am_T0 y24) rfl rfl ?_
  refine am_Rn.op _ (27, [some (.ref 128), some (.int l1), some (.int l2), some (.int l3), some (.int 0), w26, w27], [], am_T0 y24) rfl rfl ?_
  obtain ⟨y28, hy28, h⟩ := l2_b h
  refine rfX8_passes_27 d N _ l1 l2 l3 (0, y24) y28 hy28 ?_ _ _
  intro w29 w30 w31 w32 w33 w34
  show am_Rn _ _ _ _ (201, [some (.ref 128), w29, w30, w31, w32, w33, w34], [], am_T0 y28)
  refine am_Rn.op _ (202, [some (.ref 128), w29, w30, w31, w32, w33, w34], [.int 0], am_T0 y28) rfl rfl ?_
  refine am_Rn.op _ (204, [some (.ref 128), w29, w30, w31, some (.int 0), w33, w34], [], am_T0 y28) rfl rfl ?_
  obtain ⟨y35, hy35, h⟩ := l2_b h
  refine rfX8_passes_204 d N _  (0, y28) y35 hy35 ?_ _ _ _ _ _
  cases h
  exact rfl
