-- X7_measure
def PfX7_measure_31 (d : Nat) (res : Option Value × am_S) (l2 : Int32) (x : Int32 × St) : Prop := ∀ (w1 w4 w5 : Option Value), am_Rn (am_C d) (am_ct 110) (am_rk 110) res (31, [some (.ref 0), w1, some (.int l2), some (.int x.1), w4, w5], [], am_T0 x.2)
def QfX7_measure_31 (d : Nat) (res : Option Value × am_S) (l2 : Int32) (y : St) : Prop := ∀ (w1 w3 w4 w5 : Option Value), am_Rn (am_C d) (am_ct 110) (am_rk 110) res (59, [some (.ref 0), w1, some (.int l2), w3, w4, w5], [], am_T0 y)
def PfX7_measure_64 (d : Nat) (res : Option Value × am_S) (l2 : Int32) (x : Int32 × Int32 × St) : Prop := ∀ (w1 w5 : Option Value), am_Rn (am_C d) (am_ct 110) (am_rk 110) res (64, [some (.ref 0), w1, some (.int l2), some (.int x.1), some (.int x.2.1), w5], [], am_T0 x.2.2)
def QfX7_measure_64 (d : Nat) (res : Option Value × am_S) (l2 : Int32) (y : St) : Prop := ∀ (w1 w3 w4 w5 : Option Value), am_Rn (am_C d) (am_ct 110) (am_rk 110) res (153, [some (.ref 0), w1, some (.int l2), w3, w4, w5], [], am_T0 y)
def PfX7_measure_79 (d : Nat) (res : Option Value × am_S) (l2 : Int32) (l4 : Int32) (x : Int32 × Int32 × St) : Prop := ∀ (w1 : Option Value), am_Rn (am_C d) (am_ct 110) (am_rk 110) res (79, [some (.ref 0), w1, some (.int l2), some (.int x.1), some (.int l4), some (.int x.2.1)], [], am_T0 x.2.2)
def QfX7_measure_79 (d : Nat) (res : Option Value × am_S) (l2 : Int32) (l4 : Int32) (y : Int32 × St) : Prop := ∀ (w1 w5 : Option Value), am_Rn (am_C d) (am_ct 110) (am_rk 110) res (147, [some (.ref 0), w1, some (.int l2), some (.int y.1), some (.int l4), w5], [], am_T0 y.2)
def fX7_measure_141 (N : Nat) (l2 : Int32) (l3 : Int32) (l4 : Int32) (l5 : Int32) (S : St) : Option ((Int32 × Int32 × St) ⊕ (Int32 × St)) := some (.inl (l3, (l5 + 1), S))
set_option maxRecDepth 20000 in
theorem rfX7_measure_141 (d N : Nat) (res : Option Value × am_S) (l2 : Int32) (l3 : Int32) (l4 : Int32) (l5 : Int32) (S : St) (z : (Int32 × Int32 × St) ⊕ (Int32 × St)) (h : fX7_measure_141 N l2 l3 l4 l5 S = some z) (hz : Sum.elim (PfX7_measure_79 (d + 6) res l2 l4 ) (QfX7_measure_79 (d + 6) res l2 l4 ) z) (w1 : Option Value) : am_Rn (am_C (d + 6)) (am_ct 110) (am_rk 110) res (141, [some (.ref 0), w1, some (.int l2), some (.int l3), some (.int l4), some (.int l5)], [], am_T0 S) := by
  unfold fX7_measure_141 at h
  refine am_Rn.op _ (144, [some (.ref 0), w1, some (.int l2), some (.int l3), some (.int l4), some (.int (l5 + 1))], [], am_T0 S) rfl rfl ?_
  refine am_Rn.op _ (79, [some (.ref 0), w1, some (.int l2), some (.int l3), some (.int l4), some (.int (l5 + 1))], [], am_T0 S) rfl rfl ?_
  cases h
  exact hz _
def bfX7_measure_79 (N : Nat) (l2 : Int32) (l4 : Int32) (x : Int32 × Int32 × St) : Option ((Int32 × Int32 × St) ⊕ (Int32 × St)) := (if 8 ≤ x.2.1 then some (.inr (x.1, x.2.2)) else (fX7_has N x.1 x.2.1 x.2.2).bind (fun q1 => (if q1.1 = 0 then fX7_measure_141 N l2 x.1 l4 x.2.1 q1.2 else (if x.2.1 < 0 ∨ 8 ≤ Int32.toNatClampNeg x.2.1 then none else (fX2_measureAll N (q1.2.2 (Int32.toNatClampNeg x.2.1)) q1.2).bind (fun q3 => (fX2_tellExits N x.2.1 q3).bind (fun q4 => (if q4.1 = 0 then fX7_measure_141 N l2 (x.1 &&& ((1 <<< (x.2.1 &&& 31)) ^^^ (-1))) l4 x.2.1 q4.2 else (fX7_callersOf N x.2.1 q4.2).bind (fun q5 => fX7_measure_141 N l2 ((x.1 &&& ((1 <<< (x.2.1 &&& 31)) ^^^ (-1))) ||| (l2 &&& q5.1)) l4 x.2.1 q5.2))))))))
def fX7_measure_79 (N : Nat) (l2 : Int32) (l4 : Int32) (x : Int32 × Int32 × St) : Option (Int32 × St) := whl N (bfX7_measure_79 N l2 l4 ) x
set_option maxRecDepth 20000 in
theorem rbfX7_measure_79 (d N : Nat) (res : Option Value × am_S) (l2 : Int32) (l4 : Int32) (x : Int32 × Int32 × St) (z : (Int32 × Int32 × St) ⊕ (Int32 × St)) (h : bfX7_measure_79 N l2 l4 x = some z) (hz : Sum.elim (PfX7_measure_79 (d + 6) res l2 l4 ) (QfX7_measure_79 (d + 6) res l2 l4 ) z) : PfX7_measure_79 (d + 6) res l2 l4 x := by
  unfold bfX7_measure_79 at h
  show ∀ (w1 : Option Value), am_Rn (am_C (d + 6)) (am_ct 110) (am_rk 110) res (79, [some (.ref 0), w1, some (.int l2), some (.int x.1), some (.int l4), some (.int x.2.1)], [], am_T0 x.2.2)
  intro w1
  refine am_Rn.op _ (81, [some (.ref 0), w1, some (.int l2), some (.int x.1), some (.int l4), some (.int x.2.1)], [.int x.2.1], am_T0 x.2.2) rfl rfl ?_
  refine am_Rn.op _ (83, [some (.ref 0), w1, some (.int l2), some (.int x.1), some (.int l4), some (.int x.2.1)], [.int 8, .int x.2.1], am_T0 x.2.2) rfl rfl ?_
  refine am_Rn.op _ (if 8 ≤ x.2.1 then 147 else 86, [some (.ref 0), w1, some (.int l2), some (.int x.1), some (.int l4), some (.int x.2.1)], [], am_T0 x.2.2) rfl rfl ?_
  rcases l2_i h with ⟨hc, h⟩ | ⟨hc, h⟩
  · refine am_Rn.ifT hc ?_
    cases h
    exact hz _ _
  · refine am_Rn.ifF hc ?_
    refine am_Rn.op _ (87, [some (.ref 0), w1, some (.int l2), some (.int x.1), some (.int l4), some (.int x.2.1)], [.int x.1], am_T0 x.2.2) rfl rfl ?_
    refine am_Rn.op _ (89, [some (.ref 0), w1, some (.int l2), some (.int x.1), some (.int l4), some (.int x.2.1)], [.int x.2.1, .int x.1], am_T0 x.2.2) rfl rfl ?_
    obtain ⟨q1, hq1, h⟩ := l2_b h
    refine am_Rn.cl _ (some (.int q1.1)) (am_T0 q1.2) rfl rfl (rfX7_has (d + 5) N x.1 x.2.1 x.2.2 q1 hq1) ?_
    show am_Rn _ _ _ _ (92, [some (.ref 0), w1, some (.int l2), some (.int x.1), some (.int l4), some (.int x.2.1)], [.int q1.1], am_T0 q1.2)
    refine am_Rn.op _ (if q1.1 = 0 then 141 else 95, [some (.ref 0), w1, some (.int l2), some (.int x.1), some (.int l4), some (.int x.2.1)], [], am_T0 q1.2) rfl rfl ?_
    rcases l2_i h with ⟨hc, h⟩ | ⟨hc, h⟩
    · refine am_Rn.ifT hc ?_
      exact rfX7_measure_141 d N _ l2 x.1 l4 x.2.1 q1.2 _ h hz _
    · refine am_Rn.ifF hc ?_
      refine am_Rn.op _ (96, [some (.ref 0), w1, some (.int l2), some (.int x.1), some (.int l4), some (.int x.2.1)], [.int x.1], am_T0 q1.2) rfl rfl ?_
      refine am_Rn.op _ (97, [some (.ref 0), w1, some (.int l2), some (.int x.1), some (.int l4), some (.int x.2.1)], [.int 1, .int x.1], am_T0 q1.2) rfl rfl ?_
      refine am_Rn.op _ (99, [some (.ref 0), w1, some (.int l2), some (.int x.1), some (.int l4), some (.int x.2.1)], [.int x.2.1, .int 1, .int x.1], am_T0 q1.2) rfl rfl ?_
      refine am_Rn.op _ (100, [some (.ref 0), w1, some (.int l2), some (.int x.1), some (.int l4), some (.int x.2.1)], [.int (1 <<< (x.2.1 &&& 31)), .int x.1], am_T0 q1.2) rfl rfl ?_
      refine am_Rn.op _ (101, [some (.ref 0), w1, some (.int l2), some (.int x.1), some (.int l4), some (.int x.2.1)], [.int (-1), .int (1 <<< (x.2.1 &&& 31)), .int x.1], am_T0 q1.2) rfl rfl ?_
      refine am_Rn.op _ (102, [some (.ref 0), w1, some (.int l2), some (.int x.1), some (.int l4), some (.int x.2.1)], [.int ((1 <<< (x.2.1 &&& 31)) ^^^ (-1)), .int x.1], am_T0 q1.2) rfl rfl ?_
      refine am_Rn.op _ (103, [some (.ref 0), w1, some (.int l2), some (.int x.1), some (.int l4), some (.int x.2.1)], [.int (x.1 &&& ((1 <<< (x.2.1 &&& 31)) ^^^ (-1)))], am_T0 q1.2) rfl rfl ?_
      refine am_Rn.op _ (104, [some (.ref 0), w1, some (.int l2), some (.int (x.1 &&& ((1 <<< (x.2.1 &&& 31)) ^^^ (-1)))), some (.int l4), some (.int x.2.1)], [], am_T0 q1.2) rfl rfl ?_
      refine am_Rn.op _ (105, [some (.ref 0), w1, some (.int l2), some (.int (x.1 &&& ((1 <<< (x.2.1 &&& 31)) ^^^ (-1)))), some (.int l4), some (.int x.2.1)], [.ref 0], am_T0 q1.2) rfl rfl ?_
      refine am_Rn.op _ (108, [some (.ref 0), w1, some (.int l2), some (.int (x.1 &&& ((1 <<< (x.2.1 &&& 31)) ^^^ (-1)))), some (.int l4), some (.int x.2.1)], [.ref 20], am_T0 q1.2) rfl rfl ?_
      refine am_Rn.op _ (109, [some (.ref 0), w1, some (.int l2), some (.int (x.1 &&& ((1 <<< (x.2.1 &&& 31)) ^^^ (-1)))), some (.int l4), some (.int x.2.1)], [.ref 0, .ref 20], am_T0 q1.2) rfl rfl ?_
      refine am_Rn.op _ (112, [some (.ref 0), w1, some (.int l2), some (.int (x.1 &&& ((1 <<< (x.2.1 &&& 31)) ^^^ (-1)))), some (.int l4), some (.int x.2.1)], [.ref 16, .ref 20], am_T0 q1.2) rfl rfl ?_
      refine am_Rn.op _ (114, [some (.ref 0), w1, some (.int l2), some (.int (x.1 &&& ((1 <<< (x.2.1 &&& 31)) ^^^ (-1)))), some (.int l4), some (.int x.2.1)], [.int x.2.1, .ref 16, .ref 20], am_T0 q1.2) rfl rfl ?_
      obtain ⟨hb2, h⟩ := l2_n h
      refine am_Rn.aald rfl hb2 ?_
      show am_Rn _ _ _ _ (115, [some (.ref 0), w1, some (.int l2), some (.int (x.1 &&& ((1 <<< (x.2.1 &&& 31)) ^^^ (-1)))), some (.int l4), some (.int x.2.1)], [.ref (TA (q1.2.2 (Int32.toNatClampNeg x.2.1))), .ref 20], am_T0 q1.2)
      obtain ⟨q3, hq3, h⟩ := l2_b h
      refine am_Rn.cl _ none (am_T0 q3) rfl rfl (rfX2_measureAll (d + 0) N (q1.2.2 (Int32.toNatClampNeg x.2.1)) q1.2 q3 hq3) ?_
      show am_Rn _ _ _ _ (118, [some (.ref 0), w1, some (.int l2), some (.int (x.1 &&& ((1 <<< (x.2.1 &&& 31)) ^^^ (-1)))), some (.int l4), some (.int x.2.1)], [], am_T0 q3)
      refine am_Rn.op _ (119, [some (.ref 0), w1, some (.int l2), some (.int (x.1 &&& ((1 <<< (x.2.1 &&& 31)) ^^^ (-1)))), some (.int l4), some (.int x.2.1)], [.ref 0], am_T0 q3) rfl rfl ?_
      refine am_Rn.op _ (122, [some (.ref 0), w1, some (.int l2), some (.int (x.1 &&& ((1 <<< (x.2.1 &&& 31)) ^^^ (-1)))), some (.int l4), some (.int x.2.1)], [.ref 20], am_T0 q3) rfl rfl ?_
      refine am_Rn.op _ (124, [some (.ref 0), w1, some (.int l2), some (.int (x.1 &&& ((1 <<< (x.2.1 &&& 31)) ^^^ (-1)))), some (.int l4), some (.int x.2.1)], [.int x.2.1, .ref 20], am_T0 q3) rfl rfl ?_
      obtain ⟨q4, hq4, h⟩ := l2_b h
      refine am_Rn.cl _ (some (.int q4.1)) (am_T0 q4.2) rfl rfl (rfX2_tellExits (d + 2) N x.2.1 q3 q4 hq4) ?_
      show am_Rn _ _ _ _ (127, [some (.ref 0), w1, some (.int l2), some (.int (x.1 &&& ((1 <<< (x.2.1 &&& 31)) ^^^ (-1)))), some (.int l4), some (.int x.2.1)], [.int q4.1], am_T0 q4.2)
      refine am_Rn.op _ (if q4.1 = 0 then 141 else 130, [some (.ref 0), w1, some (.int l2), some (.int (x.1 &&& ((1 <<< (x.2.1 &&& 31)) ^^^ (-1)))), some (.int l4), some (.int x.2.1)], [], am_T0 q4.2) rfl rfl ?_
      rcases l2_i h with ⟨hc, h⟩ | ⟨hc, h⟩
      · refine am_Rn.ifT hc ?_
        exact rfX7_measure_141 d N _ l2 (x.1 &&& ((1 <<< (x.2.1 &&& 31)) ^^^ (-1))) l4 x.2.1 q4.2 _ h hz _
      · refine am_Rn.ifF hc ?_
        refine am_Rn.op _ (131, [some (.ref 0), w1, some (.int l2), some (.int (x.1 &&& ((1 <<< (x.2.1 &&& 31)) ^^^ (-1)))), some (.int l4), some (.int x.2.1)], [.int (x.1 &&& ((1 <<< (x.2.1 &&& 31)) ^^^ (-1)))], am_T0 q4.2) rfl rfl ?_
        refine am_Rn.op _ (132, [some (.ref 0), w1, some (.int l2), some (.int (x.1 &&& ((1 <<< (x.2.1 &&& 31)) ^^^ (-1)))), some (.int l4), some (.int x.2.1)], [.int l2, .int (x.1 &&& ((1 <<< (x.2.1 &&& 31)) ^^^ (-1)))], am_T0 q4.2) rfl rfl ?_
        refine am_Rn.op _ (133, [some (.ref 0), w1, some (.int l2), some (.int (x.1 &&& ((1 <<< (x.2.1 &&& 31)) ^^^ (-1)))), some (.int l4), some (.int x.2.1)], [.ref 0, .int l2, .int (x.1 &&& ((1 <<< (x.2.1 &&& 31)) ^^^ (-1)))], am_T0 q4.2) rfl rfl ?_
        refine am_Rn.op _ (135, [some (.ref 0), w1, some (.int l2), some (.int (x.1 &&& ((1 <<< (x.2.1 &&& 31)) ^^^ (-1)))), some (.int l4), some (.int x.2.1)], [.int x.2.1, .ref 0, .int l2, .int (x.1 &&& ((1 <<< (x.2.1 &&& 31)) ^^^ (-1)))], am_T0 q4.2) rfl rfl ?_
        obtain ⟨q5, hq5, h⟩ := l2_b h
        refine am_Rn.cl _ (some (.int q5.1)) (am_T0 q5.2) rfl rfl (rfX7_callersOf (d + 4) N x.2.1 q4.2 q5 hq5) ?_
        show am_Rn _ _ _ _ (138, [some (.ref 0), w1, some (.int l2), some (.int (x.1 &&& ((1 <<< (x.2.1 &&& 31)) ^^^ (-1)))), some (.int l4), some (.int x.2.1)], [.int q5.1, .int l2, .int (x.1 &&& ((1 <<< (x.2.1 &&& 31)) ^^^ (-1)))], am_T0 q5.2)
        refine am_Rn.op _ (139, [some (.ref 0), w1, some (.int l2), some (.int (x.1 &&& ((1 <<< (x.2.1 &&& 31)) ^^^ (-1)))), some (.int l4), some (.int x.2.1)], [.int (l2 &&& q5.1), .int (x.1 &&& ((1 <<< (x.2.1 &&& 31)) ^^^ (-1)))], am_T0 q5.2) rfl rfl ?_
        refine am_Rn.op _ (140, [some (.ref 0), w1, some (.int l2), some (.int (x.1 &&& ((1 <<< (x.2.1 &&& 31)) ^^^ (-1)))), some (.int l4), some (.int x.2.1)], [.int ((x.1 &&& ((1 <<< (x.2.1 &&& 31)) ^^^ (-1))) ||| (l2 &&& q5.1))], am_T0 q5.2) rfl rfl ?_
        refine am_Rn.op _ (141, [some (.ref 0), w1, some (.int l2), some (.int ((x.1 &&& ((1 <<< (x.2.1 &&& 31)) ^^^ (-1))) ||| (l2 &&& q5.1))), some (.int l4), some (.int x.2.1)], [], am_T0 q5.2) rfl rfl ?_
        exact rfX7_measure_141 d N _ l2 ((x.1 &&& ((1 <<< (x.2.1 &&& 31)) ^^^ (-1))) ||| (l2 &&& q5.1)) l4 x.2.1 q5.2 _ h hz _
theorem rfX7_measure_79 (d N : Nat) (res : Option Value × am_S) (l2 : Int32) (l4 : Int32) (x : Int32 × Int32 × St) (y : Int32 × St) (h : fX7_measure_79 N l2 l4 x = some y) (hq : QfX7_measure_79 (d + 6) res l2 l4 y) : PfX7_measure_79 (d + 6) res l2 l4 x := whl_ind _ _ (fun x z => rbfX7_measure_79 d N res l2 l4 x z) N x y h hq
def bfX7_measure_64 (N : Nat) (l2 : Int32) (x : Int32 × Int32 × St) : Option ((Int32 × Int32 × St) ⊕ (St)) := (if 1000 ≤ x.2.1 then some (.inr (x.2.2)) else (if x.1 = 0 then some (.inr (x.2.2)) else (fX7_measure_79 N l2 x.2.1 (x.1, 0, x.2.2)).bind (fun y6 => some (.inl (y6.1, (x.2.1 + 1), y6.2)))))
def fX7_measure_64 (N : Nat) (l2 : Int32) (x : Int32 × Int32 × St) : Option (St) := whl N (bfX7_measure_64 N l2 ) x
set_option maxRecDepth 20000 in
theorem rbfX7_measure_64 (d N : Nat) (res : Option Value × am_S) (l2 : Int32) (x : Int32 × Int32 × St) (z : (Int32 × Int32 × St) ⊕ (St)) (h : bfX7_measure_64 N l2 x = some z) (hz : Sum.elim (PfX7_measure_64 (d + 6) res l2 ) (QfX7_measure_64 (d + 6) res l2 ) z) : PfX7_measure_64 (d + 6) res l2 x := by
  unfold bfX7_measure_64 at h
  show ∀ (w1 w5 : Option Value), am_Rn (am_C (d + 6)) (am_ct 110) (am_rk 110) res (64, [some (.ref 0), w1, some (.int l2), some (.int x.1), some (.int x.2.1), w5], [], am_T0 x.2.2)
  intro w1 w5
  refine am_Rn.op _ (66, [some (.ref 0), w1, some (.int l2), some (.int x.1), some (.int x.2.1), w5], [.int x.2.1], am_T0 x.2.2) rfl rfl ?_
  refine am_Rn.op _ (69, [some (.ref 0), w1, some (.int l2), some (.int x.1), some (.int x.2.1), w5], [.int 1000, .int x.2.1], am_T0 x.2.2) rfl rfl ?_
  refine am_Rn.op _ (if 1000 ≤ x.2.1 then 153 else 72, [some (.ref 0), w1, some (.int l2), some (.int x.1), some (.int x.2.1), w5], [], am_T0 x.2.2) rfl rfl ?_
  rcases l2_i h with ⟨hc, h⟩ | ⟨hc, h⟩
  · refine am_Rn.ifT hc ?_
    cases h
    exact hz _ _ _ _
  · refine am_Rn.ifF hc ?_
    refine am_Rn.op _ (73, [some (.ref 0), w1, some (.int l2), some (.int x.1), some (.int x.2.1), w5], [.int x.1], am_T0 x.2.2) rfl rfl ?_
    refine am_Rn.op _ (if x.1 = 0 then 153 else 76, [some (.ref 0), w1, some (.int l2), some (.int x.1), some (.int x.2.1), w5], [], am_T0 x.2.2) rfl rfl ?_
    rcases l2_i h with ⟨hc, h⟩ | ⟨hc, h⟩
    · refine am_Rn.ifT hc ?_
      cases h
      exact hz _ _ _ _
    · refine am_Rn.ifF hc ?_
      refine am_Rn.op _ (77, [some (.ref 0), w1, some (.int l2), some (.int x.1), some (.int x.2.1), w5], [.int 0], am_T0 x.2.2) rfl rfl ?_
      refine am_Rn.op _ (79, [some (.ref 0), w1, some (.int l2), some (.int x.1), some (.int x.2.1), some (.int 0)], [], am_T0 x.2.2) rfl rfl ?_
      obtain ⟨y6, hy6, h⟩ := l2_b h
      refine rfX7_measure_79 d N _ l2 x.2.1 (x.1, 0, x.2.2) y6 hy6 ?_ _
      intro w7 w8
      show am_Rn _ _ _ _ (147, [some (.ref 0), w7, some (.int l2), some (.int y6.1), some (.int x.2.1), w8], [], am_T0 y6.2)
      refine am_Rn.op _ (150, [some (.ref 0), w7, some (.int l2), some (.int y6.1), some (.int (x.2.1 + 1)), w8], [], am_T0 y6.2) rfl rfl ?_
      refine am_Rn.op _ (64, [some (.ref 0), w7, some (.int l2), some (.int y6.1), some (.int (x.2.1 + 1)), w8], [], am_T0 y6.2) rfl rfl ?_
      cases h
      exact hz _ _
theorem rfX7_measure_64 (d N : Nat) (res : Option Value × am_S) (l2 : Int32) (x : Int32 × Int32 × St) (y : St) (h : fX7_measure_64 N l2 x = some y) (hq : QfX7_measure_64 (d + 6) res l2 y) : PfX7_measure_64 (d + 6) res l2 x := whl_ind _ _ (fun x z => rbfX7_measure_64 d N res l2 x z) N x y h hq
def fX7_measure_53 (N : Nat) (l2 : Int32) (l3 : Int32) (S : St) : Option ((Int32 × St) ⊕ (St)) := some (.inl ((l3 + 1), S))
set_option maxRecDepth 20000 in
theorem rfX7_measure_53 (d N : Nat) (res : Option Value × am_S) (l2 : Int32) (l3 : Int32) (S : St) (z : (Int32 × St) ⊕ (St)) (h : fX7_measure_53 N l2 l3 S = some z) (hz : Sum.elim (PfX7_measure_31 (d + 6) res l2 ) (QfX7_measure_31 (d + 6) res l2 ) z) (w1 : Option Value) (w4 : Option Value) (w5 : Option Value) : am_Rn (am_C (d + 6)) (am_ct 110) (am_rk 110) res (53, [some (.ref 0), w1, some (.int l2), some (.int l3), w4, w5], [], am_T0 S) := by
  unfold fX7_measure_53 at h
  refine am_Rn.op _ (56, [some (.ref 0), w1, some (.int l2), some (.int (l3 + 1)), w4, w5], [], am_T0 S) rfl rfl ?_
  refine am_Rn.op _ (31, [some (.ref 0), w1, some (.int l2), some (.int (l3 + 1)), w4, w5], [], am_T0 S) rfl rfl ?_
  cases h
  exact hz _ _ _
def bfX7_measure_31 (N : Nat) (l2 : Int32) (x : Int32 × St) : Option ((Int32 × St) ⊕ (St)) := (if 8 ≤ x.1 then some (.inr (x.2)) else (fX7_has N l2 x.1 x.2).bind (fun q9 => (if q9.1 = 0 then fX7_measure_53 N l2 x.1 q9.2 else (fX0_clear N x.1 q9.2).bind (fun q10 => fX7_measure_53 N l2 x.1 q10))))
def fX7_measure_31 (N : Nat) (l2 : Int32) (x : Int32 × St) : Option (St) := whl N (bfX7_measure_31 N l2 ) x
set_option maxRecDepth 20000 in
theorem rbfX7_measure_31 (d N : Nat) (res : Option Value × am_S) (l2 : Int32) (x : Int32 × St) (z : (Int32 × St) ⊕ (St)) (h : bfX7_measure_31 N l2 x = some z) (hz : Sum.elim (PfX7_measure_31 (d + 6) res l2 ) (QfX7_measure_31 (d + 6) res l2 ) z) : PfX7_measure_31 (d + 6) res l2 x := by
  unfold bfX7_measure_31 at h
  show ∀ (w1 w4 w5 : Option Value), am_Rn (am_C (d + 6)) (am_ct 110) (am_rk 110) res (31, [some (.ref 0), w1, some (.int l2), some (.int x.1), w4, w5], [], am_T0 x.2)
  intro w1 w4 w5
  refine am_Rn.op _ (32, [some (.ref 0), w1, some (.int l2), some (.int x.1), w4, w5], [.int x.1], am_T0 x.2) rfl rfl ?_
  refine am_Rn.op _ (34, [some (.ref 0), w1, some (.int l2), some (.int x.1), w4, w5], [.int 8, .int x.1], am_T0 x.2) rfl rfl ?_
  refine am_Rn.op _ (if 8 ≤ x.1 then 59 else 37, [some (.ref 0), w1, some (.int l2), some (.int x.1), w4, w5], [], am_T0 x.2) rfl rfl ?_
  rcases l2_i h with ⟨hc, h⟩ | ⟨hc, h⟩
  · refine am_Rn.ifT hc ?_
    cases h
    exact hz _ _ _ _
  · refine am_Rn.ifF hc ?_
    refine am_Rn.op _ (38, [some (.ref 0), w1, some (.int l2), some (.int x.1), w4, w5], [.int l2], am_T0 x.2) rfl rfl ?_
    refine am_Rn.op _ (39, [some (.ref 0), w1, some (.int l2), some (.int x.1), w4, w5], [.int x.1, .int l2], am_T0 x.2) rfl rfl ?_
    obtain ⟨q9, hq9, h⟩ := l2_b h
    refine am_Rn.cl _ (some (.int q9.1)) (am_T0 q9.2) rfl rfl (rfX7_has (d + 5) N l2 x.1 x.2 q9 hq9) ?_
    show am_Rn _ _ _ _ (42, [some (.ref 0), w1, some (.int l2), some (.int x.1), w4, w5], [.int q9.1], am_T0 q9.2)
    refine am_Rn.op _ (if q9.1 = 0 then 53 else 45, [some (.ref 0), w1, some (.int l2), some (.int x.1), w4, w5], [], am_T0 q9.2) rfl rfl ?_
    rcases l2_i h with ⟨hc, h⟩ | ⟨hc, h⟩
    · refine am_Rn.ifT hc ?_
      exact rfX7_measure_53 d N _ l2 x.1 q9.2 _ h hz _ _ _
    · refine am_Rn.ifF hc ?_
      refine am_Rn.op _ (46, [some (.ref 0), w1, some (.int l2), some (.int x.1), w4, w5], [.ref 0], am_T0 q9.2) rfl rfl ?_
      refine am_Rn.op _ (49, [some (.ref 0), w1, some (.int l2), some (.int x.1), w4, w5], [.ref 18], am_T0 q9.2) rfl rfl ?_
      refine am_Rn.op _ (50, [some (.ref 0), w1, some (.int l2), some (.int x.1), w4, w5], [.int x.1, .ref 18], am_T0 q9.2) rfl rfl ?_
      obtain ⟨q10, hq10, h⟩ := l2_b h
      refine am_Rn.cl _ none (am_T0 q10) rfl rfl (rfX0_clear (d + 2) N x.1 q9.2 q10 hq10) ?_
      show am_Rn _ _ _ _ (53, [some (.ref 0), w1, some (.int l2), some (.int x.1), w4, w5], [], am_T0 q10)
      exact rfX7_measure_53 d N _ l2 x.1 q10 _ h hz _ _ _
theorem rfX7_measure_31 (d N : Nat) (res : Option Value × am_S) (l2 : Int32) (x : Int32 × St) (y : St) (h : fX7_measure_31 N l2 x = some y) (hq : QfX7_measure_31 (d + 6) res l2 y) : PfX7_measure_31 (d + 6) res l2 x := whl_ind _ _ (fun x z => rbfX7_measure_31 d N res l2 x z) N x y h hq
def fX7_measure (N : Nat) (l1 : Int32) (S : St) : Option St := (fX7_has N (S.1 0 11) l1 S).bind (fun q11 => (if q11.1 = 0 then (fX7_comesTo N l1 q11.2).bind (fun q12 => (fX7_measure_31 N (((1 <<< (l1 &&& 31)) ||| q12.1) &&& ((q12.2.1 0 11) ^^^ (-1))) (0, q12.2)).bind (fun y13 => (fX7_measure_64 N (((1 <<< (l1 &&& 31)) ||| q12.1) &&& ((q12.2.1 0 11) ^^^ (-1))) ((((1 <<< (l1 &&& 31)) ||| q12.1) &&& ((q12.2.1 0 11) ^^^ (-1))), 0, y13)).bind (fun y18 => some (st_i y18 0 11 ((y18.1 0 11) ||| (((1 <<< (l1 &&& 31)) ||| q12.1) &&& ((q12.2.1 0 11) ^^^ (-1)))))))) else some q11.2))
set_option maxRecDepth 20000 in
theorem rfX7_measure (d N : Nat) (l1 : Int32) (S : St) (z : St) (h : fX7_measure N l1 S = some z) : am_C (d + 7) 110 [.ref 0, .int l1] (am_T0 S) (none, am_T0 z) := by
  unfold fX7_measure at h
  show am_Rn (am_C (d + 6)) (am_ct 110) (am_rk 110) (none, am_T0 z) (0, [some (.ref 0), some (.int l1), none, none, none, none], [], am_T0 S)
  refine am_Rn.op _ (1, [some (.ref 0), some (.int l1), none, none, none, none], [.ref 0], am_T0 S) rfl rfl ?_
  refine am_Rn.op _ (4, [some (.ref 0), some (.int l1), none, none, none, none], [.int (S.1 0 11)], am_T0 S) rfl rfl ?_
  refine am_Rn.op _ (5, [some (.ref 0), some (.int l1), none, none, none, none], [.int l1, .int (S.1 0 11)], am_T0 S) rfl rfl ?_
  obtain ⟨q11, hq11, h⟩ := l2_b h
  refine am_Rn.cl _ (some (.int q11.1)) (am_T0 q11.2) rfl rfl (rfX7_has (d + 5) N (S.1 0 11) l1 S q11 hq11) ?_
  show am_Rn _ _ _ _ (8, [some (.ref 0), some (.int l1), none, none, none, none], [.int q11.1], am_T0 q11.2)
  refine am_Rn.op _ (if q11.1 = 0 then 12 else 11, [some (.ref 0), some (.int l1), none, none, none, none], [], am_T0 q11.2) rfl rfl ?_
  rcases l2_i h with ⟨hc, h⟩ | ⟨hc, h⟩
  · refine am_Rn.ifT hc ?_
    refine am_Rn.op _ (13, [some (.ref 0), some (.int l1), none, none, none, none], [.int 1], am_T0 q11.2) rfl rfl ?_
    refine am_Rn.op _ (14, [some (.ref 0), some (.int l1), none, none, none, none], [.int l1, .int 1], am_T0 q11.2) rfl rfl ?_
    refine am_Rn.op _ (15, [some (.ref 0), some (.int l1), none, none, none, none], [.int (1 <<< (l1 &&& 31))], am_T0 q11.2) rfl rfl ?_
    refine am_Rn.op _ (16, [some (.ref 0), some (.int l1), none, none, none, none], [.ref 0, .int (1 <<< (l1 &&& 31))], am_T0 q11.2) rfl rfl ?_
    refine am_Rn.op _ (17, [some (.ref 0), some (.int l1), none, none, none, none], [.int l1, .ref 0, .int (1 <<< (l1 &&& 31))], am_T0 q11.2) rfl rfl ?_
    obtain ⟨q12, hq12, h⟩ := l2_b h
    refine am_Rn.cl _ (some (.int q12.1)) (am_T0 q12.2) rfl rfl (rfX7_comesTo (d + 4) N l1 q11.2 q12 hq12) ?_
    show am_Rn _ _ _ _ (20, [some (.ref 0), some (.int l1), none, none, none, none], [.int q12.1, .int (1 <<< (l1 &&& 31))], am_T0 q12.2)
    refine am_Rn.op _ (21, [some (.ref 0), some (.int l1), none, none, none, none], [.int ((1 <<< (l1 &&& 31)) ||| q12.1)], am_T0 q12.2) rfl rfl ?_
    refine am_Rn.op _ (22, [some (.ref 0), some (.int l1), none, none, none, none], [.ref 0, .int ((1 <<< (l1 &&& 31)) ||| q12.1)], am_T0 q12.2) rfl rfl ?_
    refine am_Rn.op _ (25, [some (.ref 0), some (.int l1), none, none, none, none], [.int (q12.2.1 0 11), .int ((1 <<< (l1 &&& 31)) ||| q12.1)], am_T0 q12.2) rfl rfl ?_
    refine am_Rn.op _ (26, [some (.ref 0), some (.int l1), none, none, none, none], [.int (-1), .int (q12.2.1 0 11), .int ((1 <<< (l1 &&& 31)) ||| q12.1)], am_T0 q12.2) rfl rfl ?_
    refine am_Rn.op _ (27, [some (.ref 0), some (.int l1), none, none, none, none], [.int ((q12.2.1 0 11) ^^^ (-1)), .int ((1 <<< (l1 &&& 31)) ||| q12.1)], am_T0 q12.2) rfl rfl ?_
    refine am_Rn.op _ (28, [some (.ref 0), some (.int l1), none, none, none, none], [.int (((1 <<< (l1 &&& 31)) ||| q12.1) &&& ((q12.2.1 0 11) ^^^ (-1)))], am_T0 q12.2) rfl rfl ?_
    refine am_Rn.op _ (29, [some (.ref 0), some (.int l1), some (.int (((1 <<< (l1 &&& 31)) ||| q12.1) &&& ((q12.2.1 0 11) ^^^ (-1)))), none, none, none], [], am_T0 q12.2) rfl rfl ?_
    refine am_Rn.op _ (30, [some (.ref 0), some (.int l1), some (.int (((1 <<< (l1 &&& 31)) ||| q12.1) &&& ((q12.2.1 0 11) ^^^ (-1)))), none, none, none], [.int 0], am_T0 q12.2) rfl rfl ?_
    refine am_Rn.op _ (31, [some (.ref 0), some (.int l1), some (.int (((1 <<< (l1 &&& 31)) ||| q12.1) &&& ((q12.2.1 0 11) ^^^ (-1)))), some (.int 0), none, none], [], am_T0 q12.2) rfl rfl ?_
    obtain ⟨y13, hy13, h⟩ := l2_b h
    refine rfX7_measure_31 d N _ (((1 <<< (l1 &&& 31)) ||| q12.1) &&& ((q12.2.1 0 11) ^^^ (-1))) (0, q12.2) y13 hy13 ?_ _ _ _
    intro w14 w15 w16 w17
    show am_Rn _ _ _ _ (59, [some (.ref 0), w14, some (.int (((1 <<< (l1 &&& 31)) ||| q12.1) &&& ((q12.2.1 0 11) ^^^ (-1)))), w15, w16, w17], [], am_T0 y13)
    refine am_Rn.op _ (60, [some (.ref 0), w14, some (.int (((1 <<< (l1 &&& 31)) ||| q12.1) &&& ((q12.2.1 0 11) ^^^ (-1)))), w15, w16, w17], [.int (((1 <<< (l1 &&& 31)) ||| q12.1) &&& ((q12.2.1 0 11) ^^^ (-1)))], am_T0 y13) rfl rfl ?_
    refine am_Rn.op _ (61, [some (.ref 0), w14, some (.int (((1 <<< (l1 &&& 31)) ||| q12.1) &&& ((q12.2.1 0 11) ^^^ (-1)))), some (.int (((1 <<< (l1 &&& 31)) ||| q12.1) &&& ((q12.2.1 0 11) ^^^ (-1)))), w16, w17], [], am_T0 y13) rfl rfl ?_
    refine am_Rn.op _ (62, [some (.ref 0), w14, some (.int (((1 <<< (l1 &&& 31)) ||| q12.1) &&& ((q12.2.1 0 11) ^^^ (-1)))), some (.int (((1 <<< (l1 &&& 31)) ||| q12.1) &&& ((q12.2.1 0 11) ^^^ (-1)))), w16, w17], [.int 0], am_T0 y13) rfl rfl ?_
    refine am_Rn.op _ (64, [some (.ref 0), w14, some (.int (((1 <<< (l1 &&& 31)) ||| q12.1) &&& ((q12.2.1 0 11) ^^^ (-1)))), some (.int (((1 <<< (l1 &&& 31)) ||| q12.1) &&& ((q12.2.1 0 11) ^^^ (-1)))), some (.int 0), w17], [], am_T0 y13) rfl rfl ?_
    obtain ⟨y18, hy18, h⟩ := l2_b h
    refine rfX7_measure_64 d N _ (((1 <<< (l1 &&& 31)) ||| q12.1) &&& ((q12.2.1 0 11) ^^^ (-1))) ((((1 <<< (l1 &&& 31)) ||| q12.1) &&& ((q12.2.1 0 11) ^^^ (-1))), 0, y13) y18 hy18 ?_ _ _
    intro w19 w20 w21 w22
    show am_Rn _ _ _ _ (153, [some (.ref 0), w19, some (.int (((1 <<< (l1 &&& 31)) ||| q12.1) &&& ((q12.2.1 0 11) ^^^ (-1)))), w20, w21, w22], [], am_T0 y18)
    refine am_Rn.op _ (154, [some (.ref 0), w19, some (.int (((1 <<< (l1 &&& 31)) ||| q12.1) &&& ((q12.2.1 0 11) ^^^ (-1)))), w20, w21, w22], [.ref 0], am_T0 y18) rfl rfl ?_
    refine am_Rn.op _ (155, [some (.ref 0), w19, some (.int (((1 <<< (l1 &&& 31)) ||| q12.1) &&& ((q12.2.1 0 11) ^^^ (-1)))), w20, w21, w22], [.ref 0, .ref 0], am_T0 y18) rfl rfl ?_
    refine am_Rn.op _ (158, [some (.ref 0), w19, some (.int (((1 <<< (l1 &&& 31)) ||| q12.1) &&& ((q12.2.1 0 11) ^^^ (-1)))), w20, w21, w22], [.int (y18.1 0 11), .ref 0], am_T0 y18) rfl rfl ?_
    refine am_Rn.op _ (159, [some (.ref 0), w19, some (.int (((1 <<< (l1 &&& 31)) ||| q12.1) &&& ((q12.2.1 0 11) ^^^ (-1)))), w20, w21, w22], [.int (((1 <<< (l1 &&& 31)) ||| q12.1) &&& ((q12.2.1 0 11) ^^^ (-1))), .int (y18.1 0 11), .ref 0], am_T0 y18) rfl rfl ?_
    refine am_Rn.op _ (160, [some (.ref 0), w19, some (.int (((1 <<< (l1 &&& 31)) ||| q12.1) &&& ((q12.2.1 0 11) ^^^ (-1)))), w20, w21, w22], [.int ((y18.1 0 11) ||| (((1 <<< (l1 &&& 31)) ||| q12.1) &&& ((q12.2.1 0 11) ^^^ (-1)))), .ref 0], am_T0 y18) rfl rfl ?_
    refine am_Rn.op _ (163, [some (.ref 0), w19, some (.int (((1 <<< (l1 &&& 31)) ||| q12.1) &&& ((q12.2.1 0 11) ^^^ (-1)))), w20, w21, w22], [], am_T0 (st_i y18 0 11 ((y18.1 0 11) ||| (((1 <<< (l1 &&& 31)) ||| q12.1) &&& ((q12.2.1 0 11) ^^^ (-1)))))) rfl rfl ?_
    cases h
    exact am_Rn.rt _ rfl rfl
  · refine am_Rn.ifF hc ?_
    cases h
    exact am_Rn.rt _ rfl rfl
-- X7_steps
def fX7_steps_63 (N : Nat) (s0 : Int32) (S : St) : Option (Int32 × St) := some (s0, S)
set_option maxRecDepth 20000 in
theorem rfX7_steps_63 (d N : Nat) (s0 : Int32) (S : St) (z : (Int32 × St)) (h : fX7_steps_63 N s0 S = some z) (w0 : Option Value) (w1 : Option Value) (w2 : Option Value) (w3 : Option Value) (w4 : Option Value) (w5 : Option Value) : am_Rn (am_C (d + 7)) (am_ct 87) (am_rk 87) (some (.int z.1), am_T0 z.2) (63, [w0, w1, w2, w3, w4, w5], [.int s0], am_T0 S) := by
  unfold fX7_steps_63 at h
  cases h
  exact am_Rn.rt _ rfl rfl
def fX7_steps (N : Nat) (l1 : Int32) (l2 : Int32) (l3 : Int32) (l4 : Int32) (S : St) : Option (Int32 × St) := (fX7_isRoutine N l1 S).bind (fun q1 => (if q1.1 = 0 then some ((-1), q1.2) else (fX7_isSet N l2 q1.2).bind (fun q2 => (if q2.1 = 0 then some ((-1), q2.2) else (fX7_isExit N l3 q2.2).bind (fun q3 => (if q3.1 = 0 then some ((-1), q3.2) else (fX7_isSet N l4 q3.2).bind (fun q4 => (if q4.1 = 0 then some ((-1), q4.2) else (fX7_measure N l1 q4.2).bind (fun q5 => (fX0_fewest N l1 l2 l3 l4 q5).bind (fun q6 => (if 1000000 ≤ q6.1 then fX7_steps_63 N (-1) q6.2 else fX7_steps_63 N q6.1 q6.2)))))))))))
set_option maxRecDepth 20000 in
theorem rfX7_steps (d N : Nat) (l1 : Int32) (l2 : Int32) (l3 : Int32) (l4 : Int32) (S : St) (z : (Int32 × St)) (h : fX7_steps N l1 l2 l3 l4 S = some z) : am_C (d + 8) 87 [.ref 0, .int l1, .int l2, .int l3, .int l4] (am_T0 S) (some (.int z.1), am_T0 z.2) := by
  unfold fX7_steps at h
  show am_Rn (am_C (d + 7)) (am_ct 87) (am_rk 87) (some (.int z.1), am_T0 z.2) (0, [some (.ref 0), some (.int l1), some (.int l2), some (.int l3), some (.int l4), none], [], am_T0 S)
  refine am_Rn.op _ (1, [some (.ref 0), some (.int l1), some (.int l2), some (.int l3), some (.int l4), none], [.int l1], am_T0 S) rfl rfl ?_
  obtain ⟨q1, hq1, h⟩ := l2_b h
  refine am_Rn.cl _ (some (.int q1.1)) (am_T0 q1.2) rfl rfl (rfX7_isRoutine (d + 6) N l1 S q1 hq1) ?_
  show am_Rn _ _ _ _ (4, [some (.ref 0), some (.int l1), some (.int l2), some (.int l3), some (.int l4), none], [.int q1.1], am_T0 q1.2)
  refine am_Rn.op _ (if q1.1 = 0 then 29 else 7, [some (.ref 0), some (.int l1), some (.int l2), some (.int l3), some (.int l4), none], [], am_T0 q1.2) rfl rfl ?_
  rcases l2_i h with ⟨hc, h⟩ | ⟨hc, h⟩
  · refine am_Rn.ifT hc ?_
    refine am_Rn.op _ (30, [some (.ref 0), some (.int l1), some (.int l2), some (.int l3), some (.int l4), none], [.int (-1)], am_T0 q1.2) rfl rfl ?_
    cases h
    exact am_Rn.rt _ rfl rfl
  · refine am_Rn.ifF hc ?_
    refine am_Rn.op _ (8, [some (.ref 0), some (.int l1), some (.int l2), some (.int l3), some (.int l4), none], [.int l2], am_T0 q1.2) rfl rfl ?_
    obtain ⟨q2, hq2, h⟩ := l2_b h
    refine am_Rn.cl _ (some (.int q2.1)) (am_T0 q2.2) rfl rfl (rfX7_isSet (d + 6) N l2 q1.2 q2 hq2) ?_
    show am_Rn _ _ _ _ (11, [some (.ref 0), some (.int l1), some (.int l2), some (.int l3), some (.int l4), none], [.int q2.1], am_T0 q2.2)
    refine am_Rn.op _ (if q2.1 = 0 then 29 else 14, [some (.ref 0), some (.int l1), some (.int l2), some (.int l3), some (.int l4), none], [], am_T0 q2.2) rfl rfl ?_
    rcases l2_i h with ⟨hc, h⟩ | ⟨hc, h⟩
    · refine am_Rn.ifT hc ?_
      refine am_Rn.op _ (30, [some (.ref 0), some (.int l1), some (.int l2), some (.int l3), some (.int l4), none], [.int (-1)], am_T0 q2.2) rfl rfl ?_
      cases h
      exact am_Rn.rt _ rfl rfl
    · refine am_Rn.ifF hc ?_
      refine am_Rn.op _ (15, [some (.ref 0), some (.int l1), some (.int l2), some (.int l3), some (.int l4), none], [.int l3], am_T0 q2.2) rfl rfl ?_
      obtain ⟨q3, hq3, h⟩ := l2_b h
      refine am_Rn.cl _ (some (.int q3.1)) (am_T0 q3.2) rfl rfl (rfX7_isExit (d + 6) N l3 q2.2 q3 hq3) ?_
      show am_Rn _ _ _ _ (18, [some (.ref 0), some (.int l1), some (.int l2), some (.int l3), some (.int l4), none], [.int q3.1], am_T0 q3.2)
      refine am_Rn.op _ (if q3.1 = 0 then 29 else 21, [some (.ref 0), some (.int l1), some (.int l2), some (.int l3), some (.int l4), none], [], am_T0 q3.2) rfl rfl ?_
      rcases l2_i h with ⟨hc, h⟩ | ⟨hc, h⟩
      · refine am_Rn.ifT hc ?_
        refine am_Rn.op _ (30, [some (.ref 0), some (.int l1), some (.int l2), some (.int l3), some (.int l4), none], [.int (-1)], am_T0 q3.2) rfl rfl ?_
        cases h
        exact am_Rn.rt _ rfl rfl
      · refine am_Rn.ifF hc ?_
        refine am_Rn.op _ (23, [some (.ref 0), some (.int l1), some (.int l2), some (.int l3), some (.int l4), none], [.int l4], am_T0 q3.2) rfl rfl ?_
        obtain ⟨q4, hq4, h⟩ := l2_b h
        refine am_Rn.cl _ (some (.int q4.1)) (am_T0 q4.2) rfl rfl (rfX7_isSet (d + 6) N l4 q3.2 q4 hq4) ?_
        show am_Rn _ _ _ _ (26, [some (.ref 0), some (.int l1), some (.int l2), some (.int l3), some (.int l4), none], [.int q4.1], am_T0 q4.2)
        refine am_Rn.op _ (if q4.1 = 0 then 29 else 31, [some (.ref 0), some (.int l1), some (.int l2), some (.int l3), some (.int l4), none], [], am_T0 q4.2) rfl rfl ?_
        rcases l2_i h with ⟨hc, h⟩ | ⟨hc, h⟩
        · refine am_Rn.ifT hc ?_
          refine am_Rn.op _ (30, [some (.ref 0), some (.int l1), some (.int l2), some (.int l3), some (.int l4), none], [.int (-1)], am_T0 q4.2) rfl rfl ?_
          cases h
          exact am_Rn.rt _ rfl rfl
        · refine am_Rn.ifF hc ?_
          refine am_Rn.op _ (32, [some (.ref 0), some (.int l1), some (.int l2), some (.int l3), some (.int l4), none], [.ref 0], am_T0 q4.2) rfl rfl ?_
          refine am_Rn.op _ (33, [some (.ref 0), some (.int l1), some (.int l2), some (.int l3), some (.int l4), none], [.int l1, .ref 0], am_T0 q4.2) rfl rfl ?_
          obtain ⟨q5, hq5, h⟩ := l2_b h
          refine am_Rn.cl _ none (am_T0 q5) rfl rfl (rfX7_measure (d + 0) N l1 q4.2 q5 hq5) ?_
          show am_Rn _ _ _ _ (36, [some (.ref 0), some (.int l1), some (.int l2), some (.int l3), some (.int l4), none], [], am_T0 q5)
          refine am_Rn.op _ (37, [some (.ref 0), some (.int l1), some (.int l2), some (.int l3), some (.int l4), none], [.ref 0], am_T0 q5) rfl rfl ?_
          refine am_Rn.op _ (40, [some (.ref 0), some (.int l1), some (.int l2), some (.int l3), some (.int l4), none], [.ref 18], am_T0 q5) rfl rfl ?_
          refine am_Rn.op _ (41, [some (.ref 0), some (.int l1), some (.int l2), some (.int l3), some (.int l4), none], [.int l1, .ref 18], am_T0 q5) rfl rfl ?_
          refine am_Rn.op _ (42, [some (.ref 0), some (.int l1), some (.int l2), some (.int l3), some (.int l4), none], [.int l2, .int l1, .ref 18], am_T0 q5) rfl rfl ?_
          refine am_Rn.op _ (43, [some (.ref 0), some (.int l1), some (.int l2), some (.int l3), some (.int l4), none], [.int l3, .int l2, .int l1, .ref 18], am_T0 q5) rfl rfl ?_
          refine am_Rn.op _ (45, [some (.ref 0), some (.int l1), some (.int l2), some (.int l3), some (.int l4), none], [.int l4, .int l3, .int l2, .int l1, .ref 18], am_T0 q5) rfl rfl ?_
          obtain ⟨q6, hq6, h⟩ := l2_b h
          refine am_Rn.cl _ (some (.int q6.1)) (am_T0 q6.2) rfl rfl (rfX0_fewest (d + 4) N l1 l2 l3 l4 q5 q6 hq6) ?_
          show am_Rn _ _ _ _ (48, [some (.ref 0), some (.int l1), some (.int l2), some (.int l3), some (.int l4), none], [.int q6.1], am_T0 q6.2)
          refine am_Rn.op _ (50, [some (.ref 0), some (.int l1), some (.int l2), some (.int l3), some (.int l4), some (.int q6.1)], [], am_T0 q6.2) rfl rfl ?_
          refine am_Rn.op _ (52, [some (.ref 0), some (.int l1), some (.int l2), some (.int l3), some (.int l4), some (.int q6.1)], [.int q6.1], am_T0 q6.2) rfl rfl ?_
          refine am_Rn.op _ (54, [some (.ref 0), some (.int l1), some (.int l2), some (.int l3), some (.int l4), some (.int q6.1)], [.int 1000000, .int q6.1], am_T0 q6.2) rfl rfl ?_
          refine am_Rn.op _ (if 1000000 ≤ q6.1 then 62 else 57, [some (.ref 0), some (.int l1), some (.int l2), some (.int l3), some (.int l4), some (.int q6.1)], [], am_T0 q6.2) rfl rfl ?_
          rcases l2_i h with ⟨hc, h⟩ | ⟨hc, h⟩
          · refine am_Rn.ifT hc ?_
            refine am_Rn.op _ (63, [some (.ref 0), some (.int l1), some (.int l2), some (.int l3), some (.int l4), some (.int q6.1)], [.int (-1)], am_T0 q6.2) rfl rfl ?_
            exact rfX7_steps_63 d N (-1) q6.2 _ h _ _ _ _ _ _
          · refine am_Rn.ifF hc ?_
            refine am_Rn.op _ (59, [some (.ref 0), some (.int l1), some (.int l2), some (.int l3), some (.int l4), some (.int q6.1)], [.int q6.1], am_T0 q6.2) rfl rfl ?_
            refine am_Rn.op _ (63, [some (.ref 0), some (.int l1), some (.int l2), some (.int l3), some (.int l4), some (.int q6.1)], [.int q6.1], am_T0 q6.2) rfl rfl ?_
            exact rfX7_steps_63 d N q6.1 q6.2 _ h _ _ _ _ _ _
-- X7_leavingKinds
def PfX7_leavingKinds_5 (d : Nat) (res : Option Value × am_S) (l1 : Int32) (l2 : Int32) (x : Int32 × Int32 × St) : Prop := am_Rn (am_C d) (am_ct 106) (am_rk 106) res (5, [some (.ref 0), some (.int l1), some (.int l2), some (.int x.1), some (.int x.2.1)], [], am_T0 x.2.2)
def QfX7_leavingKinds_5 (d : Nat) (res : Option Value × am_S) (l1 : Int32) (l2 : Int32) (y : (Int32 × St)) : Prop := res = (some (.int y.1), am_T0 y.2)
def fX7_leavingKinds_35 (N : Nat) (l1 : Int32) (l2 : Int32) (l3 : Int32) (l4 : Int32) (S : St) : Option ((Int32 × Int32 × St) ⊕ ((Int32 × St))) := some (.inl (l3, (l4 + 1), S))
set_option maxRecDepth 20000 in
theorem rfX7_leavingKinds_35 (d N : Nat) (res : Option Value × am_S) (l1 : Int32) (l2 : Int32) (l3 : Int32) (l4 : Int32) (S : St) (z : (Int32 × Int32 × St) ⊕ ((Int32 × St))) (h : fX7_leavingKinds_35 N l1 l2 l3 l4 S = some z) (hz : Sum.elim (PfX7_leavingKinds_5 (d + 4) res l1 l2 ) (QfX7_leavingKinds_5 (d + 4) res l1 l2 ) z) : am_Rn (am_C (d + 4)) (am_ct 106) (am_rk 106) res (35, [some (.ref 0), some (.int l1), some (.int l2), some (.int l3), some (.int l4)], [], am_T0 S) := by
  unfold fX7_leavingKinds_35 at h
  refine am_Rn.op _ (38, [some (.ref 0), some (.int l1), some (.int l2), some (.int l3), some (.int (l4 + 1))], [], am_T0 S) rfl rfl ?_
  refine am_Rn.op _ (5, [some (.ref 0), some (.int l1), some (.int l2), some (.int l3), some (.int (l4 + 1))], [], am_T0 S) rfl rfl ?_
  cases h
  exact hz 
def bfX7_leavingKinds_5 (N : Nat) (l1 : Int32) (l2 : Int32) (x : Int32 × Int32 × St) : Option ((Int32 × Int32 × St) ⊕ ((Int32 × St))) := (if 6 ≤ x.2.1 then some (.inr (x.1, x.2.2)) else (fX0_canLeave N l1 l2 (1 + x.2.1) x.2.2).bind (fun q1 => (if q1.1 = 0 then fX7_leavingKinds_35 N l1 l2 x.1 x.2.1 q1.2 else fX7_leavingKinds_35 N l1 l2 (x.1 ||| (1 <<< (x.2.1 &&& 31))) x.2.1 q1.2)))
def fX7_leavingKinds_5 (N : Nat) (l1 : Int32) (l2 : Int32) (x : Int32 × Int32 × St) : Option ((Int32 × St)) := whl N (bfX7_leavingKinds_5 N l1 l2 ) x
set_option maxRecDepth 20000 in
theorem rbfX7_leavingKinds_5 (d N : Nat) (res : Option Value × am_S) (l1 : Int32) (l2 : Int32) (x : Int32 × Int32 × St) (z : (Int32 × Int32 × St) ⊕ ((Int32 × St))) (h : bfX7_leavingKinds_5 N l1 l2 x = some z) (hz : Sum.elim (PfX7_leavingKinds_5 (d + 4) res l1 l2 ) (QfX7_leavingKinds_5 (d + 4) res l1 l2 ) z) : PfX7_leavingKinds_5 (d + 4) res l1 l2 x := by
  unfold bfX7_leavingKinds_5 at h
  show am_Rn (am_C (d + 4)) (am_ct 106) (am_rk 106) res (5, [some (.ref 0), some (.int l1), some (.int l2), some (.int x.1), some (.int x.2.1)], [], am_T0 x.2.2)
  refine am_Rn.op _ (7, [some (.ref 0), some (.int l1), some (.int l2), some (.int x.1), some (.int x.2.1)], [.int x.2.1], am_T0 x.2.2) rfl rfl ?_
  refine am_Rn.op _ (9, [some (.ref 0), some (.int l1), some (.int l2), some (.int x.1), some (.int x.2.1)], [.int 6, .int x.2.1], am_T0 x.2.2) rfl rfl ?_
  refine am_Rn.op _ (if 6 ≤ x.2.1 then 41 else 12, [some (.ref 0), some (.int l1), some (.int l2), some (.int x.1), some (.int x.2.1)], [], am_T0 x.2.2) rfl rfl ?_
  rcases l2_i h with ⟨hc, h⟩ | ⟨hc, h⟩
  · refine am_Rn.ifT hc ?_
    refine am_Rn.op _ (42, [some (.ref 0), some (.int l1), some (.int l2), some (.int x.1), some (.int x.2.1)], [.int x.1], am_T0 x.2.2) rfl rfl ?_
    cases h
    exact am_Rn.rt2 _ rfl rfl hz
  · refine am_Rn.ifF hc ?_
    refine am_Rn.op _ (13, [some (.ref 0), some (.int l1), some (.int l2), some (.int x.1), some (.int x.2.1)], [.ref 0], am_T0 x.2.2) rfl rfl ?_
    refine am_Rn.op _ (16, [some (.ref 0), some (.int l1), some (.int l2), some (.int x.1), some (.int x.2.1)], [.ref 18], am_T0 x.2.2) rfl rfl ?_
    refine am_Rn.op _ (17, [some (.ref 0), some (.int l1), some (.int l2), some (.int x.1), some (.int x.2.1)], [.int l1, .ref 18], am_T0 x.2.2) rfl rfl ?_
    refine am_Rn.op _ (18, [some (.ref 0), some (.int l1), some (.int l2), some (.int x.1), some (.int x.2.1)], [.int l2, .int l1, .ref 18], am_T0 x.2.2) rfl rfl ?_
    refine am_Rn.op _ (19, [some (.ref 0), some (.int l1), some (.int l2), some (.int x.1), some (.int x.2.1)], [.int 1, .int l2, .int l1, .ref 18], am_T0 x.2.2) rfl rfl ?_
    refine am_Rn.op _ (21, [some (.ref 0), some (.int l1), some (.int l2), some (.int x.1), some (.int x.2.1)], [.int x.2.1, .int 1, .int l2, .int l1, .ref 18], am_T0 x.2.2) rfl rfl ?_
    refine am_Rn.op _ (22, [some (.ref 0), some (.int l1), some (.int l2), some (.int x.1), some (.int x.2.1)], [.int (1 + x.2.1), .int l2, .int l1, .ref 18], am_T0 x.2.2) rfl rfl ?_
    obtain ⟨q1, hq1, h⟩ := l2_b h
    refine am_Rn.cl _ (some (.int q1.1)) (am_T0 q1.2) rfl rfl (rfX0_canLeave (d + 0) N l1 l2 (1 + x.2.1) x.2.2 q1 hq1) ?_
    show am_Rn _ _ _ _ (25, [some (.ref 0), some (.int l1), some (.int l2), some (.int x.1), some (.int x.2.1)], [.int q1.1], am_T0 q1.2)
    refine am_Rn.op _ (if q1.1 = 0 then 35 else 28, [some (.ref 0), some (.int l1), some (.int l2), some (.int x.1), some (.int x.2.1)], [], am_T0 q1.2) rfl rfl ?_
    rcases l2_i h with ⟨hc, h⟩ | ⟨hc, h⟩
    · refine am_Rn.ifT hc ?_
      exact rfX7_leavingKinds_35 d N _ l1 l2 x.1 x.2.1 q1.2 _ h hz 
    · refine am_Rn.ifF hc ?_
      refine am_Rn.op _ (29, [some (.ref 0), some (.int l1), some (.int l2), some (.int x.1), some (.int x.2.1)], [.int x.1], am_T0 q1.2) rfl rfl ?_
      refine am_Rn.op _ (30, [some (.ref 0), some (.int l1), some (.int l2), some (.int x.1), some (.int x.2.1)], [.int 1, .int x.1], am_T0 q1.2) rfl rfl ?_
      refine am_Rn.op _ (32, [some (.ref 0), some (.int l1), some (.int l2), some (.int x.1), some (.int x.2.1)], [.int x.2.1, .int 1, .int x.1], am_T0 q1.2) rfl rfl ?_
      refine am_Rn.op _ (33, [some (.ref 0), some (.int l1), some (.int l2), some (.int x.1), some (.int x.2.1)], [.int (1 <<< (x.2.1 &&& 31)), .int x.1], am_T0 q1.2) rfl rfl ?_
      refine am_Rn.op _ (34, [some (.ref 0), some (.int l1), some (.int l2), some (.int x.1), some (.int x.2.1)], [.int (x.1 ||| (1 <<< (x.2.1 &&& 31)))], am_T0 q1.2) rfl rfl ?_
      refine am_Rn.op _ (35, [some (.ref 0), some (.int l1), some (.int l2), some (.int (x.1 ||| (1 <<< (x.2.1 &&& 31)))), some (.int x.2.1)], [], am_T0 q1.2) rfl rfl ?_
      exact rfX7_leavingKinds_35 d N _ l1 l2 (x.1 ||| (1 <<< (x.2.1 &&& 31))) x.2.1 q1.2 _ h hz 
theorem rfX7_leavingKinds_5 (d N : Nat) (res : Option Value × am_S) (l1 : Int32) (l2 : Int32) (x : Int32 × Int32 × St) (y : (Int32 × St)) (h : fX7_leavingKinds_5 N l1 l2 x = some y) (hq : QfX7_leavingKinds_5 (d + 4) res l1 l2 y) : PfX7_leavingKinds_5 (d + 4) res l1 l2 x := whl_ind _ _ (fun x z => rbfX7_leavingKinds_5 d N res l1 l2 x z) N x y h hq
def fX7_leavingKinds (N : Nat) (l1 : Int32) (l2 : Int32) (S : St) : Option (Int32 × St) := (fX7_leavingKinds_5 N l1 l2 (0, 0, S)).bind (fun y2 => some (y2.1, y2.2))
set_option maxRecDepth 20000 in
theorem rfX7_leavingKinds (d N : Nat) (l1 : Int32) (l2 : Int32) (S : St) (z : (Int32 × St)) (h : fX7_leavingKinds N l1 l2 S = some z) : am_C (d + 5) 106 [.ref 0, .int l1, .int l2] (am_T0 S) (some (.int z.1), am_T0 z.2) := by
  unfold fX7_leavingKinds at h
  show am_Rn (am_C (d + 4)) (am_ct 106) (am_rk 106) (some (.int z.1), am_T0 z.2) (0, [some (.ref 0), some (.int l1), some (.int l2), none, none], [], am_T0 S)
  refine am_Rn.op _ (1, [some (.ref 0), some (.int l1), some (.int l2), none, none], [.int 0], am_T0 S) rfl rfl ?_
  refine am_Rn.op _ (2, [some (.ref 0), some (.int l1), some (.int l2), some (.int 0), none], [], am_T0 S) rfl rfl ?_
  refine am_Rn.op _ (3, [some (.ref 0), some (.int l1), some (.int l2), some (.int 0), none], [.int 0], am_T0 S) rfl rfl ?_
  refine am_Rn.op _ (5, [some (.ref 0), some (.int l1), some (.int l2), some (.int 0), some (.int 0)], [], am_T0 S) rfl rfl ?_
  obtain ⟨y2, hy2, h⟩ := l2_b h
  refine rfX7_leavingKinds_5 d N _ l1 l2 (0, 0, S) y2 hy2 ?_ 
  cases h
  exact rfl
-- X7_leaves
def fX7_leaves (N : Nat) (l1 : Int32) (l2 : Int32) (S : St) : Option (Int32 × St) := (fX7_isRoutine N l1 S).bind (fun q1 => (if q1.1 = 0 then some ((-1), q1.2) else (fX7_isSet N l2 q1.2).bind (fun q2 => (if q2.1 = 0 then some ((-1), q2.2) else (fX7_measure N l1 q2.2).bind (fun q3 => (fX7_leavingKinds N l1 l2 q3).bind (fun q4 => some (q4.1, q4.2)))))))
set_option maxRecDepth 20000 in
theorem rfX7_leaves (d N : Nat) (l1 : Int32) (l2 : Int32) (S : St) (z : (Int32 × St)) (h : fX7_leaves N l1 l2 S = some z) : am_C (d + 8) 88 [.ref 0, .int l1, .int l2] (am_T0 S) (some (.int z.1), am_T0 z.2) := by
  unfold fX7_leaves at h
  show am_Rn (am_C (d + 7)) (am_ct 88) (am_rk 88) (some (.int z.1), am_T0 z.2) (0, [some (.ref 0), some (.int l1), some (.int l2)], [], am_T0 S)
  refine am_Rn.op _ (1, [some (.ref 0), some (.int l1), some (.int l2)], [.int l1], am_T0 S) rfl rfl ?_
  obtain ⟨q1, hq1, h⟩ := l2_b h
  refine am_Rn.cl _ (some (.int q1.1)) (am_T0 q1.2) rfl rfl (rfX7_isRoutine (d + 6) N l1 S q1 hq1) ?_
  show am_Rn _ _ _ _ (4, [some (.ref 0), some (.int l1), some (.int l2)], [.int q1.1], am_T0 q1.2)
  refine am_Rn.op _ (if q1.1 = 0 then 14 else 7, [some (.ref 0), some (.int l1), some (.int l2)], [], am_T0 q1.2) rfl rfl ?_
  rcases l2_i h with ⟨hc, h⟩ | ⟨hc, h⟩
  · refine am_Rn.ifT hc ?_
    refine am_Rn.op _ (15, [some (.ref 0), some (.int l1), some (.int l2)], [.int (-1)], am_T0 q1.2) rfl rfl ?_
    cases h
    exact am_Rn.rt _ rfl rfl
  · refine am_Rn.ifF hc ?_
    refine am_Rn.op _ (8, [some (.ref 0), some (.int l1), some (.int l2)], [.int l2], am_T0 q1.2) rfl rfl ?_
    obtain ⟨q2, hq2, h⟩ := l2_b h
    refine am_Rn.cl _ (some (.int q2.1)) (am_T0 q2.2) rfl rfl (rfX7_isSet (d + 6) N l2 q1.2 q2 hq2) ?_
    show am_Rn _ _ _ _ (11, [some (.ref 0), some (.int l1), some (.int l2)], [.int q2.1], am_T0 q2.2)
    refine am_Rn.op _ (if q2.1 = 0 then 14 else 16, [some (.ref 0), some (.int l1), some (.int l2)], [], am_T0 q2.2) rfl rfl ?_
    rcases l2_i h with ⟨hc, h⟩ | ⟨hc, h⟩
    · refine am_Rn.ifT hc ?_
      refine am_Rn.op _ (15, [some (.ref 0), some (.int l1), some (.int l2)], [.int (-1)], am_T0 q2.2) rfl rfl ?_
      cases h
      exact am_Rn.rt _ rfl rfl
    · refine am_Rn.ifF hc ?_
      refine am_Rn.op _ (17, [some (.ref 0), some (.int l1), some (.int l2)], [.ref 0], am_T0 q2.2) rfl rfl ?_
      refine am_Rn.op _ (18, [some (.ref 0), some (.int l1), some (.int l2)], [.int l1, .ref 0], am_T0 q2.2) rfl rfl ?_
      obtain ⟨q3, hq3, h⟩ := l2_b h
      refine am_Rn.cl _ none (am_T0 q3) rfl rfl (rfX7_measure (d + 0) N l1 q2.2 q3 hq3) ?_
      show am_Rn _ _ _ _ (21, [some (.ref 0), some (.int l1), some (.int l2)], [], am_T0 q3)
      refine am_Rn.op _ (22, [some (.ref 0), some (.int l1), some (.int l2)], [.ref 0], am_T0 q3) rfl rfl ?_
      refine am_Rn.op _ (23, [some (.ref 0), some (.int l1), some (.int l2)], [.int l1, .ref 0], am_T0 q3) rfl rfl ?_
      refine am_Rn.op _ (24, [some (.ref 0), some (.int l1), some (.int l2)], [.int l2, .int l1, .ref 0], am_T0 q3) rfl rfl ?_
      obtain ⟨q4, hq4, h⟩ := l2_b h
      refine am_Rn.cl _ (some (.int q4.1)) (am_T0 q4.2) rfl rfl (rfX7_leavingKinds (d + 2) N l1 l2 q3 q4 hq4) ?_
      show am_Rn _ _ _ _ (27, [some (.ref 0), some (.int l1), some (.int l2)], [.int q4.1], am_T0 q4.2)
      cases h
      exact am_Rn.rt _ rfl rfl
-- X7_bit
def fX7_bit_9 (N : Nat) (s0 : Int32) (S : St) : Option (Int32 × St) := some (s0, S)
set_option maxRecDepth 20000 in
theorem rfX7_bit_9 (d N : Nat) (s0 : Int32) (S : St) (z : (Int32 × St)) (h : fX7_bit_9 N s0 S = some z) (w0 : Option Value) : am_Rn (am_C (d + 0)) (am_ct 104) (am_rk 104) (some (.int z.1), am_T0 z.2) (9, [w0], [.int s0], am_T0 S) := by
  unfold fX7_bit_9 at h
  cases h
  exact am_Rn.rt _ rfl rfl
def fX7_bit (N : Nat) (l0 : Int32) (S : St) : Option (Int32 × St) := (if l0 = 0 then fX7_bit_9 N 0 S else fX7_bit_9 N 1 S)
set_option maxRecDepth 20000 in
theorem rfX7_bit (d N : Nat) (l0 : Int32) (S : St) (z : (Int32 × St)) (h : fX7_bit N l0 S = some z) : am_C (d + 1) 104 [.int l0] (am_T0 S) (some (.int z.1), am_T0 z.2) := by
  unfold fX7_bit at h
  show am_Rn (am_C (d + 0)) (am_ct 104) (am_rk 104) (some (.int z.1), am_T0 z.2) (0, [some (.int l0)], [], am_T0 S)
  refine am_Rn.op _ (1, [some (.int l0)], [.int l0], am_T0 S) rfl rfl ?_
  refine am_Rn.op _ (if l0 = 0 then 8 else 4, [some (.int l0)], [], am_T0 S) rfl rfl ?_
  rcases l2_i h with ⟨hc, h⟩ | ⟨hc, h⟩
  · refine am_Rn.ifT hc ?_
    refine am_Rn.op _ (9, [some (.int l0)], [.int 0], am_T0 S) rfl rfl ?_
    exact rfX7_bit_9 d N 0 S _ h _
  · refine am_Rn.ifF hc ?_
    refine am_Rn.op _ (5, [some (.int l0)], [.int 1], am_T0 S) rfl rfl ?_
    refine am_Rn.op _ (9, [some (.int l0)], [.int 1], am_T0 S) rfl rfl ?_
    exact rfX7_bit_9 d N 1 S _ h _
-- X7_ends
def fX7_ends (N : Nat) (l1 : Int32) (l2 : Int32) (S : St) : Option (Int32 × St) := (fX7_isRoutine N l1 S).bind (fun q1 => (if q1.1 = 0 then some ((-1), q1.2) else (fX7_isSet N l2 q1.2).bind (fun q2 => (if q2.1 = 0 then some ((-1), q2.2) else (fX7_measure N l1 q2.2).bind (fun q3 => (fX0_canLeave N l1 l2 0 q3).bind (fun q4 => (fX7_bit N q4.1 q4.2).bind (fun q5 => some (q5.1, q5.2))))))))
set_option maxRecDepth 20000 in
theorem rfX7_ends (d N : Nat) (l1 : Int32) (l2 : Int32) (S : St) (z : (Int32 × St)) (h : fX7_ends N l1 l2 S = some z) : am_C (d + 8) 89 [.ref 0, .int l1, .int l2] (am_T0 S) (some (.int z.1), am_T0 z.2) := by
  unfold fX7_ends at h
  show am_Rn (am_C (d + 7)) (am_ct 89) (am_rk 89) (some (.int z.1), am_T0 z.2) (0, [some (.ref 0), some (.int l1), some (.int l2)], [], am_T0 S)
  refine am_Rn.op _ (1, [some (.ref 0), some (.int l1), some (.int l2)], [.int l1], am_T0 S) rfl rfl ?_
  obtain ⟨q1, hq1, h⟩ := l2_b h
  refine am_Rn.cl _ (some (.int q1.1)) (am_T0 q1.2) rfl rfl (rfX7_isRoutine (d + 6) N l1 S q1 hq1) ?_
  show am_Rn _ _ _ _ (4, [some (.ref 0), some (.int l1), some (.int l2)], [.int q1.1], am_T0 q1.2)
  refine am_Rn.op _ (if q1.1 = 0 then 14 else 7, [some (.ref 0), some (.int l1), some (.int l2)], [], am_T0 q1.2) rfl rfl ?_
  rcases l2_i h with ⟨hc, h⟩ | ⟨hc, h⟩
  · refine am_Rn.ifT hc ?_
    refine am_Rn.op _ (15, [some (.ref 0), some (.int l1), some (.int l2)], [.int (-1)], am_T0 q1.2) rfl rfl ?_
    cases h
    exact am_Rn.rt _ rfl rfl
  · refine am_Rn.ifF hc ?_
    refine am_Rn.op _ (8, [some (.ref 0), some (.int l1), some (.int l2)], [.int l2], am_T0 q1.2) rfl rfl ?_
    obtain ⟨q2, hq2, h⟩ := l2_b h
    refine am_Rn.cl _ (some (.int q2.1)) (am_T0 q2.2) rfl rfl (rfX7_isSet (d + 6) N l2 q1.2 q2 hq2) ?_
    show am_Rn _ _ _ _ (11, [some (.ref 0), some (.int l1), some (.int l2)], [.int q2.1], am_T0 q2.2)
    refine am_Rn.op _ (if q2.1 = 0 then 14 else 16, [some (.ref 0), some (.int l1), some (.int l2)], [], am_T0 q2.2) rfl rfl ?_
    rcases l2_i h with ⟨hc, h⟩ | ⟨hc, h⟩
    · refine am_Rn.ifT hc ?_
      refine am_Rn.op _ (15, [some (.ref 0), some (.int l1), some (.int l2)], [.int (-1)], am_T0 q2.2) rfl rfl ?_
      cases h
      exact am_Rn.rt _ rfl rfl
    · refine am_Rn.ifF hc ?_
      refine am_Rn.op _ (17, [some (.ref 0), some (.int l1), some (.int l2)], [.ref 0], am_T0 q2.2) rfl rfl ?_
      refine am_Rn.op _ (18, [some (.ref 0), some (.int l1), some (.int l2)], [.int l1, .ref 0], am_T0 q2.2) rfl rfl ?_
      obtain ⟨q3, hq3, h⟩ := l2_b h
      refine am_Rn.cl _ none (am_T0 q3) rfl rfl (rfX7_measure (d + 0) N l1 q2.2 q3 hq3) ?_
      show am_Rn _ _ _ _ (21, [some (.ref 0), some (.int l1), some (.int l2)], [], am_T0 q3)
      refine am_Rn.op _ (22, [some (.ref 0), some (.int l1), some (.int l2)], [.ref 0], am_T0 q3) rfl rfl ?_
      refine am_Rn.op _ (25, [some (.ref 0), some (.int l1), some (.int l2)], [.ref 18], am_T0 q3) rfl rfl ?_
      refine am_Rn.op _ (26, [some (.ref 0), some (.int l1), some (.int l2)], [.int l1, .ref 18], am_T0 q3) rfl rfl ?_
      refine am_Rn.op _ (27, [some (.ref 0), some (.int l1), some (.int l2)], [.int l2, .int l1, .ref 18], am_T0 q3) rfl rfl ?_
      refine am_Rn.op _ (28, [some (.ref 0), some (.int l1), some (.int l2)], [.int 0, .int l2, .int l1, .ref 18], am_T0 q3) rfl rfl ?_
      obtain ⟨q4, hq4, h⟩ := l2_b h
      refine am_Rn.cl _ (some (.int q4.1)) (am_T0 q4.2) rfl rfl (rfX0_canLeave (d + 3) N l1 l2 0 q3 q4 hq4) ?_
      show am_Rn _ _ _ _ (31, [some (.ref 0), some (.int l1), some (.int l2)], [.int q4.1], am_T0 q4.2)
      obtain ⟨q5, hq5, h⟩ := l2_b h
      refine am_Rn.cl _ (some (.int q5.1)) (am_T0 q5.2) rfl rfl (rfX7_bit (d + 6) N q4.1 q4.2 q5 hq5) ?_
      show am_Rn _ _ _ _ (34, [some (.ref 0), some (.int l1), some (.int l2)], [.int q5.1], am_T0 q5.2)
      cases h
      exact am_Rn.rt _ rfl rfl
-- X7_due
def PfX7_due_23 (d : Nat) (res : Option Value × am_S) (l1 : Int32) (l2 : Int32) (x : Int32 × Int32 × St) : Prop := ∀ (w5 : Option Value), am_Rn (am_C d) (am_ct 90) (am_rk 90) res (23, [some (.ref 0), some (.int l1), some (.int l2), some (.int x.1), some (.int x.2.1), w5], [], am_T0 x.2.2)
def QfX7_due_23 (d : Nat) (res : Option Value × am_S) (l1 : Int32) (l2 : Int32) (y : (Int32 × St)) : Prop := res = (some (.int y.1), am_T0 y.2)
def PfX7_due_33 (d : Nat) (res : Option Value × am_S) (l1 : Int32) (l2 : Int32) (l4 : Int32) (x : Int32 × Int32 × St) : Prop := am_Rn (am_C d) (am_ct 90) (am_rk 90) res (33, [some (.ref 0), some (.int l1), some (.int l2), some (.int x.1), some (.int l4), some (.int x.2.1)], [], am_T0 x.2.2)
def QfX7_due_33 (d : Nat) (res : Option Value × am_S) (l1 : Int32) (l2 : Int32) (l4 : Int32) (y : (Int32 × St) ⊕ (Int32 × St)) : Prop := Sum.elim (fun y : Int32 × St => ∀ (w5 : Option Value), am_Rn (am_C d) (am_ct 90) (am_rk 90) res (79, [some (.ref 0), some (.int l1), some (.int l2), some (.int y.1), some (.int l4), w5], [], am_T0 y.2)) (fun y : (Int32 × St) => res = (some (.int y.1), am_T0 y.2)) y
def fX7_due_73 (N : Nat) (l1 : Int32) (l2 : Int32) (l3 : Int32) (l4 : Int32) (l5 : Int32) (S : St) : Option ((Int32 × Int32 × St) ⊕ ((Int32 × St) ⊕ (Int32 × St))) := some (.inl (l3, (l5 + 1), S))
set_option maxRecDepth 20000 in
theorem rfX7_due_73 (d N : Nat) (res : Option Value × am_S) (l1 : Int32) (l2 : Int32) (l3 : Int32) (l4 : Int32) (l5 : Int32) (S : St) (z : (Int32 × Int32 × St) ⊕ ((Int32 × St) ⊕ (Int32 × St))) (h : fX7_due_73 N l1 l2 l3 l4 l5 S = some z) (hz : Sum.elim (PfX7_due_33 (d + 7) res l1 l2 l4 ) (QfX7_due_33 (d + 7) res l1 l2 l4 ) z) : am_Rn (am_C (d + 7)) (am_ct 90) (am_rk 90) res (73, [some (.ref 0), some (.int l1), some (.int l2), some (.int l3), some (.int l4), some (.int l5)], [], am_T0 S) := by
  unfold fX7_due_73 at h
  refine am_Rn.op _ (76, [some (.ref 0), some (.int l1), some (.int l2), some (.int l3), some (.int l4), some (.int (l5 + 1))], [], am_T0 S) rfl rfl ?_
  refine am_Rn.op _ (33, [some (.ref 0), some (.int l1), some (.int l2), some (.int l3), some (.int l4), some (.int (l5 + 1))], [], am_T0 S) rfl rfl ?_
  cases h
  exact hz 
def bfX7_due_33 (N : Nat) (l1 : Int32) (l2 : Int32) (l4 : Int32) (x : Int32 × Int32 × St) : Option ((Int32 × Int32 × St) ⊕ ((Int32 × St) ⊕ (Int32 × St))) := (if 4 ≤ x.2.1 then some (.inr (.inl (x.1, x.2.2))) else (fX0_fewest N l1 0 l4 x.2.1 x.2.2).bind (fun q1 => (if 1000000 ≤ q1.1 then fX7_due_73 N l1 l2 x.1 l4 x.2.1 q1.2 else (if x.1 = l2 then some (.inr (.inr (((4 * l4) + x.2.1), q1.2))) else fX7_due_73 N l1 l2 (x.1 + 1) l4 x.2.1 q1.2))))
def fX7_due_33 (N : Nat) (l1 : Int32) (l2 : Int32) (l4 : Int32) (x : Int32 × Int32 × St) : Option ((Int32 × St) ⊕ (Int32 × St)) := whl N (bfX7_due_33 N l1 l2 l4 ) x
set_option maxRecDepth 20000 in
theorem rbfX7_due_33 (d N : Nat) (res : Option Value × am_S) (l1 : Int32) (l2 : Int32) (l4 : Int32) (x : Int32 × Int32 × St) (z : (Int32 × Int32 × St) ⊕ ((Int32 × St) ⊕ (Int32 × St))) (h : bfX7_due_33 N l1 l2 l4 x = some z) (hz : Sum.elim (PfX7_due_33 (d + 7) res l1 l2 l4 ) (QfX7_due_33 (d + 7) res l1 l2 l4 ) z) : PfX7_due_33 (d + 7) res l1 l2 l4 x := by
  unfold bfX7_due_33 at h
  show am_Rn (am_C (d + 7)) (am_ct 90) (am_rk 90) res (33, [some (.ref 0), some (.int l1), some (.int l2), some (.int x.1), some (.int l4), some (.int x.2.1)], [], am_T0 x.2.2)
  refine am_Rn.op _ (35, [some (.ref 0), some (.int l1), some (.int l2), some (.int x.1), some (.int l4), some (.int x.2.1)], [.int x.2.1], am_T0 x.2.2) rfl rfl ?_
  refine am_Rn.op _ (36, [some (.ref 0), some (.int l1), some (.int l2), some (.int x.1), some (.int l4), some (.int x.2.1)], [.int 4, .int x.2.1], am_T0 x.2.2) rfl rfl ?_
  refine am_Rn.op _ (if 4 ≤ x.2.1 then 79 else 39, [some (.ref 0), some (.int l1), some (.int l2), some (.int x.1), some (.int l4), some (.int x.2.1)], [], am_T0 x.2.2) rfl rfl ?_
  rcases l2_i h with ⟨hc, h⟩ | ⟨hc, h⟩
  · refine am_Rn.ifT hc ?_
    cases h
    exact hz _
  · refine am_Rn.ifF hc ?_
    refine am_Rn.op _ (40, [some (.ref 0), some (.int l1), some (.int l2), some (.int x.1), some (.int l4), some (.int x.2.1)], [.ref 0], am_T0 x.2.2) rfl rfl ?_
    refine am_Rn.op _ (43, [some (.ref 0), some (.int l1), some (.int l2), some (.int x.1), some (.int l4), some (.int x.2.1)], [.ref 18], am_T0 x.2.2) rfl rfl ?_
    refine am_Rn.op _ (44, [some (.ref 0), some (.int l1), some (.int l2), some (.int x.1), some (.int l4), some (.int x.2.1)], [.int l1, .ref 18], am_T0 x.2.2) rfl rfl ?_
    refine am_Rn.op _ (45, [some (.ref 0), some (.int l1), some (.int l2), some (.int x.1), some (.int l4), some (.int x.2.1)], [.int 0, .int l1, .ref 18], am_T0 x.2.2) rfl rfl ?_
    refine am_Rn.op _ (47, [some (.ref 0), some (.int l1), some (.int l2), some (.int x.1), some (.int l4), some (.int x.2.1)], [.int l4, .int 0, .int l1, .ref 18], am_T0 x.2.2) rfl rfl ?_
    refine am_Rn.op _ (49, [some (.ref 0), some (.int l1), some (.int l2), some (.int x.1), some (.int l4), some (.int x.2.1)], [.int x.2.1, .int l4, .int 0, .int l1, .ref 18], am_T0 x.2.2) rfl rfl ?_
    obtain ⟨q1, hq1, h⟩ := l2_b h
    refine am_Rn.cl _ (some (.int q1.1)) (am_T0 q1.2) rfl rfl (rfX0_fewest (d + 4) N l1 0 l4 x.2.1 x.2.2 q1 hq1) ?_
    show am_Rn _ _ _ _ (52, [some (.ref 0), some (.int l1), some (.int l2), some (.int x.1), some (.int l4), some (.int x.2.1)], [.int q1.1], am_T0 q1.2)
    refine am_Rn.op _ (54, [some (.ref 0), some (.int l1), some (.int l2), some (.int x.1), some (.int l4), some (.int x.2.1)], [.int 1000000, .int q1.1], am_T0 q1.2) rfl rfl ?_
    refine am_Rn.op _ (if 1000000 ≤ q1.1 then 73 else 57, [some (.ref 0), some (.int l1), some (.int l2), some (.int x.1), some (.int l4), some (.int x.2.1)], [], am_T0 q1.2) rfl rfl ?_
    rcases l2_i h with ⟨hc, h⟩ | ⟨hc, h⟩
    · refine am_Rn.ifT hc ?_
      exact rfX7_due_73 d N _ l1 l2 x.1 l4 x.2.1 q1.2 _ h hz 
    · refine am_Rn.ifF hc ?_
      refine am_Rn.op _ (58, [some (.ref 0), some (.int l1), some (.int l2), some (.int x.1), some (.int l4), some (.int x.2.1)], [.int x.1], am_T0 q1.2) rfl rfl ?_
      refine am_Rn.op _ (59, [some (.ref 0), some (.int l1), some (.int l2), some (.int x.1), some (.int l4), some (.int x.2.1)], [.int l2, .int x.1], am_T0 q1.2) rfl rfl ?_
      refine am_Rn.op _ (if x.1 = l2 then 62 else 70, [some (.ref 0), some (.int l1), some (.int l2), some (.int x.1), some (.int l4), some (.int x.2.1)], [], am_T0 q1.2) rfl rfl ?_
      rcases l2_i h with ⟨hc, h⟩ | ⟨hc, h⟩
      · refine am_Rn.ifT hc ?_
        refine am_Rn.op _ (63, [some (.ref 0), some (.int l1), some (.int l2), some (.int x.1), some (.int l4), some (.int x.2.1)], [.int 4], am_T0 q1.2) rfl rfl ?_
        refine am_Rn.op _ (65, [some (.ref 0), some (.int l1), some (.int l2), some (.int x.1), some (.int l4), some (.int x.2.1)], [.int l4, .int 4], am_T0 q1.2) rfl rfl ?_
        refine am_Rn.op _ (66, [some (.ref 0), some (.int l1), some (.int l2), some (.int x.1), some (.int l4), some (.int x.2.1)], [.int (4 * l4)], am_T0 q1.2) rfl rfl ?_
        refine am_Rn.op _ (68, [some (.ref 0), some (.int l1), some (.int l2), some (.int x.1), some (.int l4), some (.int x.2.1)], [.int x.2.1, .int (4 * l4)], am_T0 q1.2) rfl rfl ?_
        refine am_Rn.op _ (69, [some (.ref 0), some (.int l1), some (.int l2), some (.int x.1), some (.int l4), some (.int x.2.1)], [.int ((4 * l4) + x.2.1)], am_T0 q1.2) rfl rfl ?_
        cases h
        exact am_Rn.rt2 _ rfl rfl hz
      · refine am_Rn.ifF hc ?_
        refine am_Rn.op _ (73, [some (.ref 0), some (.int l1), some (.int l2), some (.int (x.1 + 1)), some (.int l4), some (.int x.2.1)], [], am_T0 q1.2) rfl rfl ?_
        exact rfX7_due_73 d N _ l1 l2 (x.1 + 1) l4 x.2.1 q1.2 _ h hz 
theorem rfX7_due_33 (d N : Nat) (res : Option Value × am_S) (l1 : Int32) (l2 : Int32) (l4 : Int32) (x : Int32 × Int32 × St) (y : (Int32 × St) ⊕ (Int32 × St)) (h : fX7_due_33 N l1 l2 l4 x = some y) (hq : QfX7_due_33 (d + 7) res l1 l2 l4 y) : PfX7_due_33 (d + 7) res l1 l2 l4 x := whl_ind _ _ (fun x z => rbfX7_due_33 d N res l1 l2 l4 x z) N x y h hq
def bfX7_due_23 (N : Nat) (l1 : Int32) (l2 : Int32) (x : Int32 × Int32 × St) : Option ((Int32 × Int32 × St) ⊕ ((Int32 × St))) := (if 7 ≤ x.2.1 then some (.inr ((-1), x.2.2)) else (fX7_due_33 N l1 l2 x.2.1 (x.1, 1, x.2.2)).bind (l2_s (fun y3 => some (.inl (y3.1, (x.2.1 + 1), y3.2))) (fun y4 => some (.inr (y4.1, y4.2)))))
def fX7_due_23 (N : Nat) (l1 : Int32) (l2 : Int32) (x : Int32 × Int32 × St) : Option ((Int32 × St)) := whl N (bfX7_due_23 N l1 l2 ) x
set_option maxRecDepth 20000 in
theorem rbfX7_due_23 (d N : Nat) (res : Option Value × am_S) (l1 : Int32) (l2 : Int32) (x : Int32 × Int32 × St) (z : (Int32 × Int32 × St) ⊕ ((Int32 × St))) (h : bfX7_due_23 N l1 l2 x = some z) (hz : Sum.elim (PfX7_due_23 (d + 7) res l1 l2 ) (QfX7_due_23 (d + 7) res l1 l2 ) z) : PfX7_due_23 (d + 7) res l1 l2 x := by
  unfold bfX7_due_23 at h
  show ∀ (w5 : Option Value), am_Rn (am_C (d + 7)) (am_ct 90) (am_rk 90) res (23, [some (.ref 0), some (.int l1), some (.int l2), some (.int x.1), some (.int x.2.1), w5], [], am_T0 x.2.2)
  intro w5
  refine am_Rn.op _ (25, [some (.ref 0), some (.int l1), some (.int l2), some (.int x.1), some (.int x.2.1), w5], [.int x.2.1], am_T0 x.2.2) rfl rfl ?_
  refine am_Rn.op _ (27, [some (.ref 0), some (.int l1), some (.int l2), some (.int x.1), some (.int x.2.1), w5], [.int 7, .int x.2.1], am_T0 x.2.2) rfl rfl ?_
  refine am_Rn.op _ (if 7 ≤ x.2.1 then 85 else 30, [some (.ref 0), some (.int l1), some (.int l2), some (.int x.1), some (.int x.2.1), w5], [], am_T0 x.2.2) rfl rfl ?_
  rcases l2_i h with ⟨hc, h⟩ | ⟨hc, h⟩
  · refine am_Rn.ifT hc ?_
    refine am_Rn.op _ (86, [some (.ref 0), some (.int l1), some (.int l2), some (.int x.1), some (.int x.2.1), w5], [.int (-1)], am_T0 x.2.2) rfl rfl ?_
    cases h
    exact am_Rn.rt2 _ rfl rfl hz
  · refine am_Rn.ifF hc ?_
    refine am_Rn.op _ (31, [some (.ref 0), some (.int l1), some (.int l2), some (.int x.1), some (.int x.2.1), w5], [.int 1], am_T0 x.2.2) rfl rfl ?_
    refine am_Rn.op _ (33, [some (.ref 0), some (.int l1), some (.int l2), some (.int x.1), some (.int x.2.1), some (.int 1)], [], am_T0 x.2.2) rfl rfl ?_
    obtain ⟨y2, hy2, h⟩ := l2_b h
    refine rfX7_due_33 d N _ l1 l2 x.2.1 (x.1, 1, x.2.2) y2 hy2 ?_ 
    rcases y2 with y3 | y4
    · intro w5
      show am_Rn _ _ _ _ (79, [some (.ref 0), some (.int l1), some (.int l2), some (.int y3.1), some (.int x.2.1), w5], [], am_T0 y3.2)
      refine am_Rn.op _ (82, [some (.ref 0), some (.int l1), some (.int l2), some (.int y3.1), some (.int (x.2.1 + 1)), w5], [], am_T0 y3.2) rfl rfl ?_
      refine am_Rn.op _ (23, [some (.ref 0), some (.int l1), some (.int l2), some (.int y3.1), some (.int (x.2.1 + 1)), w5], [], am_T0 y3.2) rfl rfl ?_
      cases h
      exact hz _
    · cases h
      exact hz
theorem rfX7_due_23 (d N : Nat) (res : Option Value × am_S) (l1 : Int32) (l2 : Int32) (x : Int32 × Int32 × St) (y : (Int32 × St)) (h : fX7_due_23 N l1 l2 x = some y) (hq : QfX7_due_23 (d + 7) res l1 l2 y) : PfX7_due_23 (d + 7) res l1 l2 x := whl_ind _ _ (fun x z => rbfX7_due_23 d N res l1 l2 x z) N x y h hq
def fX7_due (N : Nat) (l1 : Int32) (l2 : Int32) (S : St) : Option (Int32 × St) := (fX7_isRoutine N l1 S).bind (fun q6 => (if q6.1 = 0 then some ((-1), q6.2) else (if 0 ≤ l2 then (fX7_measure N l1 q6.2).bind (fun q7 => (fX7_due_23 N l1 l2 (0, 0, q7)).bind (fun y8 => some (y8.1, y8.2))) else some ((-1), q6.2))))
set_option maxRecDepth 20000 in
theorem rfX7_due (d N : Nat) (l1 : Int32) (l2 : Int32) (S : St) (z : (Int32 × St)) (h : fX7_due N l1 l2 S = some z) : am_C (d + 8) 90 [.ref 0, .int l1, .int l2] (am_T0 S) (some (.int z.1), am_T0 z.2) := by
  unfold fX7_due at h
  show am_Rn (am_C (d + 7)) (am_ct 90) (am_rk 90) (some (.int z.1), am_T0 z.2) (0, [some (.ref 0), some (.int l1), some (.int l2), none, none, none], [], am_T0 S)
  refine am_Rn.op _ (1, [some (.ref 0), some (.int l1), some (.int l2), none, none, none], [.int l1], am_T0 S) rfl rfl ?_
  obtain ⟨q6, hq6, h⟩ := l2_b h
  refine am_Rn.cl _ (some (.int q6.1)) (am_T0 q6.2) rfl rfl (rfX7_isRoutine (d + 6) N l1 S q6 hq6) ?_
  show am_Rn _ _ _ _ (4, [some (.ref 0), some (.int l1), some (.int l2), none, none, none], [.int q6.1], am_T0 q6.2)
  refine am_Rn.op _ (if q6.1 = 0 then 11 else 7, [some (.ref 0), some (.int l1), some (.int l2), none, none, none], [], am_T0 q6.2) rfl rfl ?_
  rcases l2_i h with ⟨hc, h⟩ | ⟨hc, h⟩
  · refine am_Rn.ifT hc ?_
    refine am_Rn.op _ (12, [some (.ref 0), some (.int l1), some (.int l2), none, none, none], [.int (-1)], am_T0 q6.2) rfl rfl ?_
    cases h
    exact am_Rn.rt _ rfl rfl
  · refine am_Rn.ifF hc ?_
    refine am_Rn.op _ (8, [some (.ref 0), some (.int l1), some (.int l2), none, none, none], [.int l2], am_T0 q6.2) rfl rfl ?_
    refine am_Rn.op _ (if 0 ≤ l2 then 13 else 11, [some (.ref 0), some (.int l1), some (.int l2), none, none, none], [], am_T0 q6.2) rfl rfl ?_
    rcases l2_i h with ⟨hc, h⟩ | ⟨hc, h⟩
    · refine am_Rn.ifT hc ?_
      refine am_Rn.op _ (14, [some (.ref 0), some (.int l1), some (.int l2), none, none, none], [.ref 0], am_T0 q6.2) rfl rfl ?_
      refine am_Rn.op _ (15, [some (.ref 0), some (.int l1), some (.int l2), none, none, none], [.int l1, .ref 0], am_T0 q6.2) rfl rfl ?_
      obtain ⟨q7, hq7, h⟩ := l2_b h
      refine am_Rn.cl _ none (am_T0 q7) rfl rfl (rfX7_measure (d + 0) N l1 q6.2 q7 hq7) ?_
      show am_Rn _ _ _ _ (18, [some (.ref 0), some (.int l1), some (.int l2), none, none, none], [], am_T0 q7)
      refine am_Rn.op _ (19, [some (.ref 0), some (.int l1), some (.int l2), none, none, none], [.int 0], am_T0 q7) rfl rfl ?_
      refine am_Rn.op _ (20, [some (.ref 0), some (.int l1), some (.int l2), some (.int 0), none, none], [], am_T0 q7) rfl rfl ?_
      refine am_Rn.op _ (21, [some (.ref 0), some (.int l1), some (.int l2), some (.int 0), none, none], [.int 0], am_T0 q7) rfl rfl ?_
      refine am_Rn.op _ (23, [some (.ref 0), some (.int l1), some (.int l2), some (.int 0), some (.int 0), none], [], am_T0 q7) rfl rfl ?_
      obtain ⟨y8, hy8, h⟩ := l2_b h
      refine rfX7_due_23 d N _ l1 l2 (0, 0, q7) y8 hy8 ?_ _
      cases h
      exact rfl
    · refine am_Rn.ifF hc ?_
      refine am_Rn.op _ (12, [some (.ref 0), some (.int l1), some (.int l2), none, none, none], [.int (-1)], am_T0 q6.2) rfl rfl ?_
      cases h
      exact am_Rn.rt _ rfl rfl
-- X7_takers
def fX7_takers_20 (N : Nat) (s0 : Int32) (S : St) : Option (Int32 × St) := some (s0, S)
set_option maxRecDepth 20000 in
theorem rfX7_takers_20 (d N : Nat) (s0 : Int32) (S : St) (z : (Int32 × St)) (h : fX7_takers_20 N s0 S = some z) (w0 : Option Value) (w1 : Option Value) : am_Rn (am_C (d + 1)) (am_ct 91) (am_rk 91) (some (.int z.1), am_T0 z.2) (20, [w0, w1], [.int s0], am_T0 S) := by
  unfold fX7_takers_20 at h
  cases h
  exact am_Rn.rt _ rfl rfl
def fX7_takers (N : Nat) (l1 : Int32) (S : St) : Option (Int32 × St) := (fX7_isRoutine N l1 S).bind (fun q1 => (if q1.1 = 0 then fX7_takers_20 N (-1) q1.2 else (if l1 < 0 ∨ 8 ≤ Int32.toNatClampNeg l1 then none else (fX5_takerCount N (q1.2.2 (Int32.toNatClampNeg l1)) q1.2).bind (fun q3 => fX7_takers_20 N q3.1 q3.2))))
set_option maxRecDepth 20000 in
theorem rfX7_takers (d N : Nat) (l1 : Int32) (S : St) (z : (Int32 × St)) (h : fX7_takers N l1 S = some z) : am_C (d + 2) 91 [.ref 0, .int l1] (am_T0 S) (some (.int z.1), am_T0 z.2) := by
  unfold fX7_takers at h
  show am_Rn (am_C (d + 1)) (am_ct 91) (am_rk 91) (some (.int z.1), am_T0 z.2) (0, [some (.ref 0), some (.int l1)], [], am_T0 S)
  refine am_Rn.op _ (1, [some (.ref 0), some (.int l1)], [.int l1], am_T0 S) rfl rfl ?_
  obtain ⟨q1, hq1, h⟩ := l2_b h
  refine am_Rn.cl _ (some (.int q1.1)) (am_T0 q1.2) rfl rfl (rfX7_isRoutine (d + 0) N l1 S q1 hq1) ?_
  show am_Rn _ _ _ _ (4, [some (.ref 0), some (.int l1)], [.int q1.1], am_T0 q1.2)
  refine am_Rn.op _ (if q1.1 = 0 then 19 else 7, [some (.ref 0), some (.int l1)], [], am_T0 q1.2) rfl rfl ?_
  rcases l2_i h with ⟨hc, h⟩ | ⟨hc, h⟩
  · refine am_Rn.ifT hc ?_
    refine am_Rn.op _ (20, [some (.ref 0), some (.int l1)], [.int (-1)], am_T0 q1.2) rfl rfl ?_
    exact rfX7_takers_20 d N (-1) q1.2 _ h _ _
  · refine am_Rn.ifF hc ?_
    refine am_Rn.op _ (8, [some (.ref 0), some (.int l1)], [.ref 0], am_T0 q1.2) rfl rfl ?_
    refine am_Rn.op _ (11, [some (.ref 0), some (.int l1)], [.ref 16], am_T0 q1.2) rfl rfl ?_
    refine am_Rn.op _ (12, [some (.ref 0), some (.int l1)], [.int l1, .ref 16], am_T0 q1.2) rfl rfl ?_
    obtain ⟨hb2, h⟩ := l2_n h
    refine am_Rn.aald rfl hb2 ?_
    show am_Rn _ _ _ _ (13, [some (.ref 0), some (.int l1)], [.ref (TA (q1.2.2 (Int32.toNatClampNeg l1)))], am_T0 q1.2)
    obtain ⟨q3, hq3, h⟩ := l2_b h
    refine am_Rn.cl _ (some (.int q3.1)) (am_T0 q3.2) rfl (o_clv rfl rfl rfl (l2_isO (q1.2.2 (Int32.toNatClampNeg l1)) q1.2)) (rfX5_takerCount (d + 0) N (q1.2.2 (Int32.toNatClampNeg l1)) q1.2 q3 hq3) ?_
    show am_Rn _ _ _ _ (16, [some (.ref 0), some (.int l1)], [.int q3.1], am_T0 q3.2)
    refine am_Rn.op _ (20, [some (.ref 0), some (.int l1)], [.int q3.1], am_T0 q3.2) rfl rfl ?_
    exact rfX7_takers_20 d N q3.1 q3.2 _ h _ _
-- X7_trace
def fX7_trace (N : Nat) (l1 : Int32) (S : St) : Option St := (fX7_has N (S.1 0 12) l1 S).bind (fun q1 => (if q1.1 = 0 then (if l1 < 0 ∨ 8 ≤ Int32.toNatClampNeg l1 then none else (fX2_measureAll N (q1.2.2 (Int32.toNatClampNeg l1)) q1.2).bind (fun q3 => (if l1 < 0 ∨ 8 ≤ Int32.toNatClampNeg l1 then none else (fX6_traceAll N (q3.2 (Int32.toNatClampNeg l1)) q3).bind (fun q5 => some (st_i q5 0 12 ((q5.1 0 12) ||| (1 <<< (l1 &&& 31)))))))) else some q1.2))
set_option maxRecDepth 20000 in
theorem rfX7_trace (d N : Nat) (l1 : Int32) (S : St) (z : St) (h : fX7_trace N l1 S = some z) : am_C (d + 7) 111 [.ref 0, .int l1] (am_T0 S) (none, am_T0 z) := by
  unfold fX7_trace at h
  show am_Rn (am_C (d + 6)) (am_ct 111) (am_rk 111) (none, am_T0 z) (0, [some (.ref 0), some (.int l1)], [], am_T0 S)
  refine am_Rn.op _ (1, [some (.ref 0), some (.int l1)], [.ref 0], am_T0 S) rfl rfl ?_
  refine am_Rn.op _ (4, [some (.ref 0), some (.int l1)], [.int (S.1 0 12)], am_T0 S) rfl rfl ?_
  refine am_Rn.op _ (5, [some (.ref 0), some (.int l1)], [.int l1, .int (S.1 0 12)], am_T0 S) rfl rfl ?_
  obtain ⟨q1, hq1, h⟩ := l2_b h
  refine am_Rn.cl _ (some (.int q1.1)) (am_T0 q1.2) rfl rfl (rfX7_has (d + 5) N (S.1 0 12) l1 S q1 hq1) ?_
  show am_Rn _ _ _ _ (8, [some (.ref 0), some (.int l1)], [.int q1.1], am_T0 q1.2)
  refine am_Rn.op _ (if q1.1 = 0 then 12 else 11, [some (.ref 0), some (.int l1)], [], am_T0 q1.2) rfl rfl ?_
  rcases l2_i h with ⟨hc, h⟩ | ⟨hc, h⟩
  · refine am_Rn.ifT hc ?_
    refine am_Rn.op _ (13, [some (.ref 0), some (.int l1)], [.ref 0], am_T0 q1.2) rfl rfl ?_
    refine am_Rn.op _ (16, [some (.ref 0), some (.int l1)], [.ref 20], am_T0 q1.2) rfl rfl ?_
    refine am_Rn.op _ (17, [some (.ref 0), some (.int l1)], [.ref 0, .ref 20], am_T0 q1.2) rfl rfl ?_
    refine am_Rn.op _ (20, [some (.ref 0), some (.int l1)], [.ref 16, .ref 20], am_T0 q1.2) rfl rfl ?_
    refine am_Rn.op _ (21, [some (.ref 0), some (.int l1)], [.int l1, .ref 16, .ref 20], am_T0 q1.2) rfl rfl ?_
    obtain ⟨hb2, h⟩ := l2_n h
    refine am_Rn.aald rfl hb2 ?_
    show am_Rn _ _ _ _ (22, [some (.ref 0), some (.int l1)], [.ref (TA (q1.2.2 (Int32.toNatClampNeg l1))), .ref 20], am_T0 q1.2)
    obtain ⟨q3, hq3, h⟩ := l2_b h
    refine am_Rn.cl _ none (am_T0 q3) rfl rfl (rfX2_measureAll (d + 0) N (q1.2.2 (Int32.toNatClampNeg l1)) q1.2 q3 hq3) ?_
    show am_Rn _ _ _ _ (25, [some (.ref 0), some (.int l1)], [], am_T0 q3)
    refine am_Rn.op _ (26, [some (.ref 0), some (.int l1)], [.ref 0], am_T0 q3) rfl rfl ?_
    refine am_Rn.op _ (29, [some (.ref 0), some (.int l1)], [.ref 36], am_T0 q3) rfl rfl ?_
    refine am_Rn.op _ (30, [some (.ref 0), some (.int l1)], [.ref 0, .ref 36], am_T0 q3) rfl rfl ?_
    refine am_Rn.op _ (33, [some (.ref 0), some (.int l1)], [.ref 16, .ref 36], am_T0 q3) rfl rfl ?_
    refine am_Rn.op _ (34, [some (.ref 0), some (.int l1)], [.int l1, .ref 16, .ref 36], am_T0 q3) rfl rfl ?_
    obtain ⟨hb4, h⟩ := l2_n h
    refine am_Rn.aald rfl hb4 ?_
    show am_Rn _ _ _ _ (35, [some (.ref 0), some (.int l1)], [.ref (TA (q3.2 (Int32.toNatClampNeg l1))), .ref 36], am_T0 q3)
    obtain ⟨q5, hq5, h⟩ := l2_b h
    refine am_Rn.cl _ none (am_T0 q5) rfl rfl (rfX6_traceAll (d + 0) N (q3.2 (Int32.toNatClampNeg l1)) q3 q5 hq5) ?_
    show am_Rn _ _ _ _ (38, [some (.ref 0), some (.int l1)], [], am_T0 q5)
    refine am_Rn.op _ (39, [some (.ref 0), some (.int l1)], [.ref 0], am_T0 q5) rfl rfl ?_
    refine am_Rn.op _ (40, [some (.ref 0), some (.int l1)], [.ref 0, .ref 0], am_T0 q5) rfl rfl ?_
    refine am_Rn.op _ (43, [some (.ref 0), some (.int l1)], [.int (q5.1 0 12), .ref 0], am_T0 q5) rfl rfl ?_
    refine am_Rn.op _ (44, [some (.ref 0), some (.int l1)], [.int 1, .int (q5.1 0 12), .ref 0], am_T0 q5) rfl rfl ?_
    refine am_Rn.op _ (45, [some (.ref 0), some (.int l1)], [.int l1, .int 1, .int (q5.1 0 12), .ref 0], am_T0 q5) rfl rfl ?_
    refine am_Rn.op _ (46, [some (.ref 0), some (.int l1)], [.int (1 <<< (l1 &&& 31)), .int (q5.1 0 12), .ref 0], am_T0 q5) rfl rfl ?_
    refine am_Rn.op _ (47, [some (.ref 0), some (.int l1)], [.int ((q5.1 0 12) ||| (1 <<< (l1 &&& 31))), .ref 0], am_T0 q5) rfl rfl ?_
    refine am_Rn.op _ (50, [some (.ref 0), some (.int l1)], [], am_T0 (st_i q5 0 12 ((q5.1 0 12) ||| (1 <<< (l1 &&& 31))))) rfl rfl ?_
    cases h
    exact am_Rn.rt _ rfl rfl
  · refine am_Rn.ifF hc ?_
    cases h
    exact am_Rn.rt _ rfl rfl
-- X7_taker
def fX7_taker_146 (N : Nat) (s0 : Int32) (S : St) : Option (Int32 × St) := (fX7_bit N s0 S).bind (fun q1 => some (q1.1, q1.2))
set_option maxRecDepth 20000 in
theorem rfX7_taker_146 (d N : Nat) (s0 : Int32) (S : St) (z : (Int32 × St)) (h : fX7_taker_146 N s0 S = some z) (w0 : Option Value) (w1 : Option Value) (w2 : Option Value) (w3 : Option Value) (w4 : Option Value) : am_Rn (am_C (d + 7)) (am_ct 92) (am_rk 92) (some (.int z.1), am_T0 z.2) (146, [w0, w1, w2, w3, w4], [.int s0], am_T0 S) := by
  unfold fX7_taker_146 at h
  obtain ⟨q1, hq1, h⟩ := l2_b h
  refine am_Rn.cl _ (some (.int q1.1)) (am_T0 q1.2) rfl rfl (rfX7_bit (d + 6) N s0 S q1 hq1) ?_
  show am_Rn _ _ _ _ (149, [w0, w1, w2, w3, w4], [.int q1.1], am_T0 q1.2)
  cases h
  exact am_Rn.rt _ rfl rfl
def fX7_taker_128 (N : Nat) (s0 : Int32) (S : St) : Option (Int32 × St) := (fX7_bit N s0 S).bind (fun q2 => some (q2.1, q2.2))
set_option maxRecDepth 20000 in
theorem rfX7_taker_128 (d N : Nat) (s0 : Int32) (S : St) (z : (Int32 × St)) (h : fX7_taker_128 N s0 S = some z) (w0 : Option Value) (w1 : Option Value) (w2 : Option Value) (w3 : Option Value) (w4 : Option Value) : am_Rn (am_C (d + 7)) (am_ct 92) (am_rk 92) (some (.int z.1), am_T0 z.2) (128, [w0, w1, w2, w3, w4], [.int s0], am_T0 S) := by
  unfold fX7_taker_128 at h
  obtain ⟨q2, hq2, h⟩ := l2_b h
  refine am_Rn.cl _ (some (.int q2.1)) (am_T0 q2.2) rfl rfl (rfX7_bit (d + 6) N s0 S q2 hq2) ?_
  show am_Rn _ _ _ _ (131, [w0, w1, w2, w3, w4], [.int q2.1], am_T0 q2.2)
  cases h
  exact am_Rn.rt _ rfl rfl
def fX7_taker_127 (N : Nat) (S : St) : Option (Int32 × St) := fX7_taker_128 N 0 S
set_option maxRecDepth 20000 in
theorem rfX7_taker_127 (d N : Nat) (S : St) (z : (Int32 × St)) (h : fX7_taker_127 N S = some z) (w0 : Option Value) (w1 : Option Value) (w2 : Option Value) (w3 : Option Value) (w4 : Option Value) : am_Rn (am_C (d + 7)) (am_ct 92) (am_rk 92) (some (.int z.1), am_T0 z.2) (127, [w0, w1, w2, w3, w4], [], am_T0 S) := by
  unfold fX7_taker_127 at h
  refine am_Rn.op _ (128, [w0, w1, w2, w3, w4], [.int 0], am_T0 S) rfl rfl ?_
  exact rfX7_taker_128 d N 0 S _ h _ _ _ _ _
def fX7_taker_41 (N : Nat) (l1 : Int32) (l2 : Int32) (l3 : Int32) (S : St) : Option (Int32 × St) := (if l1 < 0 ∨ 8 ≤ Int32.toNatClampNeg l1 then none else (if l3 = 0 then (fX5_takerKind N (S.2 (Int32.toNatClampNeg l1)) l2 S).bind (fun q4 => some (q4.1, q4.2)) else (if l3 = 1 then (fX5_takerPlace N (S.2 (Int32.toNatClampNeg l1)) l2 S).bind (fun q5 => some (q5.1, q5.2)) else (if l3 = 2 then (fX5_takenKinds N (S.2 (Int32.toNatClampNeg l1)) l2 S).bind (fun q6 => some (q6.1, q6.2)) else (if l3 = 3 then (fX5_takenKinds N (S.2 (Int32.toNatClampNeg l1)) l2 S).bind (fun q7 => (if q7.1 = 0 then fX7_taker_127 N q7.2 else (fX5_isEmptyTaker N (S.2 (Int32.toNatClampNeg l1)) l2 q7.2).bind (fun q8 => (if q8.1 = 0 then fX7_taker_127 N q8.2 else fX7_taker_128 N 1 q8.2)))) else (if l3 = 4 then (fX5_takenKinds N (S.2 (Int32.toNatClampNeg l1)) l2 S).bind (fun q9 => (if q9.1 = 0 then fX7_taker_146 N 1 q9.2 else fX7_taker_146 N 0 q9.2)) else some ((-1), S)))))))
set_option maxRecDepth 20000 in
theorem rfX7_taker_41 (d N : Nat) (l1 : Int32) (l2 : Int32) (l3 : Int32) (S : St) (z : (Int32 × St)) (h : fX7_taker_41 N l1 l2 l3 S = some z) (w4 : Option Value) : am_Rn (am_C (d + 7)) (am_ct 92) (am_rk 92) (some (.int z.1), am_T0 z.2) (41, [some (.ref 0), some (.int l1), some (.int l2), some (.int l3), w4], [], am_T0 S) := by
  unfold fX7_taker_41 at h
  refine am_Rn.op _ (42, [some (.ref 0), some (.int l1), some (.int l2), some (.int l3), w4], [.ref 0], am_T0 S) rfl rfl ?_
  refine am_Rn.op _ (45, [some (.ref 0), some (.int l1), some (.int l2), some (.int l3), w4], [.ref 16], am_T0 S) rfl rfl ?_
  refine am_Rn.op _ (46, [some (.ref 0), some (.int l1), some (.int l2), some (.int l3), w4], [.int l1, .ref 16], am_T0 S) rfl rfl ?_
  obtain ⟨hb3, h⟩ := l2_n h
  refine am_Rn.aald rfl hb3 ?_
  show am_Rn _ _ _ _ (47, [some (.ref 0), some (.int l1), some (.int l2), some (.int l3), w4], [.ref (TA (S.2 (Int32.toNatClampNeg l1)))], am_T0 S)
  refine am_Rn.op _ (49, [some (.ref 0), some (.int l1), some (.int l2), some (.int l3), some (.ref (TA (S.2 (Int32.toNatClampNeg l1))))], [], am_T0 S) rfl rfl ?_
  refine am_Rn.op _ (50, [some (.ref 0), some (.int l1), some (.int l2), some (.int l3), some (.ref (TA (S.2 (Int32.toNatClampNeg l1))))], [.int l3], am_T0 S) rfl rfl ?_
  refine am_Rn.op _ ((if l3 = 0 then 84 else (if l3 = 1 then 91 else (if l3 = 2 then 98 else (if l3 = 3 then 105 else (if l3 = 4 then 132 else 150))))), [some (.ref 0), some (.int l1), some (.int l2), some (.int l3), some (.ref (TA (S.2 (Int32.toNatClampNeg l1))))], [], am_T0 S) rfl rfl ?_
  rcases l2_i h with ⟨hc, h⟩ | ⟨hc, h⟩
  · refine am_Rn.ifT hc ?_
    refine am_Rn.op _ (86, [some (.ref 0), some (.int l1), some (.int l2), some (.int l3), some (.ref (TA (S.2 (Int32.toNatClampNeg l1))))], [.ref (TA (S.2 (Int32.toNatClampNeg l1)))], am_T0 S) rfl rfl ?_
    refine am_Rn.op _ (87, [some (.ref 0), some (.int l1), some (.int l2), some (.int l3), some (.ref (TA (S.2 (Int32.toNatClampNeg l1))))], [.int l2, .ref (TA (S.2 (Int32.toNatClampNeg l1)))], am_T0 S) rfl rfl ?_
    obtain ⟨q4, hq4, h⟩ := l2_b h
    refine am_Rn.cl _ (some (.int q4.1)) (am_T0 q4.2) rfl (o_clv rfl rfl rfl (l2_isO (S.2 (Int32.toNatClampNeg l1)) S)) (rfX5_takerKind (d + 4) N (S.2 (Int32.toNatClampNeg l1)) l2 S q4 hq4) ?_
    show am_Rn _ _ _ _ (90, [some (.ref 0), some (.int l1), some (.int l2), some (.int l3), some (.ref (TA (S.2 (Int32.toNatClampNeg l1))))], [.int q4.1], am_T0 q4.2)
    cases h
    exact am_Rn.rt _ rfl rfl
  · refine am_Rn.ifF hc ?_
    rcases l2_i h with ⟨hc, h⟩ | ⟨hc, h⟩
    · refine am_Rn.ifT hc ?_
      refine am_Rn.op _ (93, [some (.ref 0), some (.int l1), some (.int l2), some (.int l3), some (.ref (TA (S.2 (Int32.toNatClampNeg l1))))], [.ref (TA (S.2 (Int32.toNatClampNeg l1)))], am_T0 S) rfl rfl ?_
      refine am_Rn.op _ (94, [some (.ref 0), some (.int l1), some (.int l2), some (.int l3), some (.ref (TA (S.2 (Int32.toNatClampNeg l1))))], [.int l2, .ref (TA (S.2 (Int32.toNatClampNeg l1)))], am_T0 S) rfl rfl ?_
      obtain ⟨q5, hq5, h⟩ := l2_b h
      refine am_Rn.cl _ (some (.int q5.1)) (am_T0 q5.2) rfl (o_clv rfl rfl rfl (l2_isO (S.2 (Int32.toNatClampNeg l1)) S)) (rfX5_takerPlace (d + 6) N (S.2 (Int32.toNatClampNeg l1)) l2 S q5 hq5) ?_
      show am_Rn _ _ _ _ (97, [some (.ref 0), some (.int l1), some (.int l2), some (.int l3), some (.ref (TA (S.2 (Int32.toNatClampNeg l1))))], [.int q5.1], am_T0 q5.2)
      cases h
      exact am_Rn.rt _ rfl rfl
    · refine am_Rn.ifF hc ?_
      rcases l2_i h with ⟨hc, h⟩ | ⟨hc, h⟩
      · refine am_Rn.ifT hc ?_
        refine am_Rn.op _ (100, [some (.ref 0), some (.int l1), some (.int l2), some (.int l3), some (.ref (TA (S.2 (Int32.toNatClampNeg l1))))], [.ref (TA (S.2 (Int32.toNatClampNeg l1)))], am_T0 S) rfl rfl ?_
        refine am_Rn.op _ (101, [some (.ref 0), some (.int l1), some (.int l2), some (.int l3), some (.ref (TA (S.2 (Int32.toNatClampNeg l1))))], [.int l2, .ref (TA (S.2 (Int32.toNatClampNeg l1)))], am_T0 S) rfl rfl ?_
        obtain ⟨q6, hq6, h⟩ := l2_b h
        refine am_Rn.cl _ (some (.int q6.1)) (am_T0 q6.2) rfl (o_clv rfl rfl rfl (l2_isO (S.2 (Int32.toNatClampNeg l1)) S)) (rfX5_takenKinds (d + 4) N (S.2 (Int32.toNatClampNeg l1)) l2 S q6 hq6) ?_
        show am_Rn _ _ _ _ (104, [some (.ref 0), some (.int l1), some (.int l2), some (.int l3), some (.ref (TA (S.2 (Int32.toNatClampNeg l1))))], [.int q6.1], am_T0 q6.2)
        cases h
        exact am_Rn.rt _ rfl rfl
      · refine am_Rn.ifF hc ?_
        rcases l2_i h with ⟨hc, h⟩ | ⟨hc, h⟩
        · refine am_Rn.ifT hc ?_
          refine am_Rn.op _ (107, [some (.ref 0), some (.int l1), some (.int l2), some (.int l3), some (.ref (TA (S.2 (Int32.toNatClampNeg l1))))], [.ref (TA (S.2 (Int32.toNatClampNeg l1)))], am_T0 S) rfl rfl ?_
          refine am_Rn.op _ (108, [some (.ref 0), some (.int l1), some (.int l2), some (.int l3), some (.ref (TA (S.2 (Int32.toNatClampNeg l1))))], [.int l2, .ref (TA (S.2 (Int32.toNatClampNeg l1)))], am_T0 S) rfl rfl ?_
          obtain ⟨q7, hq7, h⟩ := l2_b h
          refine am_Rn.cl _ (some (.int q7.1)) (am_T0 q7.2) rfl (o_clv rfl rfl rfl (l2_isO (S.2 (Int32.toNatClampNeg l1)) S)) (rfX5_takenKinds (d + 4) N (S.2 (Int32.toNatClampNeg l1)) l2 S q7 hq7) ?_
          show am_Rn _ _ _ _ (111, [some (.ref 0), some (.int l1), some (.int l2), some (.int l3), some (.ref (TA (S.2 (Int32.toNatClampNeg l1))))], [.int q7.1], am_T0 q7.2)
          refine am_Rn.op _ (if q7.1 = 0 then 127 else 114, [some (.ref 0), some (.int l1), some (.int l2), some (.int l3), some (.ref (TA (S.2 (Int32.toNatClampNeg l1))))], [], am_T0 q7.2) rfl rfl ?_
          rcases l2_i h with ⟨hc, h⟩ | ⟨hc, h⟩
          · refine am_Rn.ifT hc ?_
            exact rfX7_taker_127 d N q7.2 _ h _ _ _ _ _
          · refine am_Rn.ifF hc ?_
            refine am_Rn.op _ (116, [some (.ref 0), some (.int l1), some (.int l2), some (.int l3), some (.ref (TA (S.2 (Int32.toNatClampNeg l1))))], [.ref (TA (S.2 (Int32.toNatClampNeg l1)))], am_T0 q7.2) rfl rfl ?_
            refine am_Rn.op _ (117, [some (.ref 0), some (.int l1), some (.int l2), some (.int l3), some (.ref (TA (S.2 (Int32.toNatClampNeg l1))))], [.int l2, .ref (TA (S.2 (Int32.toNatClampNeg l1)))], am_T0 q7.2) rfl rfl ?_
            obtain ⟨q8, hq8, h⟩ := l2_b h
            refine am_Rn.cl _ (some (.int q8.1)) (am_T0 q8.2) rfl (o_clv rfl rfl rfl (l2_isO (S.2 (Int32.toNatClampNeg l1)) q7.2)) (rfX5_isEmptyTaker (d + 4) N (S.2 (Int32.toNatClampNeg l1)) l2 q7.2 q8 hq8) ?_
            show am_Rn _ _ _ _ (120, [some (.ref 0), some (.int l1), some (.int l2), some (.int l3), some (.ref (TA (S.2 (Int32.toNatClampNeg l1))))], [.int q8.1], am_T0 q8.2)
            refine am_Rn.op _ (if q8.1 = 0 then 127 else 123, [some (.ref 0), some (.int l1), some (.int l2), some (.int l3), some (.ref (TA (S.2 (Int32.toNatClampNeg l1))))], [], am_T0 q8.2) rfl rfl ?_
            rcases l2_i h with ⟨hc, h⟩ | ⟨hc, h⟩
            · refine am_Rn.ifT hc ?_
              exact rfX7_taker_127 d N q8.2 _ h _ _ _ _ _
            · refine am_Rn.ifF hc ?_
              refine am_Rn.op _ (124, [some (.ref 0), some (.int l1), some (.int l2), some (.int l3), some (.ref (TA (S.2 (Int32.toNatClampNeg l1))))], [.int 1], am_T0 q8.2) rfl rfl ?_
              refine am_Rn.op _ (128, [some (.ref 0), some (.int l1), some (.int l2), some (.int l3), some (.ref (TA (S.2 (Int32.toNatClampNeg l1))))], [.int 1], am_T0 q8.2) rfl rfl ?_
              exact rfX7_taker_128 d N 1 q8.2 _ h _ _ _ _ _
        · refine am_Rn.ifF hc ?_
          rcases l2_i h with ⟨hc, h⟩ | ⟨hc, h⟩
          · refine am_Rn.ifT hc ?_
            refine am_Rn.op _ (134, [some (.ref 0), some (.int l1), some (.int l2), some (.int l3), some (.ref (TA (S.2 (Int32.toNatClampNeg l1))))], [.ref (TA (S.2 (Int32.toNatClampNeg l1)))], am_T0 S) rfl rfl ?_
            refine am_Rn.op _ (135, [some (.ref 0), some (.int l1), some (.int l2), some (.int l3), some (.ref (TA (S.2 (Int32.toNatClampNeg l1))))], [.int l2, .ref (TA (S.2 (Int32.toNatClampNeg l1)))], am_T0 S) rfl rfl ?_
            obtain ⟨q9, hq9, h⟩ := l2_b h
            refine am_Rn.cl _ (some (.int q9.1)) (am_T0 q9.2) rfl (o_clv rfl rfl rfl (l2_isO (S.2 (Int32.toNatClampNeg l1)) S)) (rfX5_takenKinds (d + 4) N (S.2 (Int32.toNatClampNeg l1)) l2 S q9 hq9) ?_
            show am_Rn _ _ _ _ (138, [some (.ref 0), some (.int l1), some (.int l2), some (.int l3), some (.ref (TA (S.2 (Int32.toNatClampNeg l1))))], [.int q9.1], am_T0 q9.2)
            refine am_Rn.op _ (if q9.1 = 0 then 141 else 145, [some (.ref 0), some (.int l1), some (.int l2), some (.int l3), some (.ref (TA (S.2 (Int32.toNatClampNeg l1))))], [], am_T0 q9.2) rfl rfl ?_
            rcases l2_i h with ⟨hc, h⟩ | ⟨hc, h⟩
            · refine am_Rn.ifT hc ?_
              refine am_Rn.op _ (142, [some (.ref 0), some (.int l1), some (.int l2), some (.int l3), some (.ref (TA (S.2 (Int32.toNatClampNeg l1))))], [.int 1], am_T0 q9.2) rfl rfl ?_
              refine am_Rn.op _ (146, [some (.ref 0), some (.int l1), some (.int l2), some (.int l3), some (.ref (TA (S.2 (Int32.toNatClampNeg l1))))], [.int 1], am_T0 q9.2) rfl rfl ?_
              exact rfX7_taker_146 d N 1 q9.2 _ h _ _ _ _ _
            · refine am_Rn.ifF hc ?_
              refine am_Rn.op _ (146, [some (.ref 0), some (.int l1), some (.int l2), some (.int l3), some (.ref (TA (S.2 (Int32.toNatClampNeg l1))))], [.int 0], am_T0 q9.2) rfl rfl ?_
              exact rfX7_taker_146 d N 0 q9.2 _ h _ _ _ _ _
          · refine am_Rn.ifF hc ?_
            refine am_Rn.op _ (151, [some (.ref 0), some (.int l1), some (.int l2), some (.int l3), some (.ref (TA (S.2 (Int32.toNatClampNeg l1))))], [.int (-1)], am_T0 S) rfl rfl ?_
            cases h
            exact am_Rn.rt _ rfl rfl
def fX7_taker (N : Nat) (l1 : Int32) (l2 : Int32) (l3 : Int32) (S : St) : Option (Int32 × St) := (fX7_isRoutine N l1 S).bind (fun q10 => (if q10.1 = 0 then some ((-1), q10.2) else (if l2 < 0 then some ((-1), q10.2) else (if l1 < 0 ∨ 8 ≤ Int32.toNatClampNeg l1 then none else (fX5_takerCount N (q10.2.2 (Int32.toNatClampNeg l1)) q10.2).bind (fun q12 => (if l2 < q12.1 then (if l3 ≤ 1 then fX7_taker_41 N l1 l2 l3 q12.2 else (fX7_measure N l1 q12.2).bind (fun q13 => (fX7_trace N l1 q13).bind (fun q14 => fX7_taker_41 N l1 l2 l3 q14))) else some ((-1), q12.2)))))))
set_option maxRecDepth 20000 in
theorem rfX7_taker (d N : Nat) (l1 : Int32) (l2 : Int32) (l3 : Int32) (S : St) (z : (Int32 × St)) (h : fX7_taker N l1 l2 l3 S = some z) : am_C (d + 8) 92 [.ref 0, .int l1, .int l2, .int l3] (am_T0 S) (some (.int z.1), am_T0 z.2) := by
  unfold fX7_taker at h
  show am_Rn (am_C (d + 7)) (am_ct 92) (am_rk 92) (some (.int z.1), am_T0 z.2) (0, [some (.ref 0), some (.int l1), some (.int l2), some (.int l3), none], [], am_T0 S)
  refine am_Rn.op _ (1, [some (.ref 0), some (.int l1), some (.int l2), some (.int l3), none], [.int l1], am_T0 S) rfl rfl ?_
  obtain ⟨q10, hq10, h⟩ := l2_b h
  refine am_Rn.cl _ (some (.int q10.1)) (am_T0 q10.2) rfl rfl (rfX7_isRoutine (d + 6) N l1 S q10 hq10) ?_
  show am_Rn _ _ _ _ (4, [some (.ref 0), some (.int l1), some (.int l2), some (.int l3), none], [.int q10.1], am_T0 q10.2)
  refine am_Rn.op _ (if q10.1 = 0 then 24 else 7, [some (.ref 0), some (.int l1), some (.int l2), some (.int l3), none], [], am_T0 q10.2) rfl rfl ?_
  rcases l2_i h with ⟨hc, h⟩ | ⟨hc, h⟩
  · refine am_Rn.ifT hc ?_
    refine am_Rn.op _ (25, [some (.ref 0), some (.int l1), some (.int l2), some (.int l3), none], [.int (-1)], am_T0 q10.2) rfl rfl ?_
    cases h
    exact am_Rn.rt _ rfl rfl
  · refine am_Rn.ifF hc ?_
    refine am_Rn.op _ (8, [some (.ref 0), some (.int l1), some (.int l2), some (.int l3), none], [.int l2], am_T0 q10.2) rfl rfl ?_
    refine am_Rn.op _ (if l2 < 0 then 24 else 11, [some (.ref 0), some (.int l1), some (.int l2), some (.int l3), none], [], am_T0 q10.2) rfl rfl ?_
    rcases l2_i h with ⟨hc, h⟩ | ⟨hc, h⟩
    · refine am_Rn.ifT hc ?_
      refine am_Rn.op _ (25, [some (.ref 0), some (.int l1), some (.int l2), some (.int l3), none], [.int (-1)], am_T0 q10.2) rfl rfl ?_
      cases h
      exact am_Rn.rt _ rfl rfl
    · refine am_Rn.ifF hc ?_
      refine am_Rn.op _ (12, [some (.ref 0), some (.int l1), some (.int l2), some (.int l3), none], [.int l2], am_T0 q10.2) rfl rfl ?_
      refine am_Rn.op _ (13, [some (.ref 0), some (.int l1), some (.int l2), some (.int l3), none], [.ref 0, .int l2], am_T0 q10.2) rfl rfl ?_
      refine am_Rn.op _ (16, [some (.ref 0), some (.int l1), some (.int l2), some (.int l3), none], [.ref 16, .int l2], am_T0 q10.2) rfl rfl ?_
      refine am_Rn.op _ (17, [some (.ref 0), some (.int l1), some (.int l2), some (.int l3), none], [.int l1, .ref 16, .int l2], am_T0 q10.2) rfl rfl ?_
      obtain ⟨hb11, h⟩ := l2_n h
      refine am_Rn.aald rfl hb11 ?_
      show am_Rn _ _ _ _ (18, [some (.ref 0), some (.int l1), some (.int l2), some (.int l3), none], [.ref (TA (q10.2.2 (Int32.toNatClampNeg l1))), .int l2], am_T0 q10.2)
      obtain ⟨q12, hq12, h⟩ := l2_b h
      refine am_Rn.cl _ (some (.int q12.1)) (am_T0 q12.2) rfl (o_clv rfl rfl rfl (l2_isO (q10.2.2 (Int32.toNatClampNeg l1)) q10.2)) (rfX5_takerCount (d + 6) N (q10.2.2 (Int32.toNatClampNeg l1)) q10.2 q12 hq12) ?_
      show am_Rn _ _ _ _ (21, [some (.ref 0), some (.int l1), some (.int l2), some (.int l3), none], [.int q12.1, .int l2], am_T0 q12.2)
      refine am_Rn.op _ (if l2 < q12.1 then 26 else 24, [some (.ref 0), some (.int l1), some (.int l2), some (.int l3), none], [], am_T0 q12.2) rfl rfl ?_
      rcases l2_i h with ⟨hc, h⟩ | ⟨hc, h⟩
      · refine am_Rn.ifT hc ?_
        refine am_Rn.op _ (27, [some (.ref 0), some (.int l1), some (.int l2), some (.int l3), none], [.int l3], am_T0 q12.2) rfl rfl ?_
        refine am_Rn.op _ (28, [some (.ref 0), some (.int l1), some (.int l2), some (.int l3), none], [.int 1, .int l3], am_T0 q12.2) rfl rfl ?_
        refine am_Rn.op _ (if l3 ≤ 1 then 41 else 31, [some (.ref 0), some (.int l1), some (.int l2), some (.int l3), none], [], am_T0 q12.2) rfl rfl ?_
        rcases l2_i h with ⟨hc, h⟩ | ⟨hc, h⟩
        · refine am_Rn.ifT hc ?_
          exact rfX7_taker_41 d N l1 l2 l3 q12.2 _ h _
        · refine am_Rn.ifF hc ?_
          refine am_Rn.op _ (32, [some (.ref 0), some (.int l1), some (.int l2), some (.int l3), none], [.ref 0], am_T0 q12.2) rfl rfl ?_
          refine am_Rn.op _ (33, [some (.ref 0), some (.int l1), some (.int l2), some (.int l3), none], [.int l1, .ref 0], am_T0 q12.2) rfl rfl ?_
          obtain ⟨q13, hq13, h⟩ := l2_b h
          refine am_Rn.cl _ none (am_T0 q13) rfl rfl (rfX7_measure (d + 0) N l1 q12.2 q13 hq13) ?_
          show am_Rn _ _ _ _ (36, [some (.ref 0), some (.int l1), some (.int l2), some (.int l3), none], [], am_T0 q13)
          refine am_Rn.op _ (37, [some (.ref 0), some (.int l1), some (.int l2), some (.int l3), none], [.ref 0], am_T0 q13) rfl rfl ?_
          refine am_Rn.op _ (38, [some (.ref 0), some (.int l1), some (.int l2), some (.int l3), none], [.int l1, .ref 0], am_T0 q13) rfl rfl ?_
          obtain ⟨q14, hq14, h⟩ := l2_b h
          refine am_Rn.cl _ none (am_T0 q14) rfl rfl (rfX7_trace (d + 0) N l1 q13 q14 hq14) ?_
          show am_Rn _ _ _ _ (41, [some (.ref 0), some (.int l1), some (.int l2), some (.int l3), none], [], am_T0 q14)
          exact rfX7_taker_41 d N l1 l2 l3 q14 _ h _
      · refine am_Rn.ifF hc ?_
        refine am_Rn.op _ (25, [some (.ref 0), some (.int l1), some (.int l2), some (.int l3), none], [.int (-1)], am_T0 q12.2) rfl rfl ?_
        cases h
        exact am_Rn.rt _ rfl rfl
-- X7_lost
def fX7_lost (N : Nat) (l1 : Int32) (S : St) : Option (Int32 × St) := (fX7_isRoutine N l1 S).bind (fun q1 => (if q1.1 = 0 then some ((-1), q1.2) else (fX7_measure N l1 q1.2).bind (fun q2 => (fX7_trace N l1 q2).bind (fun q3 => (if l1 < 0 ∨ 8 ≤ Int32.toNatClampNeg l1 then none else (fX5_lostKinds N (q3.2 (Int32.toNatClampNeg l1)) q3).bind (fun q5 => some (q5.1, q5.2)))))))
set_option maxRecDepth 20000 in
theorem rfX7_lost (d N : Nat) (l1 : Int32) (S : St) (z : (Int32 × St)) (h : fX7_lost N l1 S = some z) : am_C (d + 8) 93 [.ref 0, .int l1] (am_T0 S) (some (.int z.1), am_T0 z.2) := by
  unfold fX7_lost at h
  show am_Rn (am_C (d + 7)) (am_ct 93) (am_rk 93) (some (.int z.1), am_T0 z.2) (0, [some (.ref 0), some (.int l1)], [], am_T0 S)
  refine am_Rn.op _ (1, [some (.ref 0), some (.int l1)], [.int l1], am_T0 S) rfl rfl ?_
  obtain ⟨q1, hq1, h⟩ := l2_b h
  refine am_Rn.cl _ (some (.int q1.1)) (am_T0 q1.2) rfl rfl (rfX7_isRoutine (d + 6) N l1 S q1 hq1) ?_
  show am_Rn _ _ _ _ (4, [some (.ref 0), some (.int l1)], [.int q1.1], am_T0 q1.2)
  refine am_Rn.op _ (if q1.1 = 0 then 7 else 9, [some (.ref 0), some (.int l1)], [], am_T0 q1.2) rfl rfl ?_
  rcases l2_i h with ⟨hc, h⟩ | ⟨hc, h⟩
  · refine am_Rn.ifT hc ?_
    refine am_Rn.op _ (8, [some (.ref 0), some (.int l1)], [.int (-1)], am_T0 q1.2) rfl rfl ?_
    cases h
    exact am_Rn.rt _ rfl rfl
  · refine am_Rn.ifF hc ?_
    refine am_Rn.op _ (10, [some (.ref 0), some (.int l1)], [.ref 0], am_T0 q1.2) rfl rfl ?_
    refine am_Rn.op _ (11, [some (.ref 0), some (.int l1)], [.int l1, .ref 0], am_T0 q1.2) rfl rfl ?_
    obtain ⟨q2, hq2, h⟩ := l2_b h
    refine am_Rn.cl _ none (am_T0 q2) rfl rfl (rfX7_measure (d + 0) N l1 q1.2 q2 hq2) ?_
    show am_Rn _ _ _ _ (14, [some (.ref 0), some (.int l1)], [], am_T0 q2)
    refine am_Rn.op _ (15, [some (.ref 0), some (.int l1)], [.ref 0], am_T0 q2) rfl rfl ?_
    refine am_Rn.op _ (16, [some (.ref 0), some (.int l1)], [.int l1, .ref 0], am_T0 q2) rfl rfl ?_
    obtain ⟨q3, hq3, h⟩ := l2_b h
    refine am_Rn.cl _ none (am_T0 q3) rfl rfl (rfX7_trace (d + 0) N l1 q2 q3 hq3) ?_
    show am_Rn _ _ _ _ (19, [some (.ref 0), some (.int l1)], [], am_T0 q3)
    refine am_Rn.op _ (20, [some (.ref 0), some (.int l1)], [.ref 0], am_T0 q3) rfl rfl ?_
    refine am_Rn.op _ (23, [some (.ref 0), some (.int l1)], [.ref 16], am_T0 q3) rfl rfl ?_
    refine am_Rn.op _ (24, [some (.ref 0), some (.int l1)], [.int l1, .ref 16], am_T0 q3) rfl rfl ?_
    obtain ⟨hb4, h⟩ := l2_n h
    refine am_Rn.aald rfl hb4 ?_
    show am_Rn _ _ _ _ (25, [some (.ref 0), some (.int l1)], [.ref (TA (q3.2 (Int32.toNatClampNeg l1)))], am_T0 q3)
    obtain ⟨q5, hq5, h⟩ := l2_b h
    refine am_Rn.cl _ (some (.int q5.1)) (am_T0 q5.2) rfl (o_clv rfl rfl rfl (l2_isO (q3.2 (Int32.toNatClampNeg l1)) q3)) (rfX5_lostKinds (d + 6) N (q3.2 (Int32.toNatClampNeg l1)) q3 q5 hq5) ?_
    show am_Rn _ _ _ _ (28, [some (.ref 0), some (.int l1)], [.int q5.1], am_T0 q5.2)
    cases h
    exact am_Rn.rt _ rfl rfl
-- X7_broken
def PfX7_broken_26 (d : Nat) (res : Option Value × am_S) (l1 : Int32) (l2 : Int32) (x : Int32 × Int32 × St) : Prop := am_Rn (am_C d) (am_ct 94) (am_rk 94) res (26, [some (.ref 0), some (.int l1), some (.int l2), some (.int x.1), some (.int x.2.1)], [], am_T0 x.2.2)
def QfX7_broken_26 (d : Nat) (res : Option Value × am_S) (l1 : Int32) (l2 : Int32) (y : (Int32 × St)) : Prop := res = (some (.int y.1), am_T0 y.2)
def fX7_broken_68 (N : Nat) (l1 : Int32) (l2 : Int32) (l3 : Int32) (l4 : Int32) (S : St) : Option ((Int32 × Int32 × St) ⊕ ((Int32 × St))) := some (.inl (l3, (l4 + 1), S))
set_option maxRecDepth 20000 in
theorem rfX7_broken_68 (d N : Nat) (res : Option Value × am_S) (l1 : Int32) (l2 : Int32) (l3 : Int32) (l4 : Int32) (S : St) (z : (Int32 × Int32 × St) ⊕ ((Int32 × St))) (h : fX7_broken_68 N l1 l2 l3 l4 S = some z) (hz : Sum.elim (PfX7_broken_26 (d + 7) res l1 l2 ) (QfX7_broken_26 (d + 7) res l1 l2 ) z) : am_Rn (am_C (d + 7)) (am_ct 94) (am_rk 94) res (68, [some (.ref 0), some (.int l1), some (.int l2), some (.int l3), some (.int l4)], [], am_T0 S) := by
  unfold fX7_broken_68 at h
  refine am_Rn.op _ (71, [some (.ref 0), some (.int l1), some (.int l2), some (.int l3), some (.int (l4 + 1))], [], am_T0 S) rfl rfl ?_
  refine am_Rn.op _ (26, [some (.ref 0), some (.int l1), some (.int l2), some (.int l3), some (.int (l4 + 1))], [], am_T0 S) rfl rfl ?_
  cases h
  exact hz 
def bfX7_broken_26 (N : Nat) (l1 : Int32) (l2 : Int32) (x : Int32 × Int32 × St) : Option ((Int32 × Int32 × St) ⊕ ((Int32 × St))) := (if 6 ≤ x.2.1 then some (.inr (x.1, x.2.2)) else (fX7_has N l2 x.2.1 x.2.2).bind (fun q1 => (if q1.1 = 0 then fX7_broken_68 N l1 l2 x.1 x.2.1 q1.2 else (fX1_above N x.2.1 q1.2).bind (fun q2 => (if l1 < 0 ∨ 8 ≤ Int32.toNatClampNeg l1 then none else (if (q2.1 &&& (q2.2.1 17 (Int32.toNatClampNeg l1))) = 0 then fX7_broken_68 N l1 l2 (x.1 ||| (1 <<< (x.2.1 &&& 31))) x.2.1 q2.2 else fX7_broken_68 N l1 l2 x.1 x.2.1 q2.2))))))
def fX7_broken_26 (N : Nat) (l1 : Int32) (l2 : Int32) (x : Int32 × Int32 × St) : Option ((Int32 × St)) := whl N (bfX7_broken_26 N l1 l2 ) x
set_option maxRecDepth 20000 in
theorem rbfX7_broken_26 (d N : Nat) (res : Option Value × am_S) (l1 : Int32) (l2 : Int32) (x : Int32 × Int32 × St) (z : (Int32 × Int32 × St) ⊕ ((Int32 × St))) (h : bfX7_broken_26 N l1 l2 x = some z) (hz : Sum.elim (PfX7_broken_26 (d + 7) res l1 l2 ) (QfX7_broken_26 (d + 7) res l1 l2 ) z) : PfX7_broken_26 (d + 7) res l1 l2 x := by
  unfold bfX7_broken_26 at h
  show am_Rn (am_C (d + 7)) (am_ct 94) (am_rk 94) res (26, [some (.ref 0), some (.int l1), some (.int l2), some (.int x.1), some (.int x.2.1)], [], am_T0 x.2.2)
  refine am_Rn.op _ (28, [some (.ref 0), some (.int l1), some (.int l2), some (.int x.1), some (.int x.2.1)], [.int x.2.1], am_T0 x.2.2) rfl rfl ?_
  refine am_Rn.op _ (30, [some (.ref 0), some (.int l1), some (.int l2), some (.int x.1), some (.int x.2.1)], [.int 6, .int x.2.1], am_T0 x.2.2) rfl rfl ?_
  refine am_Rn.op _ (if 6 ≤ x.2.1 then 74 else 33, [some (.ref 0), some (.int l1), some (.int l2), some (.int x.1), some (.int x.2.1)], [], am_T0 x.2.2) rfl rfl ?_
  rcases l2_i h with ⟨hc, h⟩ | ⟨hc, h⟩
  · refine am_Rn.ifT hc ?_
    refine am_Rn.op _ (75, [some (.ref 0), some (.int l1), some (.int l2), some (.int x.1), some (.int x.2.1)], [.int x.1], am_T0 x.2.2) rfl rfl ?_
    cases h
    exact am_Rn.rt2 _ rfl rfl hz
  · refine am_Rn.ifF hc ?_
    refine am_Rn.op _ (34, [some (.ref 0), some (.int l1), some (.int l2), some (.int x.1), some (.int x.2.1)], [.int l2], am_T0 x.2.2) rfl rfl ?_
    refine am_Rn.op _ (36, [some (.ref 0), some (.int l1), some (.int l2), some (.int x.1), some (.int x.2.1)], [.int x.2.1, .int l2], am_T0 x.2.2) rfl rfl ?_
    obtain ⟨q1, hq1, h⟩ := l2_b h
    refine am_Rn.cl _ (some (.int q1.1)) (am_T0 q1.2) rfl rfl (rfX7_has (d + 6) N l2 x.2.1 x.2.2 q1 hq1) ?_
    show am_Rn _ _ _ _ (39, [some (.ref 0), some (.int l1), some (.int l2), some (.int x.1), some (.int x.2.1)], [.int q1.1], am_T0 q1.2)
    refine am_Rn.op _ (if q1.1 = 0 then 68 else 42, [some (.ref 0), some (.int l1), some (.int l2), some (.int x.1), some (.int x.2.1)], [], am_T0 q1.2) rfl rfl ?_
    rcases l2_i h with ⟨hc, h⟩ | ⟨hc, h⟩
    · refine am_Rn.ifT hc ?_
      exact rfX7_broken_68 d N _ l1 l2 x.1 x.2.1 q1.2 _ h hz 
    · refine am_Rn.ifF hc ?_
      refine am_Rn.op _ (43, [some (.ref 0), some (.int l1), some (.int l2), some (.int x.1), some (.int x.2.1)], [.ref 0], am_T0 q1.2) rfl rfl ?_
      refine am_Rn.op _ (46, [some (.ref 0), some (.int l1), some (.int l2), some (.int x.1), some (.int x.2.1)], [.ref 13], am_T0 q1.2) rfl rfl ?_
      refine am_Rn.op _ (48, [some (.ref 0), some (.int l1), some (.int l2), some (.int x.1), some (.int x.2.1)], [.int x.2.1, .ref 13], am_T0 q1.2) rfl rfl ?_
      obtain ⟨q2, hq2, h⟩ := l2_b h
      refine am_Rn.cl _ (some (.int q2.1)) (am_T0 q2.2) rfl rfl (rfX1_above (d + 5) N x.2.1 q1.2 q2 hq2) ?_
      show am_Rn _ _ _ _ (51, [some (.ref 0), some (.int l1), some (.int l2), some (.int x.1), some (.int x.2.1)], [.int q2.1], am_T0 q2.2)
      refine am_Rn.op _ (52, [some (.ref 0), some (.int l1), some (.int l2), some (.int x.1), some (.int x.2.1)], [.ref 0, .int q2.1], am_T0 q2.2) rfl rfl ?_
      refine am_Rn.op _ (55, [some (.ref 0), some (.int l1), some (.int l2), some (.int x.1), some (.int x.2.1)], [.ref 17, .int q2.1], am_T0 q2.2) rfl rfl ?_
      refine am_Rn.op _ (56, [some (.ref 0), some (.int l1), some (.int l2), some (.int x.1), some (.int x.2.1)], [.int l1, .ref 17, .int q2.1], am_T0 q2.2) rfl rfl ?_
      obtain ⟨hb3, h⟩ := l2_n h
      refine am_Rn.iald (n := 8) rfl rfl hb3 ?_
      show am_Rn _ _ _ _ (57, [some (.ref 0), some (.int l1), some (.int l2), some (.int x.1), some (.int x.2.1)], [.int (q2.2.1 17 (Int32.toNatClampNeg l1)), .int q2.1], am_T0 q2.2)
      refine am_Rn.op _ (58, [some (.ref 0), some (.int l1), some (.int l2), some (.int x.1), some (.int x.2.1)], [.int (q2.1 &&& (q2.2.1 17 (Int32.toNatClampNeg l1)))], am_T0 q2.2) rfl rfl ?_
      refine am_Rn.op _ (if (q2.1 &&& (q2.2.1 17 (Int32.toNatClampNeg l1))) = 0 then 61 else 68, [some (.ref 0), some (.int l1), some (.int l2), some (.int x.1), some (.int x.2.1)], [], am_T0 q2.2) rfl rfl ?_
      rcases l2_i h with ⟨hc, h⟩ | ⟨hc, h⟩
      · refine am_Rn.ifT hc ?_
        refine am_Rn.op _ (62, [some (.ref 0), some (.int l1), some (.int l2), some (.int x.1), some (.int x.2.1)], [.int x.1], am_T0 q2.2) rfl rfl ?_
        refine am_Rn.op _ (63, [some (.ref 0), some (.int l1), some (.int l2), some (.int x.1), some (.int x.2.1)], [.int 1, .int x.1], am_T0 q2.2) rfl rfl ?_
        refine am_Rn.op _ (65, [some (.ref 0), some (.int l1), some (.int l2), some (.int x.1), some (.int x.2.1)], [.int x.2.1, .int 1, .int x.1], am_T0 q2.2) rfl rfl ?_
        refine am_Rn.op _ (66, [some (.ref 0), some (.int l1), some (.int l2), some (.int x.1), some (.int x.2.1)], [.int (1 <<< (x.2.1 &&& 31)), .int x.1], am_T0 q2.2) rfl rfl ?_
        refine am_Rn.op _ (67, [some (.ref 0), some (.int l1), some (.int l2), some (.int x.1), some (.int x.2.1)], [.int (x.1 ||| (1 <<< (x.2.1 &&& 31)))], am_T0 q2.2) rfl rfl ?_
        refine am_Rn.op _ (68, [some (.ref 0), some (.int l1), some (.int l2), some (.int (x.1 ||| (1 <<< (x.2.1 &&& 31)))), some (.int x.2.1)], [], am_T0 q2.2) rfl rfl ?_
        exact rfX7_broken_68 d N _ l1 l2 (x.1 ||| (1 <<< (x.2.1 &&& 31))) x.2.1 q2.2 _ h hz 
      · refine am_Rn.ifF hc ?_
        exact rfX7_broken_68 d N _ l1 l2 x.1 x.2.1 q2.2 _ h hz 
theorem rfX7_broken_26 (d N : Nat) (res : Option Value × am_S) (l1 : Int32) (l2 : Int32) (x : Int32 × Int32 × St) (y : (Int32 × St)) (h : fX7_broken_26 N l1 l2 x = some y) (hq : QfX7_broken_26 (d + 7) res l1 l2 y) : PfX7_broken_26 (d + 7) res l1 l2 x := whl_ind _ _ (fun x z => rbfX7_broken_26 d N res l1 l2 x z) N x y h hq
def fX7_broken (N : Nat) (l1 : Int32) (S : St) : Option (Int32 × St) := (fX7_isRoutine N l1 S).bind (fun q4 => (if q4.1 = 0 then some ((-1), q4.2) else (fX7_measure N l1 q4.2).bind (fun q5 => (fX7_leavingKinds N l1 0 q5).bind (fun q6 => (fX7_broken_26 N l1 q6.1 (0, 0, q6.2)).bind (fun y7 => some (y7.1, y7.2))))))
set_option maxRecDepth 20000 in
theorem rfX7_broken (d N : Nat) (l1 : Int32) (S : St) (z : (Int32 × St)) (h : fX7_broken N l1 S = some z) : am_C (d + 8) 94 [.ref 0, .int l1] (am_T0 S) (some (.int z.1), am_T0 z.2) := by
  unfold fX7_broken at h
  show am_Rn (am_C (d + 7)) (am_ct 94) (am_rk 94) (some (.int z.1), am_T0 z.2) (0, [some (.ref 0), some (.int l1), none, none, none], [], am_T0 S)
  refine am_Rn.op _ (1, [some (.ref 0), some (.int l1), none, none, none], [.int l1], am_T0 S) rfl rfl ?_
  obtain ⟨q4, hq4, h⟩ := l2_b h
  refine am_Rn.cl _ (some (.int q4.1)) (am_T0 q4.2) rfl rfl (rfX7_isRoutine (d + 6) N l1 S q4 hq4) ?_
  show am_Rn _ _ _ _ (4, [some (.ref 0), some (.int l1), none, none, none], [.int q4.1], am_T0 q4.2)
  refine am_Rn.op _ (if q4.1 = 0 then 7 else 9, [some (.ref 0), some (.int l1), none, none, none], [], am_T0 q4.2) rfl rfl ?_
  rcases l2_i h with ⟨hc, h⟩ | ⟨hc, h⟩
  · refine am_Rn.ifT hc ?_
    refine am_Rn.op _ (8, [some (.ref 0), some (.int l1), none, none, none], [.int (-1)], am_T0 q4.2) rfl rfl ?_
    cases h
    exact am_Rn.rt _ rfl rfl
  · refine am_Rn.ifF hc ?_
    refine am_Rn.op _ (10, [some (.ref 0), some (.int l1), none, none, none], [.ref 0], am_T0 q4.2) rfl rfl ?_
    refine am_Rn.op _ (11, [some (.ref 0), some (.int l1), none, none, none], [.int l1, .ref 0], am_T0 q4.2) rfl rfl ?_
    obtain ⟨q5, hq5, h⟩ := l2_b h
    refine am_Rn.cl _ none (am_T0 q5) rfl rfl (rfX7_measure (d + 0) N l1 q4.2 q5 hq5) ?_
    show am_Rn _ _ _ _ (14, [some (.ref 0), some (.int l1), none, none, none], [], am_T0 q5)
    refine am_Rn.op _ (15, [some (.ref 0), some (.int l1), none, none, none], [.ref 0], am_T0 q5) rfl rfl ?_
    refine am_Rn.op _ (16, [some (.ref 0), some (.int l1), none, none, none], [.int l1, .ref 0], am_T0 q5) rfl rfl ?_
    refine am_Rn.op _ (17, [some (.ref 0), some (.int l1), none, none, none], [.int 0, .int l1, .ref 0], am_T0 q5) rfl rfl ?_
    obtain ⟨q6, hq6, h⟩ := l2_b h
    refine am_Rn.cl _ (some (.int q6.1)) (am_T0 q6.2) rfl rfl (rfX7_leavingKinds (d + 2) N l1 0 q5 q6 hq6) ?_
    show am_Rn _ _ _ _ (20, [some (.ref 0), some (.int l1), none, none, none], [.int q6.1], am_T0 q6.2)
    refine am_Rn.op _ (21, [some (.ref 0), some (.int l1), some (.int q6.1), none, none], [], am_T0 q6.2) rfl rfl ?_
    refine am_Rn.op _ (22, [some (.ref 0), some (.int l1), some (.int q6.1), none, none], [.int 0], am_T0 q6.2) rfl rfl ?_
    refine am_Rn.op _ (23, [some (.ref 0), some (.int l1), some (.int q6.1), some (.int 0), none], [], am_T0 q6.2) rfl rfl ?_
    refine am_Rn.op _ (24, [some (.ref 0), some (.int l1), some (.int q6.1), some (.int 0), none], [.int 0], am_T0 q6.2) rfl rfl ?_
    refine am_Rn.op _ (26, [some (.ref 0), some (.int l1), some (.int q6.1), some (.int 0), some (.int 0)], [], am_T0 q6.2) rfl rfl ?_
    obtain ⟨y7, hy7, h⟩ := l2_b h
    refine rfX7_broken_26 d N _ l1 q6.1 (0, 0, q6.2) y7 hy7 ?_ 
    cases h
    exact rfl
