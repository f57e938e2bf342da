-- X8_takes
def PfX8_takes_58 (d : Nat) (res : Option Value × am_S) (l1 : Int32) (l2 : Int32) (l3 : Int32) (l4 : Int32) (l5 : Int32) (x : Int32 × St) : Prop := ∀ (w7 : Option Value), am_Rn (am_C d) (am_ct 142) (am_rk 142) res (58, [some (.ref 128), some (.int l1), some (.int l2), some (.int l3), some (.int l4), some (.int l5), some (.int x.1), w7], [], am_T0 x.2)
def QfX8_takes_58 (d : Nat) (res : Option Value × am_S) (l1 : Int32) (l2 : Int32) (l3 : Int32) (l4 : Int32) (l5 : Int32) (y : St) : Prop := res = (none, am_T0 y)
def PfX8_takes_68 (d : Nat) (res : Option Value × am_S) (l1 : Int32) (l2 : Int32) (l3 : Int32) (l4 : Int32) (l5 : Int32) (l6 : Int32) (x : Int32 × St) : Prop := am_Rn (am_C d) (am_ct 142) (am_rk 142) res (68, [some (.ref 128), some (.int l1), some (.int l2), some (.int l3), some (.int l4), some (.int l5), some (.int l6), some (.int x.1)], [], am_T0 x.2)
def QfX8_takes_68 (d : Nat) (res : Option Value × am_S) (l1 : Int32) (l2 : Int32) (l3 : Int32) (l4 : Int32) (l5 : Int32) (l6 : Int32) (y : St) : Prop := ∀ (w7 : Option Value), am_Rn (am_C d) (am_ct 142) (am_rk 142) res (110, [some (.ref 128), some (.int l1), some (.int l2), some (.int l3), some (.int l4), some (.int l5), some (.int l6), w7], [], am_T0 y)
def bfX8_takes_68 (N : Nat) (l1 : Int32) (l2 : Int32) (l3 : Int32) (l4 : Int32) (l5 : Int32) (l6 : Int32) (x : Int32 × St) : Option ((Int32 × St) ⊕ (St)) := (if 4 ≤ x.1 then some (.inr (x.2)) else (fX8_allOf N l1 (l2 + 2) (l3 + 1) l4 l6 x.1 x.2).bind (fun q1 => (fX8_sum N l5 q1.1 q1.2).bind (fun q2 => (fX8_putsMid N l6 x.1 q2.1 q2.2).bind (fun q3 => some (.inl ((x.1 + 1), q3))))))
def fX8_takes_68 (N : Nat) (l1 : Int32) (l2 : Int32) (l3 : Int32) (l4 : Int32) (l5 : Int32) (l6 : Int32) (x : Int32 × St) : Option (St) := whl N (bfX8_takes_68 N l1 l2 l3 l4 l5 l6 ) x
set_option maxRecDepth 20000 in
theorem rbfX8_takes_68 (d N : Nat) (res : Option Value × am_S) (l1 : Int32) (l2 : Int32) (l3 : Int32) (l4 : Int32) (l5 : Int32) (l6 : Int32) (x : Int32 × St) (z : (Int32 × St) ⊕ (St)) (h : bfX8_takes_68 N l1 l2 l3 l4 l5 l6 x = some z) (hz : Sum.elim (PfX8_takes_68 (d + 2) res l1 l2 l3 l4 l5 l6 ) (QfX8_takes_68 (d + 2) res l1 l2 l3 l4 l5 l6 ) z) : PfX8_takes_68 (d + 2) res l1 l2 l3 l4 l5 l6 x := by
  unfold bfX8_takes_68 at h
  show am_Rn (am_C (d + 2)) (am_ct 142) (am_rk 142) res (68, [some (.ref 128), some (.int l1), some (.int l2), some (.int l3), some (.int l4), some (.int l5), some (.int l6), some (.int x.1)], [], am_T0 x.2)
  refine am_Rn.op _ (70, [some (.ref 128), some (.int l1), some (.int l2), some (.int l3), some (.int l4), some (.int l5), some (.int l6), some (.int x.1)], [.int x.1], am_T0 x.2) rfl rfl ?_
  refine am_Rn.op _ (71, [some (.ref 128), some (.int l1), some (.int l2), some (.int l3), some (.int l4), some (.int l5), some (.int l6), some (.int x.1)], [.int 4, .int x.1], am_T0 x.2) rfl rfl ?_
  refine am_Rn.op _ (if 4 ≤ x.1 then 110 else 74, [some (.ref 128), some (.int l1), some (.int l2), some (.int l3), some (.int l4), some (.int l5), some (.int l6), some (.int x.1)], [], am_T0 x.2) rfl rfl ?_
  rcases l2_i h with ⟨hc, h⟩ | ⟨hc, h⟩
  · refine am_Rn.ifT hc ?_
    cases h
    exact hz _
  · refine am_Rn.ifF hc ?_
    refine am_Rn.op _ (75, [some (.ref 128), some (.int l1), some (.int l2), some (.int l3), some (.int l4), some (.int l5), some (.int l6), some (.int x.1)], [.ref 128], am_T0 x.2) rfl rfl ?_
    refine am_Rn.op _ (77, [some (.ref 128), some (.int l1), some (.int l2), some (.int l3), some (.int l4), some (.int l5), some (.int l6), some (.int x.1)], [.int l6, .ref 128], am_T0 x.2) rfl rfl ?_
    refine am_Rn.op _ (79, [some (.ref 128), some (.int l1), some (.int l2), some (.int l3), some (.int l4), some (.int l5), some (.int l6), some (.int x.1)], [.int x.1, .int l6, .ref 128], am_T0 x.2) rfl rfl ?_
    refine am_Rn.op _ (81, [some (.ref 128), some (.int l1), some (.int l2), some (.int l3), some (.int l4), some (.int l5), some (.int l6), some (.int x.1)], [.int l5, .int x.1, .int l6, .ref 128], am_T0 x.2) rfl rfl ?_
    refine am_Rn.op _ (82, [some (.ref 128), some (.int l1), some (.int l2), some (.int l3), some (.int l4), some (.int l5), some (.int l6), some (.int x.1)], [.ref 128, .int l5, .int x.1, .int l6, .ref 128], am_T0 x.2) rfl rfl ?_
    refine am_Rn.op _ (83, [some (.ref 128), some (.int l1), some (.int l2), some (.int l3), some (.int l4), some (.int l5), some (.int l6), some (.int x.1)], [.int l1, .ref 128, .int l5, .int x.1, .int l6, .ref 128], am_T0 x.2) rfl rfl ?_
    refine am_Rn.op _ (84, [some (.ref 128), some (.int l1), some (.int l2), some (.int l3), some (.int l4), some (.int l5), some (.int l6), some (.int x.1)], [.int l2, .int l1, .ref 128, .int l5, .int x.1, .int l6, .ref 128], am_T0 x.2) rfl rfl ?_
    refine am_Rn.op _ (85, [some (.ref 128), some (.int l1), some (.int l2), some (.int l3), some (.int l4), some (.int l5), some (.int l6), some (.int x.1)], [.int 2, .int l2, .int l1, .ref 128, .int l5, .int x.1, .int l6, .ref 128], am_T0 x.2) rfl rfl ?_
    refine am_Rn.op _ (86, [some (.ref 128), some (.int l1), some (.int l2), some (.int l3), some (.int l4), some (.int l5), some (.int l6), some (.int x.1)], [.int (l2 + 2), .int l1, .ref 128, .int l5, .int x.1, .int l6, .ref 128], am_T0 x.2) rfl rfl ?_
    refine am_Rn.op _ (87, [some (.ref 128), some (.int l1), some (.int l2), some (.int l3), some (.int l4), some (.int l5), some (.int l6), some (.int x.1)], [.int l3, .int (l2 + 2), .int l1, .ref 128, .int l5, .int x.1, .int l6, .ref 128], am_T0 x.2) rfl rfl ?_
    refine am_Rn.op _ (88, [some (.ref 128), some (.int l1), some (.int l2), some (.int l3), some (.int l4), some (.int l5), some (.int l6), some (.int x.1)], [.int 1, .int l3, .int (l2 + 2), .int l1, .ref 128, .int l5, .int x.1, .int l6, .ref 128], am_T0 x.2) rfl rfl ?_
    refine am_Rn.op _ (89, [some (.ref 128), some (.int l1), some (.int l2), some (.int l3), some (.int l4), some (.int l5), some (.int l6), some (.int x.1)], [.int (l3 + 1), .int (l2 + 2), .int l1, .ref 128, .int l5, .int x.1, .int l6, .ref 128], am_T0 x.2) rfl rfl ?_
    refine am_Rn.op _ (91, [some (.ref 128), some (.int l1), some (.int l2), some (.int l3), some (.int l4), some (.int l5), some (.int l6), some (.int x.1)], [.int l4, .int (l3 + 1), .int (l2 + 2), .int l1, .ref 128, .int l5, .int x.1, .int l6, .ref 128], am_T0 x.2) rfl rfl ?_
    refine am_Rn.op _ (93, [some (.ref 128), some (.int l1), some (.int l2), some (.int l3), some (.int l4), some (.int l5), some (.int l6), some (.int x.1)], [.int l6, .int l4, .int (l3 + 1), .int (l2 + 2), .int l1, .ref 128, .int l5, .int x.1, .int l6, .ref 128], am_T0 x.2) rfl rfl ?_
    refine am_Rn.op _ (95, [some (.ref 128), some (.int l1), some (.int l2), some (.int l3), some (.int l4), some (.int l5), some (.int l6), some (.int x.1)], [.int x.1, .int l6, .int l4, .int (l3 + 1), .int (l2 + 2), .int l1, .ref 128, .int l5, .int x.1, .int l6, .ref 128], am_T0 x.2) rfl rfl ?_
    obtain ⟨q1, hq1, h⟩ := l2_b h
    refine am_Rn.cl _ (some (.int q1.1)) (am_T0 q1.2) rfl rfl (rfX8_allOf (d + 0) N l1 (l2 + 2) (l3 + 1) l4 l6 x.1 x.2 q1 hq1) ?_
    show am_Rn _ _ _ _ (98, [some (.ref 128), some (.int l1), some (.int l2), some (.int l3), some (.int l4), some (.int l5), some (.int l6), some (.int x.1)], [.int q1.1, .int l5, .int x.1, .int l6, .ref 128], am_T0 q1.2)
    obtain ⟨q2, hq2, h⟩ := l2_b h
    refine am_Rn.cl _ (some (.int q2.1)) (am_T0 q2.2) rfl rfl (rfX8_sum (d + 0) N l5 q1.1 q1.2 q2 hq2) ?_
    show am_Rn _ _ _ _ (101, [some (.ref 128), some (.int l1), some (.int l2), some (.int l3), some (.int l4), some (.int l5), some (.int l6), some (.int x.1)], [.int q2.1, .int x.1, .int l6, .ref 128], am_T0 q2.2)
    obtain ⟨q3, hq3, h⟩ := l2_b h
    refine am_Rn.cl _ none (am_T0 q3) rfl rfl (rfX8_putsMid (d + 0) N l6 x.1 q2.1 q2.2 q3 hq3) ?_
    show am_Rn _ _ _ _ (104, [some (.ref 128), some (.int l1), some (.int l2), some (.int l3), some (.int l4), some (.int l5), some (.int l6), some (.int x.1)], [], am_T0 q3)
    refine am_Rn.op _ (107, [some (.ref 128), some (.int l1), some (.int l2), some (.int l3), some (.int l4), some (.int l5), some (.int l6), some (.int (x.1 + 1))], [], am_T0 q3) rfl rfl ?_
    refine am_Rn.op _ (68, [some (.ref 128), some (.int l1), some (.int l2), some (.int l3), some (.int l4), some (.int l5), some (.int l6), some (.int (x.1 + 1))], [], am_T0 q3) rfl rfl ?_
    cases h
    exact hz 
theorem rfX8_takes_68 (d N : Nat) (res : Option Value × am_S) (l1 : Int32) (l2 : Int32) (l3 : Int32) (l4 : Int32) (l5 : Int32) (l6 : Int32) (x : Int32 × St) (y : St) (h : fX8_takes_68 N l1 l2 l3 l4 l5 l6 x = some y) (hq : QfX8_takes_68 (d + 2) res l1 l2 l3 l4 l5 l6 y) : PfX8_takes_68 (d + 2) res l1 l2 l3 l4 l5 l6 x := whl_ind _ _ (fun x z => rbfX8_takes_68 d N res l1 l2 l3 l4 l5 l6 x z) N x y h hq
def bfX8_takes_58 (N : Nat) (l1 : Int32) (l2 : Int32) (l3 : Int32) (l4 : Int32) (l5 : Int32) (x : Int32 × St) : Option ((Int32 × St) ⊕ (St)) := (if 8 ≤ x.1 then some (.inr x.2) else (fX8_takes_68 N l1 l2 l3 l4 l5 x.1 (0, x.2)).bind (fun y4 => some (.inl ((x.1 + 1), y4))))
def fX8_takes_58 (N : Nat) (l1 : Int32) (l2 : Int32) (l3 : Int32) (l4 : Int32) (l5 : Int32) (x : Int32 × St) : Option (St) := whl N (bfX8_takes_58 N l1 l2 l3 l4 l5 ) x
set_option maxRecDepth 20000 in
theorem rbfX8_takes_58 (d N : Nat) (res : Option Value × am_S) (l1 : Int32) (l2 : Int32) (l3 : Int32) (l4 : Int32) (l5 : Int32) (x : Int32 × St) (z : (Int32 × St) ⊕ (St)) (h : bfX8_takes_58 N l1 l2 l3 l4 l5 x = some z) (hz : Sum.elim (PfX8_takes_58 (d + 2) res l1 l2 l3 l4 l5 ) (QfX8_takes_58 (d + 2) res l1 l2 l3 l4 l5 ) z) : PfX8_takes_58 (d + 2) res l1 l2 l3 l4 l5 x := by
  unfold bfX8_takes_58 at h
  show ∀ (w7 : Option Value), am_Rn (am_C (d + 2)) (am_ct 142) (am_rk 142) res (58, [some (.ref 128), some (.int l1), some (.int l2), some (.int l3), some (.int l4), some (.int l5), some (.int x.1), w7], [], am_T0 x.2)
  intro w7
  refine am_Rn.op _ (60, [some (.ref 128), some (.int l1), some (.int l2), some (.int l3), some (.int l4), some (.int l5), some (.int x.1), w7], [.int x.1], am_T0 x.2) rfl rfl ?_
  refine am_Rn.op _ (62, [some (.ref 128), some (.int l1), some (.int l2), some (.int l3), some (.int l4), some (.int l5), some (.int x.1), w7], [.int 8, .int x.1], am_T0 x.2) rfl rfl ?_
  refine am_Rn.op _ (if 8 ≤ x.1 then 116 else 65, [some (.ref 128), some (.int l1), some (.int l2), some (.int l3), some (.int l4), some (.int l5), some (.int x.1), w7], [], am_T0 x.2) rfl rfl ?_
  rcases l2_i h with ⟨hc, h⟩ | ⟨hc, h⟩
  · refine am_Rn.ifT hc ?_
    cases h
    exact am_Rn.rt2 _ rfl rfl hz
  · refine am_Rn.ifF hc ?_
    refine am_Rn.op _ (66, [some (.ref 128), some (.int l1), some (.int l2), some (.int l3), some (.int l4), some (.int l5), some (.int x.1), w7], [.int 0], am_T0 x.2) rfl rfl ?_
    refine am_Rn.op _ (68, [some (.ref 128), some (.int l1), some (.int l2), some (.int l3), some (.int l4), some (.int l5), some (.int x.1), some (.int 0)], [], am_T0 x.2) rfl rfl ?_
    obtain ⟨y4, hy4, h⟩ := l2_b h
    refine rfX8_takes_68 d N _ l1 l2 l3 l4 l5 x.1 (0, x.2) y4 hy4 ?_ 
    intro w5
    show am_Rn _ _ _ _ (110, [some (.ref 128), some (.int l1), some (.int l2), some (.int l3), some (.int l4), some (.int l5), some (.int x.1), w5], [], am_T0 y4)
    refine am_Rn.op _ (113, [some (.ref 128), some (.int l1), some (.int l2), some (.int l3), some (.int l4), some (.int l5), some (.int (x.1 + 1)), w5], [], am_T0 y4) rfl rfl ?_
    refine am_Rn.op _ (58, [some (.ref 128), some (.int l1), some (.int l2), some (.int l3), some (.int l4), some (.int l5), some (.int (x.1 + 1)), w5], [], am_T0 y4) rfl rfl ?_
    cases h
    exact hz _
theorem rfX8_takes_58 (d N : Nat) (res : Option Value × am_S) (l1 : Int32) (l2 : Int32) (l3 : Int32) (l4 : Int32) (l5 : Int32) (x : Int32 × St) (y : St) (h : fX8_takes_58 N l1 l2 l3 l4 l5 x = some y) (hq : QfX8_takes_58 (d + 2) res l1 l2 l3 l4 l5 y) : PfX8_takes_58 (d + 2) res l1 l2 l3 l4 l5 x := whl_ind _ _ (fun x z => rbfX8_takes_58 d N res l1 l2 l3 l4 l5 x z) N x y h hq
def fX8_takes_52 (N : Nat) (l1 : Int32) (l2 : Int32) (l3 : Int32) (l4 : Int32) (l5 : Int32) (s1 : Int32) (S : St) : Option St := (if s1 = 0 ∨ s1 = 1 then (fX8_takes_58 N l1 l2 l3 l4 l5 (0, (st_i S 128 23 s1))).bind (fun y7 => some y7) else none)
set_option maxRecDepth 20000 in
theorem rfX8_takes_52 (d N : Nat) (l1 : Int32) (l2 : Int32) (l3 : Int32) (l4 : Int32) (l5 : Int32) (s1 : Int32) (S : St) (z : St) (h : fX8_takes_52 N l1 l2 l3 l4 l5 s1 S = some z) (w6 : Option Value) (w7 : Option Value) : am_Rn (am_C (d + 2)) (am_ct 142) (am_rk 142) (none, am_T0 z) (52, [some (.ref 128), some (.int l1), some (.int l2), some (.int l3), some (.int l4), some (.int l5), w6, w7], [.int s1, .ref 128], am_T0 S) := by
  unfold fX8_takes_52 at h
  obtain ⟨hb6, h⟩ := l2_y h
  refine am_Rn.putf rfl rfl (l2_bool hb6) ?_
  show am_Rn _ _ _ _ (55, [some (.ref 128), some (.int l1), some (.int l2), some (.int l3), some (.int l4), some (.int l5), w6, w7], [], am_T0 (st_i S 128 23 s1))
  refine am_Rn.op _ (56, [some (.ref 128), some (.int l1), some (.int l2), some (.int l3), some (.int l4), some (.int l5), w6, w7], [.int 0], am_T0 (st_i S 128 23 s1)) rfl rfl ?_
  refine am_Rn.op _ (58, [some (.ref 128), some (.int l1), some (.int l2), some (.int l3), some (.int l4), some (.int l5), some (.int 0), w7], [], am_T0 (st_i S 128 23 s1)) rfl rfl ?_
  obtain ⟨y7, hy7, h⟩ := l2_b h
  refine rfX8_takes_58 d N _ l1 l2 l3 l4 l5 (0, (st_i S 128 23 s1)) y7 hy7 ?_ _
  cases h
  exact rfl
def fX8_takes_47 (N : Nat) (l1 : Int32) (l2 : Int32) (l3 : Int32) (l4 : Int32) (l5 : Int32) (S : St) : Option St := fX8_takes_52 N l1 l2 l3 l4 l5 1 S
set_option maxRecDepth 20000 in
theorem rfX8_takes_47 (d N : Nat) (l1 : Int32) (l2 : Int32) (l3 : Int32) (l4 : Int32) (l5 : Int32) (S : St) (z : St) (h : fX8_takes_47 N l1 l2 l3 l4 l5 S = some z) (w6 : Option Value) (w7 : Option Value) : am_Rn (am_C (d + 2)) (am_ct 142) (am_rk 142) (none, am_T0 z) (47, [some (.ref 128), some (.int l1), some (.int l2), some (.int l3), some (.int l4), some (.int l5), w6, w7], [.ref 128], am_T0 S) := by
  unfold fX8_takes_47 at h
  refine am_Rn.op _ (48, [some (.ref 128), some (.int l1), some (.int l2), some (.int l3), some (.int l4), some (.int l5), w6, w7], [.int 1, .ref 128], am_T0 S) rfl rfl ?_
  refine am_Rn.op _ (52, [some (.ref 128), some (.int l1), some (.int l2), some (.int l3), some (.int l4), some (.int l5), w6, w7], [.int 1, .ref 128], am_T0 S) rfl rfl ?_
  exact rfX8_takes_52 d N l1 l2 l3 l4 l5 1 S _ h _ _
def fX8_takes_32 (N : Nat) (l1 : Int32) (l2 : Int32) (l3 : Int32) (l4 : Int32) (l5 : Int32) (S : St) : Option St := (fX8_metOf N (l2 + 2) (l3 + 1) l4 S).bind (fun q8 => (if q8.1 = 0 then fX8_takes_52 N l1 l2 l3 l4 l5 0 q8.2 else fX8_takes_47 N l1 l2 l3 l4 l5 q8.2))
set_option maxRecDepth 20000 in
theorem rfX8_takes_32 (d N : Nat) (l1 : Int32) (l2 : Int32) (l3 : Int32) (l4 : Int32) (l5 : Int32) (S : St) (z : St) (h : fX8_takes_32 N l1 l2 l3 l4 l5 S = some z) (w6 : Option Value) (w7 : Option Value) : am_Rn (am_C (d + 2)) (am_ct 142) (am_rk 142) (none, am_T0 z) (32, [some (.ref 128), some (.int l1), some (.int l2), some (.int l3), some (.int l4), some (.int l5), w6, w7], [.ref 128], am_T0 S) := by
  unfold fX8_takes_32 at h
  refine am_Rn.op _ (33, [some (.ref 128), some (.int l1), some (.int l2), some (.int l3), some (.int l4), some (.int l5), w6, w7], [.ref 128, .ref 128], am_T0 S) rfl rfl ?_
  refine am_Rn.op _ (34, [some (.ref 128), some (.int l1), some (.int l2), some (.int l3), some (.int l4), some (.int l5), w6, w7], [.int l2, .ref 128, .ref 128], am_T0 S) rfl rfl ?_
  refine am_Rn.op _ (35, [some (.ref 128), some (.int l1), some (.int l2), some (.int l3), some (.int l4), some (.int l5), w6, w7], [.int 2, .int l2, .ref 128, .ref 128], am_T0 S) rfl rfl ?_
  refine am_Rn.op _ (36, [some (.ref 128), some (.int l1), some (.int l2), some (.int l3), some (.int l4), some (.int l5), w6, w7], [.int (l2 + 2), .ref 128, .ref 128], am_T0 S) rfl rfl ?_
  refine am_Rn.op _ (37, [some (.ref 128), some (.int l1), some (.int l2), some (.int l3), some (.int l4), some (.int l5), w6, w7], [.int l3, .int (l2 + 2), .ref 128, .ref 128], am_T0 S) rfl rfl ?_
  refine am_Rn.op _ (38, [some (.ref 128), some (.int l1), some (.int l2), some (.int l3), some (.int l4), some (.int l5), w6, w7], [.int 1, .int l3, .int (l2 + 2), .ref 128, .ref 128], am_T0 S) rfl rfl ?_
  refine am_Rn.op _ (39, [some (.ref 128), some (.int l1), some (.int l2), some (.int l3), some (.int l4), some (.int l5), w6, w7], [.int (l3 + 1), .int (l2 + 2), .ref 128, .ref 128], am_T0 S) rfl rfl ?_
  refine am_Rn.op _ (41, [some (.ref 128), some (.int l1), some (.int l2), some (.int l3), some (.int l4), some (.int l5), w6, w7], [.int l4, .int (l3 + 1), .int (l2 + 2), .ref 128, .ref 128], am_T0 S) rfl rfl ?_
  obtain ⟨q8, hq8, h⟩ := l2_b h
  refine am_Rn.cl _ (some (.int q8.1)) (am_T0 q8.2) rfl rfl (rfX8_metOf (d + 1) N (l2 + 2) (l3 + 1) l4 S q8 hq8) ?_
  show am_Rn _ _ _ _ (44, [some (.ref 128), some (.int l1), some (.int l2), some (.int l3), some (.int l4), some (.int l5), w6, w7], [.int q8.1, .ref 128], am_T0 q8.2)
  refine am_Rn.op _ (if q8.1 = 0 then 51 else 47, [some (.ref 128), some (.int l1), some (.int l2), some (.int l3), some (.int l4), some (.int l5), w6, w7], [.ref 128], am_T0 q8.2) rfl rfl ?_
  rcases l2_i h with ⟨hc, h⟩ | ⟨hc, h⟩
  · refine am_Rn.ifT hc ?_
    refine am_Rn.op _ (52, [some (.ref 128), some (.int l1), some (.int l2), some (.int l3), some (.int l4), some (.int l5), w6, w7], [.int 0, .ref 128], am_T0 q8.2) rfl rfl ?_
    exact rfX8_takes_52 d N l1 l2 l3 l4 l5 0 q8.2 _ h _ _
  · refine am_Rn.ifF hc ?_
    exact rfX8_takes_47 d N l1 l2 l3 l4 l5 q8.2 _ h _ _
def fX8_takes (N : Nat) (l1 : Int32) (l2 : Int32) (l3 : Int32) (l4 : Int32) (l5 : Int32) (S : St) : Option St := (if l5 < 100000 then (if (S.1 128 23) = 0 then (if (S.1 128 19) = l2 then (if (S.1 128 20) = l3 then fX8_takes_47 N l1 l2 l3 l4 l5 S else fX8_takes_32 N l1 l2 l3 l4 l5 S) else fX8_takes_32 N l1 l2 l3 l4 l5 S) else fX8_takes_47 N l1 l2 l3 l4 l5 S) else some S)
set_option maxRecDepth 20000 in
theorem rfX8_takes (d N : Nat) (l1 : Int32) (l2 : Int32) (l3 : Int32) (l4 : Int32) (l5 : Int32) (S : St) (z : St) (h : fX8_takes N l1 l2 l3 l4 l5 S = some z) : am_C (d + 3) 142 [.ref 128, .int l1, .int l2, .int l3, .int l4, .int l5] (am_T0 S) (none, am_T0 z) := by
  unfold fX8_takes at h
  show am_Rn (am_C (d + 2)) (am_ct 142) (am_rk 142) (none, am_T0 z) (0, [some (.ref 128), some (.int l1), some (.int l2), some (.int l3), some (.int l4), some (.int l5), none, none], [], am_T0 S)
  refine am_Rn.op _ (2, [some (.ref 128), some (.int l1), some (.int l2), some (.int l3), some (.int l4), some (.int l5), none, none], [.int l5], am_T0 S) rfl rfl ?_
  refine am_Rn.op _ (4, [some (.ref 128), some (.int l1), some (.int l2), some (.int l3), some (.int l4), some (.int l5), none, none], [.int 100000, .int l5], am_T0 S) rfl rfl ?_
  refine am_Rn.op _ (if l5 < 100000 then 8 else 7, [some (.ref 128), some (.int l1), some (.int l2), some (.int l3), some (.int l4), some (.int l5), none, none], [], am_T0 S) rfl rfl ?_
  rcases l2_i h with ⟨hc, h⟩ | ⟨hc, h⟩
  · refine am_Rn.ifT hc ?_
    refine am_Rn.op _ (9, [some (.ref 128), some (.int l1), some (.int l2), some (.int l3), some (.int l4), some (.int l5), none, none], [.ref 128], am_T0 S) rfl rfl ?_
    refine am_Rn.op _ (10, [some (.ref 128), some (.int l1), some (.int l2), some (.int l3), some (.int l4), some (.int l5), none, none], [.ref 128, .ref 128], am_T0 S) rfl rfl ?_
    refine am_Rn.op _ (13, [some (.ref 128), some (.int l1), some (.int l2), some (.int l3), some (.int l4), some (.int l5), none, none], [.int (S.1 128 23), .ref 128], am_T0 S) rfl rfl ?_
    refine am_Rn.op _ (if (S.1 128 23) = 0 then 16 else 47, [some (.ref 128), some (.int l1), some (.int l2), some (.int l3), some (.int l4), some (.int l5), none, none], [.ref 128], am_T0 S) rfl rfl ?_
    rcases l2_i h with ⟨hc, h⟩ | ⟨hc, h⟩
    · refine am_Rn.ifT hc ?_
      refine am_Rn.op _ (17, [some (.ref 128), some (.int l1), some (.int l2), some (.int l3), some (.int l4), some (.int l5), none, none], [.ref 128, .ref 128], am_T0 S) rfl rfl ?_
      refine am_Rn.op _ (20, [some (.ref 128), some (.int l1), some (.int l2), some (.int l3), some (.int l4), some (.int l5), none, none], [.int (S.1 128 19), .ref 128], am_T0 S) rfl rfl ?_
      refine am_Rn.op _ (21, [some (.ref 128), some (.int l1), some (.int l2), some (.int l3), some (.int l4), some (.int l5), none, none], [.int l2, .int (S.1 128 19), .ref 128], am_T0 S) rfl rfl ?_
      refine am_Rn.op _ (if (S.1 128 19) = l2 then 24 else 32, [some (.ref 128), some (.int l1), some (.int l2), some (.int l3), some (.int l4), some (.int l5), none, none], [.ref 128], am_T0 S) rfl rfl ?_
      rcases l2_i h with ⟨hc, h⟩ | ⟨hc, h⟩
      · refine am_Rn.ifT hc ?_
        refine am_Rn.op _ (25, [some (.ref 128), some (.int l1), some (.int l2), some (.int l3), some (.int l4), some (.int l5), none, none], [.ref 128, .ref 128], am_T0 S) rfl rfl ?_
        refine am_Rn.op _ (28, [some (.ref 128), some (.int l1), some (.int l2), some (.int l3), some (.int l4), some (.int l5), none, none], [.int (S.1 128 20), .ref 128], am_T0 S) rfl rfl ?_
        refine am_Rn.op _ (29, [some (.ref 128), some (.int l1), some (.int l2), some (.int l3), some (.int l4), some (.int l5), none, none], [.int l3, .int (S.1 128 20), .ref 128], am_T0 S) rfl rfl ?_
        refine am_Rn.op _ (if (S.1 128 20) = l3 then 47 else 32, [some (.ref 128), some (.int l1), some (.int l2), some (.int l3), some (.int l4), some (.int l5), none, none], [.ref 128], am_T0 S) rfl rfl ?_
        rcases l2_i h with ⟨hc, h⟩ | ⟨hc, h⟩
        · refine am_Rn.ifT hc ?_
          exact rfX8_takes_47 d N l1 l2 l3 l4 l5 S _ h _ _
        · refine am_Rn.ifF hc ?_
          exact rfX8_takes_32 d N l1 l2 l3 l4 l5 S _ h _ _
      · refine am_Rn.ifF hc ?_
        exact rfX8_takes_32 d N l1 l2 l3 l4 l5 S _ h _ _
    · refine am_Rn.ifF hc ?_
      exact rfX8_takes_47 d N l1 l2 l3 l4 l5 S _ h _ _
  · refine am_Rn.ifF hc ?_
    cases h
    exact am_Rn.rt _ rfl rfl
-- X8_endsBy
def PfX8_endsBy_40 (d : Nat) (res : Option Value × am_S) (l1 : Int32) (l2 : Int32) (l3 : Int32) (l4 : Int32) (l5 : Int32) (l6 : Int32) (x : Int32 × St) : Prop := ∀ (w8 w9 : Option Value), am_Rn (am_C d) (am_ct 144) (am_rk 144) res (40, [some (.ref 128), some (.int l1), some (.int l2), some (.int l3), some (.int l4), some (.int l5), some (.int l6), some (.int x.1), w8, w9], [], am_T0 x.2)
def QfX8_endsBy_40 (d : Nat) (res : Option Value × am_S) (l1 : Int32) (l2 : Int32) (l3 : Int32) (l4 : Int32) (l5 : Int32) (l6 : Int32) (y : St) : Prop := res = (none, am_T0 y)
def PfX8_endsBy_50 (d : Nat) (res : Option Value × am_S) (l1 : Int32) (l2 : Int32) (l3 : Int32) (l4 : Int32) (l5 : Int32) (l6 : Int32) (l7 : Int32) (x : Int32 × St) : Prop := ∀ (w9 : Option Value), am_Rn (am_C d) (am_ct 144) (am_rk 144) res (50, [some (.ref 128), some (.int l1), some (.int l2), some (.int l3), some (.int l4), some (.int l5), some (.int l6), some (.int l7), some (.int x.1), w9], [], am_T0 x.2)
def QfX8_endsBy_50 (d : Nat) (res : Option Value × am_S) (l1 : Int32) (l2 : Int32) (l3 : Int32) (l4 : Int32) (l5 : Int32) (l6 : Int32) (l7 : Int32) (y : St) : Prop := ∀ (w8 w9 : Option Value), am_Rn (am_C d) (am_ct 144) (am_rk 144) res (157, [some (.ref 128), some (.int l1), some (.int l2), some (.int l3), some (.int l4), some (.int l5), some (.int l6), some (.int l7), w8, w9], [], am_T0 y)
def fX8_endsBy_148 (N : Nat) (l1 : Int32) (l2 : Int32) (l3 : Int32) (l4 : Int32) (l5 : Int32) (l6 : Int32) (l7 : Int32) (l8 : Int32) (s1 : Int32) (S : St) : Option ((Int32 × St) ⊕ (St)) := (if s1 = 0 ∨ s1 = 1 then some (.inl ((l8 + 1), (st_i S 128 23 s1))) else none)
set_option maxRecDepth 20000 in
theorem rfX8_endsBy_148 (d N : Nat) (res : Option Value × am_S) (l1 : Int32) (l2 : Int32) (l3 : Int32) (l4 : Int32) (l5 : Int32) (l6 : Int32) (l7 : Int32) (l8 : Int32) (s1 : Int32) (S : St) (z : (Int32 × St) ⊕ (St)) (h : fX8_endsBy_148 N l1 l2 l3 l4 l5 l6 l7 l8 s1 S = some z) (hz : Sum.elim (PfX8_endsBy_50 (d + 2) res l1 l2 l3 l4 l5 l6 l7 ) (QfX8_endsBy_50 (d + 2) res l1 l2 l3 l4 l5 l6 l7 ) z) (w9 : Option Value) : am_Rn (am_C (d + 2)) (am_ct 144) (am_rk 144) res (148, [some (.ref 128), some (.int l1), some (.int l2), some (.int l3), some (.int l4), some (.int l5), some (.int l6), some (.int l7), some (.int l8), w9], [.int s1, .ref 128], am_T0 S) := by
  unfold fX8_endsBy_148 at h
  obtain ⟨hb1, h⟩ := l2_y h
  refine am_Rn.putf rfl rfl (l2_bool hb1) ?_
  show am_Rn _ _ _ _ (151, [some (.ref 128), some (.int l1), some (.int l2), some (.int l3), some (.int l4), some (.int l5), some (.int l6), some (.int l7), some (.int l8), w9], [], am_T0 (st_i S 128 23 s1))
  refine am_Rn.op _ (154, [some (.ref 128), some (.int l1), some (.int l2), some (.int l3), some (.int l4), some (.int l5), some (.int l6), some (.int l7), some (.int (l8 + 1)), w9], [], am_T0 (st_i S 128 23 s1)) rfl rfl ?_
  refine am_Rn.op _ (50, [some (.ref 128), some (.int l1), some (.int l2), some (.int l3), some (.int l4), some (.int l5), some (.int l6), some (.int l7), some (.int (l8 + 1)), w9], [], am_T0 (st_i S 128 23 s1)) rfl rfl ?_
  cases h
  exact hz _
def fX8_endsBy_147 (N : Nat) (l1 : Int32) (l2 : Int32) (l3 : Int32) (l4 : Int32) (l5 : Int32) (l6 : Int32) (l7 : Int32) (l8 : Int32) (S : St) : Option ((Int32 × St) ⊕ (St)) := fX8_endsBy_148 N l1 l2 l3 l4 l5 l6 l7 l8 0 S
set_option maxRecDepth 20000 in
theorem rfX8_endsBy_147 (d N : Nat) (res : Option Value × am_S) (l1 : Int32) (l2 : Int32) (l3 : Int32) (l4 : Int32) (l5 : Int32) (l6 : Int32) (l7 : Int32) (l8 : Int32) (S : St) (z : (Int32 × St) ⊕ (St)) (h : fX8_endsBy_147 N l1 l2 l3 l4 l5 l6 l7 l8 S = some z) (hz : Sum.elim (PfX8_endsBy_50 (d + 2) res l1 l2 l3 l4 l5 l6 l7 ) (QfX8_endsBy_50 (d + 2) res l1 l2 l3 l4 l5 l6 l7 ) z) (w9 : Option Value) : am_Rn (am_C (d + 2)) (am_ct 144) (am_rk 144) res (147, [some (.ref 128), some (.int l1), some (.int l2), some (.int l3), some (.int l4), some (.int l5), some (.int l6), some (.int l7), some (.int l8), w9], [.ref 128], am_T0 S) := by
  unfold fX8_endsBy_147 at h
  refine am_Rn.op _ (148, [some (.ref 128), some (.int l1), some (.int l2), some (.int l3), some (.int l4), some (.int l5), some (.int l6), some (.int l7), some (.int l8), w9], [.int 0, .ref 128], am_T0 S) rfl rfl ?_
  exact rfX8_endsBy_148 d N _ l1 l2 l3 l4 l5 l6 l7 l8 0 S _ h hz _
def fX8_endsBy_143 (N : Nat) (l1 : Int32) (l2 : Int32) (l3 : Int32) (l4 : Int32) (l5 : Int32) (l6 : Int32) (l7 : Int32) (l8 : Int32) (S : St) : Option ((Int32 × St) ⊕ (St)) := fX8_endsBy_148 N l1 l2 l3 l4 l5 l6 l7 l8 1 S
set_option maxRecDepth 20000 in
theorem rfX8_endsBy_143 (d N : Nat) (res : Option Value × am_S) (l1 : Int32) (l2 : Int32) (l3 : Int32) (l4 : Int32) (l5 : Int32) (l6 : Int32) (l7 : Int32) (l8 : Int32) (S : St) (z : (Int32 × St) ⊕ (St)) (h : fX8_endsBy_143 N l1 l2 l3 l4 l5 l6 l7 l8 S = some z) (hz : Sum.elim (PfX8_endsBy_50 (d + 2) res l1 l2 l3 l4 l5 l6 l7 ) (QfX8_endsBy_50 (d + 2) res l1 l2 l3 l4 l5 l6 l7 ) z) (w9 : Option Value) : am_Rn (am_C (d + 2)) (am_ct 144) (am_rk 144) res (143, [some (.ref 128), some (.int l1), some (.int l2), some (.int l3), some (.int l4), some (.int l5), some (.int l6), some (.int l7), some (.int l8), w9], [.ref 128], am_T0 S) := by
  unfold fX8_endsBy_143 at h
  refine am_Rn.op _ (144, [some (.ref 128), some (.int l1), some (.int l2), some (.int l3), some (.int l4), some (.int l5), some (.int l6), some (.int l7), some (.int l8), w9], [.int 1, .ref 128], am_T0 S) rfl rfl ?_
  refine am_Rn.op _ (148, [some (.ref 128), some (.int l1), some (.int l2), some (.int l3), some (.int l4), some (.int l5), some (.int l6), some (.int l7), some (.int l8), w9], [.int 1, .ref 128], am_T0 S) rfl rfl ?_
  exact rfX8_endsBy_148 d N _ l1 l2 l3 l4 l5 l6 l7 l8 1 S _ h hz _
def fX8_endsBy_86 (N : Nat) (l1 : Int32) (l2 : Int32) (l3 : Int32) (l4 : Int32) (l5 : Int32) (l6 : Int32) (l7 : Int32) (l8 : Int32) (l9 : Int32) (s1 : Int32) (S : St) : Option ((Int32 × St) ⊕ (St)) := (fX8_sum N l6 l9 S).bind (fun q2 => (fX8_puts N s1 l8 q2.1 q2.2).bind (fun q3 => (if (q3.1 128 23) = 0 then (if 100000 ≤ l9 then fX8_endsBy_147 N l1 l2 l3 l4 l5 l6 l7 l8 q3 else (if l7 = 0 then fX8_endsBy_147 N l1 l2 l3 l4 l5 l6 l7 l8 q3 else (if l4 < 2 then fX8_endsBy_147 N l1 l2 l3 l4 l5 l6 l7 l8 q3 else (if (q3.1 128 19) = (-1) then (if (q3.1 128 20) = (l4 - 2) then fX8_endsBy_143 N l1 l2 l3 l4 l5 l6 l7 l8 q3 else fX8_endsBy_147 N l1 l2 l3 l4 l5 l6 l7 l8 q3) else fX8_endsBy_147 N l1 l2 l3 l4 l5 l6 l7 l8 q3)))) else fX8_endsBy_143 N l1 l2 l3 l4 l5 l6 l7 l8 q3)))
set_option maxRecDepth 20000 in
theorem rfX8_endsBy_86 (d N : Nat) (res : Option Value × am_S) (l1 : Int32) (l2 : Int32) (l3 : Int32) (l4 : Int32) (l5 : Int32) (l6 : Int32) (l7 : Int32) (l8 : Int32) (l9 : Int32) (s1 : Int32) (S : St) (z : (Int32 × St) ⊕ (St)) (h : fX8_endsBy_86 N l1 l2 l3 l4 l5 l6 l7 l8 l9 s1 S = some z) (hz : Sum.elim (PfX8_endsBy_50 (d + 2) res l1 l2 l3 l4 l5 l6 l7 ) (QfX8_endsBy_50 (d + 2) res l1 l2 l3 l4 l5 l6 l7 ) z) : am_Rn (am_C (d + 2)) (am_ct 144) (am_rk 144) res (86, [some (.ref 128), some (.int l1), some (.int l2), some (.int l3), some (.int l4), some (.int l5), some (.int l6), some (.int l7), some (.int l8), some (.int l9)], [.int s1, .ref 128], am_T0 S) := by
  unfold fX8_endsBy_86 at h
  refine am_Rn.op _ (88, [some (.ref 128), some (.int l1), some (.int l2), some (.int l3), some (.int l4), some (.int l5), some (.int l6), some (.int l7), some (.int l8), some (.int l9)], [.int l8, .int s1, .ref 128], am_T0 S) rfl rfl ?_
  refine am_Rn.op _ (90, [some (.ref 128), some (.int l1), some (.int l2), some (.int l3), some (.int l4), some (.int l5), some (.int l6), some (.int l7), some (.int l8), some (.int l9)], [.int l6, .int l8, .int s1, .ref 128], am_T0 S) rfl rfl ?_
  refine am_Rn.op _ (92, [some (.ref 128), some (.int l1), some (.int l2), some (.int l3), some (.int l4), some (.int l5), some (.int l6), some (.int l7), some (.int l8), some (.int l9)], [.int l9, .int l6, .int l8, .int s1, .ref 128], am_T0 S) rfl rfl ?_
  obtain ⟨q2, hq2, h⟩ := l2_b h
  refine am_Rn.cl _ (some (.int q2.1)) (am_T0 q2.2) rfl rfl (rfX8_sum (d + 0) N l6 l9 S q2 hq2) ?_
  show am_Rn _ _ _ _ (95, [some (.ref 128), some (.int l1), some (.int l2), some (.int l3), some (.int l4), some (.int l5), some (.int l6), some (.int l7), some (.int l8), some (.int l9)], [.int q2.1, .int l8, .int s1, .ref 128], am_T0 q2.2)
  obtain ⟨q3, hq3, h⟩ := l2_b h
  refine am_Rn.cl _ none (am_T0 q3) rfl rfl (rfX8_puts (d + 0) N s1 l8 q2.1 q2.2 q3 hq3) ?_
  show am_Rn _ _ _ _ (98, [some (.ref 128), some (.int l1), some (.int l2), some (.int l3), some (.int l4), some (.int l5), some (.int l6), some (.int l7), some (.int l8), some (.int l9)], [], am_T0 q3)
  refine am_Rn.op _ (99, [some (.ref 128), some (.int l1), some (.int l2), some (.int l3), some (.int l4), some (.int l5), some (.int l6), some (.int l7), some (.int l8), some (.int l9)], [.ref 128], am_T0 q3) rfl rfl ?_
  refine am_Rn.op _ (100, [some (.ref 128), some (.int l1), some (.int l2), some (.int l3), some (.int l4), some (.int l5), some (.int l6), some (.int l7), some (.int l8), some (.int l9)], [.ref 128, .ref 128], am_T0 q3) rfl rfl ?_
  refine am_Rn.op _ (103, [some (.ref 128), some (.int l1), some (.int l2), some (.int l3), some (.int l4), some (.int l5), some (.int l6), some (.int l7), some (.int l8), some (.int l9)], [.int (q3.1 128 23), .ref 128], am_T0 q3) rfl rfl ?_
  refine am_Rn.op _ (if (q3.1 128 23) = 0 then 106 else 143, [some (.ref 128), some (.int l1), some (.int l2), some (.int l3), some (.int l4), some (.int l5), some (.int l6), some (.int l7), some (.int l8), some (.int l9)], [.ref 128], am_T0 q3) rfl rfl ?_
  rcases l2_i h with ⟨hc, h⟩ | ⟨hc, h⟩
  · refine am_Rn.ifT hc ?_
    refine am_Rn.op _ (108, [some (.ref 128), some (.int l1), some (.int l2), some (.int l3), some (.int l4), some (.int l5), some (.int l6), some (.int l7), some (.int l8), some (.int l9)], [.int l9, .ref 128], am_T0 q3) rfl rfl ?_
    refine am_Rn.op _ (110, [some (.ref 128), some (.int l1), some (.int l2), some (.int l3), some (.int l4), some (.int l5), some (.int l6), some (.int l7), some (.int l8), some (.int l9)], [.int 100000, .int l9, .ref 128], am_T0 q3) rfl rfl ?_
    refine am_Rn.op _ (if 100000 ≤ l9 then 147 else 113, [some (.ref 128), some (.int l1), some (.int l2), some (.int l3), some (.int l4), some (.int l5), some (.int l6), some (.int l7), some (.int l8), some (.int l9)], [.ref 128], am_T0 q3) rfl rfl ?_
    rcases l2_i h with ⟨hc, h⟩ | ⟨hc, h⟩
    · refine am_Rn.ifT hc ?_
      exact rfX8_endsBy_147 d N _ l1 l2 l3 l4 l5 l6 l7 l8 q3 _ h hz _
    · refine am_Rn.ifF hc ?_
      refine am_Rn.op _ (115, [some (.ref 128), some (.int l1), some (.int l2), some (.int l3), some (.int l4), some (.int l5), some (.int l6), some (.int l7), some (.int l8), some (.int l9)], [.int l7, .ref 128], am_T0 q3) rfl rfl ?_
      refine am_Rn.op _ (if l7 = 0 then 147 else 118, [some (.ref 128), some (.int l1), some (.int l2), some (.int l3), some (.int l4), some (.int l5), some (.int l6), some (.int l7), some (.int l8), some (.int l9)], [.ref 128], am_T0 q3) rfl rfl ?_
      rcases l2_i h with ⟨hc, h⟩ | ⟨hc, h⟩
      · refine am_Rn.ifT hc ?_
        exact rfX8_endsBy_147 d N _ l1 l2 l3 l4 l5 l6 l7 l8 q3 _ h hz _
      · refine am_Rn.ifF hc ?_
        refine am_Rn.op _ (120, [some (.ref 128), some (.int l1), some (.int l2), some (.int l3), some (.int l4), some (.int l5), some (.int l6), some (.int l7), some (.int l8), some (.int l9)], [.int l4, .ref 128], am_T0 q3) rfl rfl ?_
        refine am_Rn.op _ (121, [some (.ref 128), some (.int l1), some (.int l2), some (.int l3), some (.int l4), some (.int l5), some (.int l6), some (.int l7), some (.int l8), some (.int l9)], [.int 2, .int l4, .ref 128], am_T0 q3) rfl rfl ?_
        refine am_Rn.op _ (if l4 < 2 then 147 else 124, [some (.ref 128), some (.int l1), some (.int l2), some (.int l3), some (.int l4), some (.int l5), some (.int l6), some (.int l7), some (.int l8), some (.int l9)], [.ref 128], am_T0 q3) rfl rfl ?_
        rcases l2_i h with ⟨hc, h⟩ | ⟨hc, h⟩
        · refine am_Rn.ifT hc ?_
          exact rfX8_endsBy_147 d N _ l1 l2 l3 l4 l5 l6 l7 l8 q3 _ h hz _
        · refine am_Rn.ifF hc ?_
          refine am_Rn.op _ (125, [some (.ref 128), some (.int l1), some (.int l2), some (.int l3), some (.int l4), some (.int l5), some (.int l6), some (.int l7), some (.int l8), some (.int l9)], [.ref 128, .ref 128], am_T0 q3) rfl rfl ?_
          refine am_Rn.op _ (128, [some (.ref 128), some (.int l1), some (.int l2), some (.int l3), some (.int l4), some (.int l5), some (.int l6), some (.int l7), some (.int l8), some (.int l9)], [.int (q3.1 128 19), .ref 128], am_T0 q3) rfl rfl ?_
          refine am_Rn.op _ (129, [some (.ref 128), some (.int l1), some (.int l2), some (.int l3), some (.int l4), some (.int l5), some (.int l6), some (.int l7), some (.int l8), some (.int l9)], [.int (-1), .int (q3.1 128 19), .ref 128], am_T0 q3) rfl rfl ?_
          refine am_Rn.op _ (if (q3.1 128 19) = (-1) then 132 else 147, [some (.ref 128), some (.int l1), some (.int l2), some (.int l3), some (.int l4), some (.int l5), some (.int l6), some (.int l7), some (.int l8), some (.int l9)], [.ref 128], am_T0 q3) rfl rfl ?_
          rcases l2_i h with ⟨hc, h⟩ | ⟨hc, h⟩
          · refine am_Rn.ifT hc ?_
            refine am_Rn.op _ (133, [some (.ref 128), some (.int l1), some (.int l2), some (.int l3), some (.int l4), some (.int l5), some (.int l6), some (.int l7), some (.int l8), some (.int l9)], [.ref 128, .ref 128], am_T0 q3) rfl rfl ?_
            refine am_Rn.op _ (136, [some (.ref 128), some (.int l1), some (.int l2), some (.int l3), some (.int l4), some (.int l5), some (.int l6), some (.int l7), some (.int l8), some (.int l9)], [.int (q3.1 128 20), .ref 128], am_T0 q3) rfl rfl ?_
            refine am_Rn.op _ (138, [some (.ref 128), some (.int l1), some (.int l2), some (.int l3), some (.int l4), some (.int l5), some (.int l6), some (.int l7), some (.int l8), some (.int l9)], [.int l4, .int (q3.1 128 20), .ref 128], am_T0 q3) rfl rfl ?_
            refine am_Rn.op _ (139, [some (.ref 128), some (.int l1), some (.int l2), some (.int l3), some (.int l4), some (.int l5), some (.int l6), some (.int l7), some (.int l8), some (.int l9)], [.int 2, .int l4, .int (q3.1 128 20), .ref 128], am_T0 q3) rfl rfl ?_
            refine am_Rn.op _ (140, [some (.ref 128), some (.int l1), some (.int l2), some (.int l3), some (.int l4), some (.int l5), some (.int l6), some (.int l7), some (.int l8), some (.int l9)], [.int (l4 - 2), .int (q3.1 128 20), .ref 128], am_T0 q3) rfl rfl ?_
            refine am_Rn.op _ (if (q3.1 128 20) = (l4 - 2) then 143 else 147, [some (.ref 128), some (.int l1), some (.int l2), some (.int l3), some (.int l4), some (.int l5), some (.int l6), some (.int l7), some (.int l8), some (.int l9)], [.ref 128], am_T0 q3) rfl rfl ?_
            rcases l2_i h with ⟨hc, h⟩ | ⟨hc, h⟩
            · refine am_Rn.ifT hc ?_
              exact rfX8_endsBy_143 d N _ l1 l2 l3 l4 l5 l6 l7 l8 q3 _ h hz _
            · refine am_Rn.ifF hc ?_
              exact rfX8_endsBy_147 d N _ l1 l2 l3 l4 l5 l6 l7 l8 q3 _ h hz _
          · refine am_Rn.ifF hc ?_
            exact rfX8_endsBy_147 d N _ l1 l2 l3 l4 l5 l6 l7 l8 q3 _ h hz _
  · refine am_Rn.ifF hc ?_
    exact rfX8_endsBy_143 d N _ l1 l2 l3 l4 l5 l6 l7 l8 q3 _ h hz _
def bfX8_endsBy_50 (N : Nat) (l1 : Int32) (l2 : Int32) (l3 : Int32) (l4 : Int32) (l5 : Int32) (l6 : Int32) (l7 : Int32) (x : Int32 × St) : Option ((Int32 × St) ⊕ (St)) := (if 4 ≤ x.1 then some (.inr (x.2)) else (fX8_allOf N l1 (l2 + 1) l3 l5 l7 x.1 x.2).bind (fun q4 => (if l7 = 0 then fX8_endsBy_86 N l1 l2 l3 l4 l5 l6 l7 x.1 q4.1 l4 q4.2 else fX8_endsBy_86 N l1 l2 l3 l4 l5 l6 l7 x.1 q4.1 l7 q4.2)))
def fX8_endsBy_50 (N : Nat) (l1 : Int32) (l2 : Int32) (l3 : Int32) (l4 : Int32) (l5 : Int32) (l6 : Int32) (l7 : Int32) (x : Int32 × St) : Option (St) := whl N (bfX8_endsBy_50 N l1 l2 l3 l4 l5 l6 l7 ) x
set_option maxRecDepth 20000 in
theorem rbfX8_endsBy_50 (d N : Nat) (res : Option Value × am_S) (l1 : Int32) (l2 : Int32) (l3 : Int32) (l4 : Int32) (l5 : Int32) (l6 : Int32) (l7 : Int32) (x : Int32 × St) (z : (Int32 × St) ⊕ (St)) (h : bfX8_endsBy_50 N l1 l2 l3 l4 l5 l6 l7 x = some z) (hz : Sum.elim (PfX8_endsBy_50 (d + 2) res l1 l2 l3 l4 l5 l6 l7 ) (QfX8_endsBy_50 (d + 2) res l1 l2 l3 l4 l5 l6 l7 ) z) : PfX8_endsBy_50 (d + 2) res l1 l2 l3 l4 l5 l6 l7 x := by
  unfold bfX8_endsBy_50 at h
  show ∀ (w9 : Option Value), am_Rn (am_C (d + 2)) (am_ct 144) (am_rk 144) res (50, [some (.ref 128), some (.int l1), some (.int l2), some (.int l3), some (.int l4), some (.int l5), some (.int l6), some (.int l7), some (.int x.1), w9], [], am_T0 x.2)
  intro w9
  refine am_Rn.op _ (52, [some (.ref 128), some (.int l1), some (.int l2), some (.int l3), some (.int l4), some (.int l5), some (.int l6), some (.int l7), some (.int x.1), w9], [.int x.1], am_T0 x.2) rfl rfl ?_
  refine am_Rn.op _ (53, [some (.ref 128), some (.int l1), some (.int l2), some (.int l3), some (.int l4), some (.int l5), some (.int l6), some (.int l7), some (.int x.1), w9], [.int 4, .int x.1], am_T0 x.2) rfl rfl ?_
  refine am_Rn.op _ (if 4 ≤ x.1 then 157 else 56, [some (.ref 128), some (.int l1), some (.int l2), some (.int l3), some (.int l4), some (.int l5), some (.int l6), some (.int l7), some (.int x.1), w9], [], am_T0 x.2) rfl rfl ?_
  rcases l2_i h with ⟨hc, h⟩ | ⟨hc, h⟩
  · refine am_Rn.ifT hc ?_
    cases h
    exact hz _ _
  · refine am_Rn.ifF hc ?_
    refine am_Rn.op _ (57, [some (.ref 128), some (.int l1), some (.int l2), some (.int l3), some (.int l4), some (.int l5), some (.int l6), some (.int l7), some (.int x.1), w9], [.ref 128], am_T0 x.2) rfl rfl ?_
    refine am_Rn.op _ (58, [some (.ref 128), some (.int l1), some (.int l2), some (.int l3), some (.int l4), some (.int l5), some (.int l6), some (.int l7), some (.int x.1), w9], [.int l1, .ref 128], am_T0 x.2) rfl rfl ?_
    refine am_Rn.op _ (59, [some (.ref 128), some (.int l1), some (.int l2), some (.int l3), some (.int l4), some (.int l5), some (.int l6), some (.int l7), some (.int x.1), w9], [.int l2, .int l1, .ref 128], am_T0 x.2) rfl rfl ?_
    refine am_Rn.op _ (60, [some (.ref 128), some (.int l1), some (.int l2), some (.int l3), some (.int l4), some (.int l5), some (.int l6), some (.int l7), some (.int x.1), w9], [.int 1, .int l2, .int l1, .ref 128], am_T0 x.2) rfl rfl ?_
    refine am_Rn.op _ (61, [some (.ref 128), some (.int l1), some (.int l2), some (.int l3), some (.int l4), some (.int l5), some (.int l6), some (.int l7), some (.int x.1), w9], [.int (l2 + 1), .int l1, .ref 128], am_T0 x.2) rfl rfl ?_
    refine am_Rn.op _ (62, [some (.ref 128), some (.int l1), some (.int l2), some (.int l3), some (.int l4), some (.int l5), some (.int l6), some (.int l7), some (.int x.1), w9], [.int l3, .int (l2 + 1), .int l1, .ref 128], am_T0 x.2) rfl rfl ?_
    refine am_Rn.op _ (64, [some (.ref 128), some (.int l1), some (.int l2), some (.int l3), some (.int l4), some (.int l5), some (.int l6), some (.int l7), some (.int x.1), w9], [.int l5, .int l3, .int (l2 + 1), .int l1, .ref 128], am_T0 x.2) rfl rfl ?_
    refine am_Rn.op _ (66, [some (.ref 128), some (.int l1), some (.int l2), some (.int l3), some (.int l4), some (.int l5), some (.int l6), some (.int l7), some (.int x.1), w9], [.int l7, .int l5, .int l3, .int (l2 + 1), .int l1, .ref 128], am_T0 x.2) rfl rfl ?_
    refine am_Rn.op _ (68, [some (.ref 128), some (.int l1), some (.int l2), some (.int l3), some (.int l4), some (.int l5), some (.int l6), some (.int l7), some (.int x.1), w9], [.int x.1, .int l7, .int l5, .int l3, .int (l2 + 1), .int l1, .ref 128], am_T0 x.2) rfl rfl ?_
    obtain ⟨q4, hq4, h⟩ := l2_b h
    refine am_Rn.cl _ (some (.int q4.1)) (am_T0 q4.2) rfl rfl (rfX8_allOf (d + 0) N l1 (l2 + 1) l3 l5 l7 x.1 x.2 q4 hq4) ?_
    show am_Rn _ _ _ _ (71, [some (.ref 128), some (.int l1), some (.int l2), some (.int l3), some (.int l4), some (.int l5), some (.int l6), some (.int l7), some (.int x.1), w9], [.int q4.1], am_T0 q4.2)
    refine am_Rn.op _ (73, [some (.ref 128), some (.int l1), some (.int l2), some (.int l3), some (.int l4), some (.int l5), some (.int l6), some (.int l7), some (.int x.1), some (.int q4.1)], [], am_T0 q4.2) rfl rfl ?_
    refine am_Rn.op _ (74, [some (.ref 128), some (.int l1), some (.int l2), some (.int l3), some (.int l4), some (.int l5), some (.int l6), some (.int l7), some (.int x.1), some (.int q4.1)], [.ref 128], am_T0 q4.2) rfl rfl ?_
    refine am_Rn.op _ (76, [some (.ref 128), some (.int l1), some (.int l2), some (.int l3), some (.int l4), some (.int l5), some (.int l6), some (.int l7), some (.int x.1), some (.int q4.1)], [.int l7, .ref 128], am_T0 q4.2) rfl rfl ?_
    refine am_Rn.op _ (if l7 = 0 then 79 else 84, [some (.ref 128), some (.int l1), some (.int l2), some (.int l3), some (.int l4), some (.int l5), some (.int l6), some (.int l7), some (.int x.1), some (.int q4.1)], [.ref 128], am_T0 q4.2) rfl rfl ?_
    rcases l2_i h with ⟨hc, h⟩ | ⟨hc, h⟩
    · refine am_Rn.ifT hc ?_
      refine am_Rn.op _ (81, [some (.ref 128), some (.int l1), some (.int l2), some (.int l3), some (.int l4), some (.int l5), some (.int l6), some (.int l7), some (.int x.1), some (.int q4.1)], [.int l4, .ref 128], am_T0 q4.2) rfl rfl ?_
      refine am_Rn.op _ (86, [some (.ref 128), some (.int l1), some (.int l2), some (.int l3), some (.int l4), some (.int l5), some (.int l6), some (.int l7), some (.int x.1), some (.int q4.1)], [.int l4, .ref 128], am_T0 q4.2) rfl rfl ?_
      exact rfX8_endsBy_86 d N _ l1 l2 l3 l4 l5 l6 l7 x.1 q4.1 l4 q4.2 _ h hz 
    · refine am_Rn.ifF hc ?_
      refine am_Rn.op _ (86, [some (.ref 128), some (.int l1), some (.int l2), some (.int l3), some (.int l4), some (.int l5), some (.int l6), some (.int l7), some (.int x.1), some (.int q4.1)], [.int l7, .ref 128], am_T0 q4.2) rfl rfl ?_
      exact rfX8_endsBy_86 d N _ l1 l2 l3 l4 l5 l6 l7 x.1 q4.1 l7 q4.2 _ h hz 
theorem rfX8_endsBy_50 (d N : Nat) (res : Option Value × am_S) (l1 : Int32) (l2 : Int32) (l3 : Int32) (l4 : Int32) (l5 : Int32) (l6 : Int32) (l7 : Int32) (x : Int32 × St) (y : St) (h : fX8_endsBy_50 N l1 l2 l3 l4 l5 l6 l7 x = some y) (hq : QfX8_endsBy_50 (d + 2) res l1 l2 l3 l4 l5 l6 l7 y) : PfX8_endsBy_50 (d + 2) res l1 l2 l3 l4 l5 l6 l7 x := whl_ind _ _ (fun x z => rbfX8_endsBy_50 d N res l1 l2 l3 l4 l5 l6 l7 x z) N x y h hq
def bfX8_endsBy_40 (N : Nat) (l1 : Int32) (l2 : Int32) (l3 : Int32) (l4 : Int32) (l5 : Int32) (l6 : Int32) (x : Int32 × St) : Option ((Int32 × St) ⊕ (St)) := (if 8 ≤ x.1 then some (.inr x.2) else (fX8_endsBy_50 N l1 l2 l3 l4 l5 l6 x.1 (0, x.2)).bind (fun y5 => some (.inl ((x.1 + 1), y5))))
def fX8_endsBy_40 (N : Nat) (l1 : Int32) (l2 : Int32) (l3 : Int32) (l4 : Int32) (l5 : Int32) (l6 : Int32) (x : Int32 × St) : Option (St) := whl N (bfX8_endsBy_40 N l1 l2 l3 l4 l5 l6 ) x
set_option maxRecDepth 20000 in
theorem rbfX8_endsBy_40 (d N : Nat) (res : Option Value × am_S) (l1 : Int32) (l2 : Int32) (l3 : Int32) (l4 : Int32) (l5 : Int32) (l6 : Int32) (x : Int32 × St) (z : (Int32 × St) ⊕ (St)) (h : bfX8_endsBy_40 N l1 l2 l3 l4 l5 l6 x = some z) (hz : Sum.elim (PfX8_endsBy_40 (d + 2) res l1 l2 l3 l4 l5 l6 ) (QfX8_endsBy_40 (d + 2) res l1 l2 l3 l4 l5 l6 ) z) : PfX8_endsBy_40 (d + 2) res l1 l2 l3 l4 l5 l6 x := by
  unfold bfX8_endsBy_40 at h
  show ∀ (w8 w9 : Option Value), am_Rn (am_C (d + 2)) (am_ct 144) (am_rk 144) res (40, [some (.ref 128), some (.int l1), some (.int l2), some (.int l3), some (.int l4), some (.int l5), some (.int l6), some (.int x.1), w8, w9], [], am_T0 x.2)
  intro w8 w9
  refine am_Rn.op _ (42, [some (.ref 128), some (.int l1), some (.int l2), some (.int l3), some (.int l4), some (.int l5), some (.int l6), some (.int x.1), w8, w9], [.int x.1], am_T0 x.2) rfl rfl ?_
  refine am_Rn.op _ (44, [some (.ref 128), some (.int l1), some (.int l2), some (.int l3), some (.int l4), some (.int l5), some (.int l6), some (.int x.1), w8, w9], [.int 8, .int x.1], am_T0 x.2) rfl rfl ?_
  refine am_Rn.op _ (if 8 ≤ x.1 then 163 else 47, [some (.ref 128), some (.int l1), some (.int l2), some (.int l3), some (.int l4), some (.int l5), some (.int l6), some (.int x.1), w8, w9], [], am_T0 x.2) rfl rfl ?_
  rcases l2_i h with ⟨hc, h⟩ | ⟨hc, h⟩
  · refine am_Rn.ifT hc ?_
    cases h
    exact am_Rn.rt2 _ rfl rfl hz
  · refine am_Rn.ifF hc ?_
    refine am_Rn.op _ (48, [some (.ref 128), some (.int l1), some (.int l2), some (.int l3), some (.int l4), some (.int l5), some (.int l6), some (.int x.1), w8, w9], [.int 0], am_T0 x.2) rfl rfl ?_
    refine am_Rn.op _ (50, [some (.ref 128), some (.int l1), some (.int l2), some (.int l3), some (.int l4), some (.int l5), some (.int l6), some (.int x.1), some (.int 0), w9], [], am_T0 x.2) rfl rfl ?_
    obtain ⟨y5, hy5, h⟩ := l2_b h
    refine rfX8_endsBy_50 d N _ l1 l2 l3 l4 l5 l6 x.1 (0, x.2) y5 hy5 ?_ _
    intro w6 w7
    show am_Rn _ _ _ _ (157, [some (.ref 128), some (.int l1), some (.int l2), some (.int l3), some (.int l4), some (.int l5), some (.int l6), some (.int x.1), w6, w7], [], am_T0 y5)
    refine am_Rn.op _ (160, [some (.ref 128), some (.int l1), some (.int l2), some (.int l3), some (.int l4), some (.int l5), some (.int l6), some (.int (x.1 + 1)), w6, w7], [], am_T0 y5) rfl rfl ?_
    refine am_Rn.op _ (40, [some (.ref 128), some (.int l1), some (.int l2), some (.int l3), some (.int l4), some (.int l5), some (.int l6), some (.int (x.1 + 1)), w6, w7], [], am_T0 y5) rfl rfl ?_
    cases h
    exact hz _ _
theorem rfX8_endsBy_40 (d N : Nat) (res : Option Value × am_S) (l1 : Int32) (l2 : Int32) (l3 : Int32) (l4 : Int32) (l5 : Int32) (l6 : Int32) (x : Int32 × St) (y : St) (h : fX8_endsBy_40 N l1 l2 l3 l4 l5 l6 x = some y) (hq : QfX8_endsBy_40 (d + 2) res l1 l2 l3 l4 l5 l6 y) : PfX8_endsBy_40 (d + 2) res l1 l2 l3 l4 l5 l6 x := whl_ind _ _ (fun x z => rbfX8_endsBy_40 d N res l1 l2 l3 l4 l5 l6 x z) N x y h hq
def fX8_endsBy_34 (N : Nat) (l1 : Int32) (l2 : Int32) (l3 : Int32) (l4 : Int32) (l5 : Int32) (l6 : Int32) (s1 : Int32) (S : St) : Option St := (if s1 = 0 ∨ s1 = 1 then (fX8_endsBy_40 N l1 l2 l3 l4 l5 l6 (0, (st_i S 128 23 s1))).bind (fun y9 => some y9) else none)
set_option maxRecDepth 20000 in
theorem rfX8_endsBy_34 (d N : Nat) (l1 : Int32) (l2 : Int32) (l3 : Int32) (l4 : Int32) (l5 : Int32) (l6 : Int32) (s1 : Int32) (S : St) (z : St) (h : fX8_endsBy_34 N l1 l2 l3 l4 l5 l6 s1 S = some z) (w7 : Option Value) (w8 : Option Value) (w9 : Option Value) : am_Rn (am_C (d + 2)) (am_ct 144) (am_rk 144) (none, am_T0 z) (34, [some (.ref 128), some (.int l1), some (.int l2), some (.int l3), some (.int l4), some (.int l5), some (.int l6), w7, w8, w9], [.int s1, .ref 128], am_T0 S) := by
  unfold fX8_endsBy_34 at h
  obtain ⟨hb8, h⟩ := l2_y h
  refine am_Rn.putf rfl rfl (l2_bool hb8) ?_
  show am_Rn _ _ _ _ (37, [some (.ref 128), some (.int l1), some (.int l2), some (.int l3), some (.int l4), some (.int l5), some (.int l6), w7, w8, w9], [], am_T0 (st_i S 128 23 s1))
  refine am_Rn.op _ (38, [some (.ref 128), some (.int l1), some (.int l2), some (.int l3), some (.int l4), some (.int l5), some (.int l6), w7, w8, w9], [.int 0], am_T0 (st_i S 128 23 s1)) rfl rfl ?_
  refine am_Rn.op _ (40, [some (.ref 128), some (.int l1), some (.int l2), some (.int l3), some (.int l4), some (.int l5), some (.int l6), some (.int 0), w8, w9], [], am_T0 (st_i S 128 23 s1)) rfl rfl ?_
  obtain ⟨y9, hy9, h⟩ := l2_b h
  refine rfX8_endsBy_40 d N _ l1 l2 l3 l4 l5 l6 (0, (st_i S 128 23 s1)) y9 hy9 ?_ _ _
  cases h
  exact rfl
def fX8_endsBy_29 (N : Nat) (l1 : Int32) (l2 : Int32) (l3 : Int32) (l4 : Int32) (l5 : Int32) (l6 : Int32) (S : St) : Option St := fX8_endsBy_34 N l1 l2 l3 l4 l5 l6 1 S
set_option maxRecDepth 20000 in
theorem rfX8_endsBy_29 (d N : Nat) (l1 : Int32) (l2 : Int32) (l3 : Int32) (l4 : Int32) (l5 : Int32) (l6 : Int32) (S : St) (z : St) (h : fX8_endsBy_29 N l1 l2 l3 l4 l5 l6 S = some z) (w7 : Option Value) (w8 : Option Value) (w9 : Option Value) : am_Rn (am_C (d + 2)) (am_ct 144) (am_rk 144) (none, am_T0 z) (29, [some (.ref 128), some (.int l1), some (.int l2), some (.int l3), some (.int l4), some (.int l5), some (.int l6), w7, w8, w9], [.ref 128], am_T0 S) := by
  unfold fX8_endsBy_29 at h
  refine am_Rn.op _ (30, [some (.ref 128), some (.int l1), some (.int l2), some (.int l3), some (.int l4), some (.int l5), some (.int l6), w7, w8, w9], [.int 1, .ref 128], am_T0 S) rfl rfl ?_
  refine am_Rn.op _ (34, [some (.ref 128), some (.int l1), some (.int l2), some (.int l3), some (.int l4), some (.int l5), some (.int l6), w7, w8, w9], [.int 1, .ref 128], am_T0 S) rfl rfl ?_
  exact rfX8_endsBy_34 d N l1 l2 l3 l4 l5 l6 1 S _ h _ _ _
def fX8_endsBy (N : Nat) (l1 : Int32) (l2 : Int32) (l3 : Int32) (l4 : Int32) (l5 : Int32) (l6 : Int32) (S : St) : Option St := (if l6 < 100000 then (if (S.1 128 23) = 0 then (fX8_metOf N (l2 + 1) l3 l5 S).bind (fun q10 => (if q10.1 = 0 then fX8_endsBy_34 N l1 l2 l3 l4 l5 l6 0 q10.2 else fX8_endsBy_29 N l1 l2 l3 l4 l5 l6 q10.2)) else fX8_endsBy_29 N l1 l2 l3 l4 l5 l6 S) else some S)
set_option maxRecDepth 20000 in
theorem rfX8_endsBy (d N : Nat) (l1 : Int32) (l2 : Int32) (l3 : Int32) (l4 : Int32) (l5 : Int32) (l6 : Int32) (S : St) (z : St) (h : fX8_endsBy N l1 l2 l3 l4 l5 l6 S = some z) : am_C (d + 3) 144 [.ref 128, .int l1, .int l2, .int l3, .int l4, .int l5, .int l6] (am_T0 S) (none, am_T0 z) := by
  unfold fX8_endsBy at h
  show am_Rn (am_C (d + 2)) (am_ct 144) (am_rk 144) (none, am_T0 z) (0, [some (.ref 128), some (.int l1), some (.int l2), some (.int l3), some (.int l4), some (.int l5), some (.int l6), none, none, none], [], am_T0 S)
  refine am_Rn.op _ (2, [some (.ref 128), some (.int l1), some (.int l2), some (.int l3), some (.int l4), some (.int l5), some (.int l6), none, none, none], [.int l6], am_T0 S) rfl rfl ?_
  refine am_Rn.op _ (4, [some (.ref 128), some (.int l1), some (.int l2), some (.int l3), some (.int l4), some (.int l5), some (.int l6), none, none, none], [.int 100000, .int l6], am_T0 S) rfl rfl ?_
  refine am_Rn.op _ (if l6 < 100000 then 8 else 7, [some (.ref 128), some (.int l1), some (.int l2), some (.int l3), some (.int l4), some (.int l5), some (.int l6), none, none, none], [], am_T0 S) rfl rfl ?_
  rcases l2_i h with ⟨hc, h⟩ | ⟨hc, h⟩
  · refine am_Rn.ifT hc ?_
    refine am_Rn.op _ (9, [some (.ref 128), some (.int l1), some (.int l2), some (.int l3), some (.int l4), some (.int l5), some (.int l6), none, none, none], [.ref 128], am_T0 S) rfl rfl ?_
    refine am_Rn.op _ (10, [some (.ref 128), some (.int l1), some (.int l2), some (.int l3), some (.int l4), some (.int l5), some (.int l6), none, none, none], [.ref 128, .ref 128], am_T0 S) rfl rfl ?_
    refine am_Rn.op _ (13, [some (.ref 128), some (.int l1), some (.int l2), some (.int l3), some (.int l4), some (.int l5), some (.int l6), none, none, none], [.int (S.1 128 23), .ref 128], am_T0 S) rfl rfl ?_
    refine am_Rn.op _ (if (S.1 128 23) = 0 then 16 else 29, [some (.ref 128), some (.int l1), some (.int l2), some (.int l3), some (.int l4), some (.int l5), some (.int l6), none, none, none], [.ref 128], am_T0 S) rfl rfl ?_
    rcases l2_i h with ⟨hc, h⟩ | ⟨hc, h⟩
    · refine am_Rn.ifT hc ?_
      refine am_Rn.op _ (17, [some (.ref 128), some (.int l1), some (.int l2), some (.int l3), some (.int l4), some (.int l5), some (.int l6), none, none, none], [.ref 128, .ref 128], am_T0 S) rfl rfl ?_
      refine am_Rn.op _ (18, [some (.ref 128), some (.int l1), some (.int l2), some (.int l3), some (.int l4), some (.int l5), some (.int l6), none, none, none], [.int l2, .ref 128, .ref 128], am_T0 S) rfl rfl ?_
      refine am_Rn.op _ (19, [some (.ref 128), some (.int l1), some (.int l2), some (.int l3), some (.int l4), some (.int l5), some (.int l6), none, none, none], [.int 1, .int l2, .ref 128, .ref 128], am_T0 S) rfl rfl ?_
      refine am_Rn.op _ (20, [some (.ref 128), some (.int l1), some (.int l2), some (.int l3), some (.int l4), some (.int l5), some (.int l6), none, none, none], [.int (l2 + 1), .ref 128, .ref 128], am_T0 S) rfl rfl ?_
      refine am_Rn.op _ (21, [some (.ref 128), some (.int l1), some (.int l2), some (.int l3), some (.int l4), some (.int l5), some (.int l6), none, none, none], [.int l3, .int (l2 + 1), .ref 128, .ref 128], am_T0 S) rfl rfl ?_
      refine am_Rn.op _ (23, [some (.ref 128), some (.int l1), some (.int l2), some (.int l3), some (.int l4), some (.int l5), some (.int l6), none, none, none], [.int l5, .int l3, .int (l2 + 1), .ref 128, .ref 128], am_T0 S) rfl rfl ?_
      obtain ⟨q10, hq10, h⟩ := l2_b h
      refine am_Rn.cl _ (some (.int q10.1)) (am_T0 q10.2) rfl rfl (rfX8_metOf (d + 1) N (l2 + 1) l3 l5 S q10 hq10) ?_
      show am_Rn _ _ _ _ (26, [some (.ref 128), some (.int l1), some (.int l2), some (.int l3), some (.int l4), some (.int l5), some (.int l6), none, none, none], [.int q10.1, .ref 128], am_T0 q10.2)
      refine am_Rn.op _ (if q10.1 = 0 then 33 else 29, [some (.ref 128), some (.int l1), some (.int l2), some (.int l3), some (.int l4), some (.int l5), some (.int l6), none, none, none], [.ref 128], am_T0 q10.2) rfl rfl ?_
      rcases l2_i h with ⟨hc, h⟩ | ⟨hc, h⟩
      · refine am_Rn.ifT hc ?_
        refine am_Rn.op _ (34, [some (.ref 128), some (.int l1), some (.int l2), some (.int l3), some (.int l4), some (.int l5), some (.int l6), none, none, none], [.int 0, .ref 128], am_T0 q10.2) rfl rfl ?_
        exact rfX8_endsBy_34 d N l1 l2 l3 l4 l5 l6 0 q10.2 _ h _ _ _
      · refine am_Rn.ifF hc ?_
        exact rfX8_endsBy_29 d N l1 l2 l3 l4 l5 l6 q10.2 _ h _ _ _
    · refine am_Rn.ifF hc ?_
      exact rfX8_endsBy_29 d N l1 l2 l3 l4 l5 l6 S _ h _ _ _
  · refine am_Rn.ifF hc ?_
    cases h
    exact am_Rn.rt _ rfl rfl
-- X8_tries
def PfX8_tries_34 (d : Nat) (res : Option Value × am_S) (l1 : Int32) (l2 : Int32) (l3 : Int32) (l4 : Int32) (l5 : Int32) (x : Int32 × St) : Prop := ∀ (w7 w8 w9 : Option Value), am_Rn (am_C d) (am_ct 143) (am_rk 143) res (34, [some (.ref 128), some (.int l1), some (.int l2), some (.int l3), some (.int l4), some (.int l5), some (.int x.1), w7, w8, w9], [], am_T0 x.2)
def QfX8_tries_34 (d : Nat) (res : Option Value × am_S) (l1 : Int32) (l2 : Int32) (l3 : Int32) (l4 : Int32) (l5 : Int32) (y : St) : Prop := ∀ (w2 w4 w6 w7 w8 w9 : Option Value), am_Rn (am_C d) (am_ct 143) (am_rk 143) res (136, [some (.ref 128), some (.int l1), w2, some (.int l3), w4, some (.int l5), w6, w7, w8, w9], [], am_T0 y)
def PfX8_tries_44 (d : Nat) (res : Option Value × am_S) (l1 : Int32) (l2 : Int32) (l3 : Int32) (l4 : Int32) (l5 : Int32) (l6 : Int32) (x : Int32 × St) : Prop := ∀ (w8 w9 : Option Value), am_Rn (am_C d) (am_ct 143) (am_rk 143) res (44, [some (.ref 128), some (.int l1), some (.int l2), some (.int l3), some (.int l4), some (.int l5), some (.int l6), some (.int x.1), w8, w9], [], am_T0 x.2)
def QfX8_tries_44 (d : Nat) (res : Option Value × am_S) (l1 : Int32) (l2 : Int32) (l3 : Int32) (l4 : Int32) (l5 : Int32) (l6 : Int32) (y : St) : Prop := ∀ (w7 w8 w9 : Option Value), am_Rn (am_C d) (am_ct 143) (am_rk 143) res (130, [some (.ref 128), some (.int l1), some (.int l2), some (.int l3), some (.int l4), some (.int l5), some (.int l6), w7, w8, w9], [], am_T0 y)
def PfX8_tries_140 (d : Nat) (res : Option Value × am_S) (l1 : Int32) (l3 : Int32) (x : Int32 × St) : Prop := ∀ (w2 w4 w5 w7 w8 w9 : Option Value), am_Rn (am_C d) (am_ct 143) (am_rk 143) res (140, [some (.ref 128), some (.int l1), w2, some (.int l3), w4, w5, some (.int x.1), w7, w8, w9], [], am_T0 x.2)
def QfX8_tries_140 (d : Nat) (res : Option Value × am_S) (l1 : Int32) (l3 : Int32) (y : Int32 × St) : Prop := ∀ (w2 w4 w5 w7 w8 w9 : Option Value), am_Rn (am_C d) (am_ct 143) (am_rk 143) res (169, [some (.ref 128), some (.int l1), w2, some (.int l3), w4, w5, some (.int y.1), w7, w8, w9], [], am_T0 y.2)
def PfX8_tries_172 (d : Nat) (res : Option Value × am_S) (l1 : Int32) (l3 : Int32) (l6 : Int32) (x : Int32 × St) : Prop := ∀ (w2 w4 w5 w8 w9 : Option Value), am_Rn (am_C d) (am_ct 143) (am_rk 143) res (172, [some (.ref 128), some (.int l1), w2, some (.int l3), w4, w5, some (.int l6), some (.int x.1), w8, w9], [], am_T0 x.2)
def QfX8_tries_172 (d : Nat) (res : Option Value × am_S) (l1 : Int32) (l3 : Int32) (l6 : Int32) (y : St) : Prop := res = (none, am_T0 y)
def PfX8_tries_182 (d : Nat) (res : Option Value × am_S) (l1 : Int32) (l3 : Int32) (l6 : Int32) (l7 : Int32) (x : Int32 × St) : Prop := ∀ (w2 w4 w5 w9 : Option Value), am_Rn (am_C d) (am_ct 143) (am_rk 143) res (182, [some (.ref 128), some (.int l1), w2, some (.int l3), w4, w5, some (.int l6), some (.int l7), some (.int x.1), w9], [], am_T0 x.2)
def QfX8_tries_182 (d : Nat) (res : Option Value × am_S) (l1 : Int32) (l3 : Int32) (l6 : Int32) (l7 : Int32) (y : St) : Prop := ∀ (w2 w4 w5 w8 w9 : Option Value), am_Rn (am_C d) (am_ct 143) (am_rk 143) res (255, [some (.ref 128), some (.int l1), w2, some (.int l3), w4, w5, some (.int l6), some (.int l7), w8, w9], [], am_T0 y)
def fX8_tries_249 (N : Nat) (l1 : Int32) (l3 : Int32) (l6 : Int32) (l7 : Int32) (l8 : Int32) (S : St) : Option ((Int32 × St) ⊕ (St)) := some (.inl ((l8 + 1), S))
set_option maxRecDepth 20000 in
theorem rfX8_tries_249 (d N : Nat) (res : Option Value × am_S) (l1 : Int32) (l3 : Int32) (l6 : Int32) (l7 : Int32) (l8 : Int32) (S : St) (z : (Int32 × St) ⊕ (St)) (h : fX8_tries_249 N l1 l3 l6 l7 l8 S = some z) (hz : Sum.elim (PfX8_tries_182 (d + 3) res l1 l3 l6 l7 ) (QfX8_tries_182 (d + 3) res l1 l3 l6 l7 ) z) (w2 : Option Value) (w4 : Option Value) (w5 : Option Value) (w9 : Option Value) : am_Rn (am_C (d + 3)) (am_ct 143) (am_rk 143) res (249, [some (.ref 128), some (.int l1), w2, some (.int l3), w4, w5, some (.int l6), some (.int l7), some (.int l8), w9], [], am_T0 S) := by
  unfold fX8_tries_249 at h
  refine am_Rn.op _ (252, [some (.ref 128), some (.int l1), w2, some (.int l3), w4, w5, some (.int l6), some (.int l7), some (.int (l8 + 1)), w9], [], am_T0 S) rfl rfl ?_
  refine am_Rn.op _ (182, [some (.ref 128), some (.int l1), w2, some (.int l3), w4, w5, some (.int l6), some (.int l7), some (.int (l8 + 1)), w9], [], am_T0 S) rfl rfl ?_
  cases h
  exact hz _ _ _ _
def bfX8_tries_182 (N : Nat) (l1 : Int32) (l3 : Int32) (l6 : Int32) (l7 : Int32) (x : Int32 × St) : Option ((Int32 × St) ⊕ (St)) := (if 4 ≤ x.1 then some (.inr (x.2)) else (fX8_signOf N l1 l6 x.2).bind (fun q1 => (if q1.1 = 90 then (if ((l7 * 4) + x.1) < 0 ∨ 32 ≤ Int32.toNatClampNeg ((l7 * 4) + x.1) then none else (fX8_endsBy N l1 (l6 + 1) l3 l7 x.1 (q1.2.1 143 (Int32.toNatClampNeg ((l7 * 4) + x.1))) q1.2).bind (fun q3 => fX8_tries_249 N l1 l3 l6 l7 x.1 q3)) else (if ((l7 * 4) + x.1) < 0 ∨ 32 ≤ Int32.toNatClampNeg ((l7 * 4) + x.1) then none else (fX8_puts N l7 x.1 (q1.2.1 143 (Int32.toNatClampNeg ((l7 * 4) + x.1))) q1.2).bind (fun q5 => fX8_tries_249 N l1 l3 l6 l7 x.1 q5)))))
def fX8_tries_182 (N : Nat) (l1 : Int32) (l3 : Int32) (l6 : Int32) (l7 : Int32) (x : Int32 × St) : Option (St) := whl N (bfX8_tries_182 N l1 l3 l6 l7 ) x
set_option maxRecDepth 20000 in
theorem rbfX8_tries_182 (d N : Nat) (res : Option Value × am_S) (l1 : Int32) (l3 : Int32) (l6 : Int32) (l7 : Int32) (x : Int32 × St) (z : (Int32 × St) ⊕ (St)) (h : bfX8_tries_182 N l1 l3 l6 l7 x = some z) (hz : Sum.elim (PfX8_tries_182 (d + 3) res l1 l3 l6 l7 ) (QfX8_tries_182 (d + 3) res l1 l3 l6 l7 ) z) : PfX8_tries_182 (d + 3) res l1 l3 l6 l7 x := by
  unfold bfX8_tries_182 at h
  show ∀ (w2 w4 w5 w9 : Option Value), am_Rn (am_C (d + 3)) (am_ct 143) (am_rk 143) res (182, [some (.ref 128), some (.int l1), w2, some (.int l3), w4, w5, some (.int l6), some (.int l7), some (.int x.1), w9], [], am_T0 x.2)
  intro w2 w4 w5 w9
  refine am_Rn.op _ (184, [some (.ref 128), some (.int l1), w2, some (.int l3), w4, w5, some (.int l6), some (.int l7), some (.int x.1), w9], [.int x.1], am_T0 x.2) rfl rfl ?_
  refine am_Rn.op _ (185, [some (.ref 128), some (.int l1), w2, some (.int l3), w4, w5, some (.int l6), some (.int l7), some (.int x.1), w9], [.int 4, .int x.1], am_T0 x.2) rfl rfl ?_
  refine am_Rn.op _ (if 4 ≤ x.1 then 255 else 188, [some (.ref 128), some (.int l1), w2, some (.int l3), w4, w5, some (.int l6), some (.int l7), some (.int x.1), w9], [], am_T0 x.2) rfl rfl ?_
  rcases l2_i h with ⟨hc, h⟩ | ⟨hc, h⟩
  · refine am_Rn.ifT hc ?_
    cases h
    exact hz _ _ _ _ _
  · refine am_Rn.ifF hc ?_
    refine am_Rn.op _ (189, [some (.ref 128), some (.int l1), w2, some (.int l3), w4, w5, some (.int l6), some (.int l7), some (.int x.1), w9], [.ref 128], am_T0 x.2) rfl rfl ?_
    refine am_Rn.op _ (190, [some (.ref 128), some (.int l1), w2, some (.int l3), w4, w5, some (.int l6), some (.int l7), some (.int x.1), w9], [.int l1, .ref 128], am_T0 x.2) rfl rfl ?_
    refine am_Rn.op _ (192, [some (.ref 128), some (.int l1), w2, some (.int l3), w4, w5, some (.int l6), some (.int l7), some (.int x.1), w9], [.int l6, .int l1, .ref 128], am_T0 x.2) rfl rfl ?_
    obtain ⟨q1, hq1, h⟩ := l2_b h
    refine am_Rn.cl _ (some (.int q1.1)) (am_T0 q1.2) rfl rfl (rfX8_signOf (d + 2) N l1 l6 x.2 q1 hq1) ?_
    show am_Rn _ _ _ _ (195, [some (.ref 128), some (.int l1), w2, some (.int l3), w4, w5, some (.int l6), some (.int l7), some (.int x.1), w9], [.int q1.1], am_T0 q1.2)
    refine am_Rn.op _ (197, [some (.ref 128), some (.int l1), w2, some (.int l3), w4, w5, some (.int l6), some (.int l7), some (.int x.1), w9], [.int 90, .int q1.1], am_T0 q1.2) rfl rfl ?_
    refine am_Rn.op _ (if q1.1 = 90 then 223 else 200, [some (.ref 128), some (.int l1), w2, some (.int l3), w4, w5, some (.int l6), some (.int l7), some (.int x.1), w9], [], am_T0 q1.2) rfl rfl ?_
    rcases l2_i h with ⟨hc, h⟩ | ⟨hc, h⟩
    · refine am_Rn.ifT hc ?_
      refine am_Rn.op _ (224, [some (.ref 128), some (.int l1), w2, some (.int l3), w4, w5, some (.int l6), some (.int l7), some (.int x.1), w9], [.ref 128], am_T0 q1.2) rfl rfl ?_
      refine am_Rn.op _ (225, [some (.ref 128), some (.int l1), w2, some (.int l3), w4, w5, some (.int l6), some (.int l7), some (.int x.1), w9], [.int l1, .ref 128], am_T0 q1.2) rfl rfl ?_
      refine am_Rn.op _ (227, [some (.ref 128), some (.int l1), w2, some (.int l3), w4, w5, some (.int l6), some (.int l7), some (.int x.1), w9], [.int l6, .int l1, .ref 128], am_T0 q1.2) rfl rfl ?_
      refine am_Rn.op _ (228, [some (.ref 128), some (.int l1), w2, some (.int l3), w4, w5, some (.int l6), some (.int l7), some (.int x.1), w9], [.int 1, .int l6, .int l1, .ref 128], am_T0 q1.2) rfl rfl ?_
      refine am_Rn.op _ (229, [some (.ref 128), some (.int l1), w2, some (.int l3), w4, w5, some (.int l6), some (.int l7), some (.int x.1), w9], [.int (l6 + 1), .int l1, .ref 128], am_T0 q1.2) rfl rfl ?_
      refine am_Rn.op _ (230, [some (.ref 128), some (.int l1), w2, some (.int l3), w4, w5, some (.int l6), some (.int l7), some (.int x.1), w9], [.int l3, .int (l6 + 1), .int l1, .ref 128], am_T0 q1.2) rfl rfl ?_
      refine am_Rn.op _ (232, [some (.ref 128), some (.int l1), w2, some (.int l3), w4, w5, some (.int l6), some (.int l7), some (.int x.1), w9], [.int l7, .int l3, .int (l6 + 1), .int l1, .ref 128], am_T0 q1.2) rfl rfl ?_
      refine am_Rn.op _ (234, [some (.ref 128), some (.int l1), w2, some (.int l3), w4, w5, some (.int l6), some (.int l7), some (.int x.1), w9], [.int x.1, .int l7, .int l3, .int (l6 + 1), .int l1, .ref 128], am_T0 q1.2) rfl rfl ?_
      refine am_Rn.op _ (235, [some (.ref 128), some (.int l1), w2, some (.int l3), w4, w5, some (.int l6), some (.int l7), some (.int x.1), w9], [.ref 128, .int x.1, .int l7, .int l3, .int (l6 + 1), .int l1, .ref 128], am_T0 q1.2) rfl rfl ?_
      refine am_Rn.op _ (238, [some (.ref 128), some (.int l1), w2, some (.int l3), w4, w5, some (.int l6), some (.int l7), some (.int x.1), w9], [.ref 143, .int x.1, .int l7, .int l3, .int (l6 + 1), .int l1, .ref 128], am_T0 q1.2) rfl rfl ?_
      refine am_Rn.op _ (240, [some (.ref 128), some (.int l1), w2, some (.int l3), w4, w5, some (.int l6), some (.int l7), some (.int x.1), w9], [.int l7, .ref 143, .int x.1, .int l7, .int l3, .int (l6 + 1), .int l1, .ref 128], am_T0 q1.2) rfl rfl ?_
      refine am_Rn.op _ (241, [some (.ref 128), some (.int l1), w2, some (.int l3), w4, w5, some (.int l6), some (.int l7), some (.int x.1), w9], [.int 4, .int l7, .ref 143, .int x.1, .int l7, .int l3, .int (l6 + 1), .int l1, .ref 128], am_T0 q1.2) rfl rfl ?_
      refine am_Rn.op _ (242, [some (.ref 128), some (.int l1), w2, some (.int l3), w4, w5, some (.int l6), some (.int l7), some (.int x.1), w9], [.int (l7 * 4), .ref 143, .int x.1, .int l7, .int l3, .int (l6 + 1), .int l1, .ref 128], am_T0 q1.2) rfl rfl ?_
      refine am_Rn.op _ (244, [some (.ref 128), some (.int l1), w2, some (.int l3), w4, w5, some (.int l6), some (.int l7), some (.int x.1), w9], [.int x.1, .int (l7 * 4), .ref 143, .int x.1, .int l7, .int l3, .int (l6 + 1), .int l1, .ref 128], am_T0 q1.2) rfl rfl ?_
      refine am_Rn.op _ (245, [some (.ref 128), some (.int l1), w2, some (.int l3), w4, w5, some (.int l6), some (.int l7), some (.int x.1), w9], [.int ((l7 * 4) + x.1), .ref 143, .int x.1, .int l7, .int l3, .int (l6 + 1), .int l1, .ref 128], am_T0 q1.2) rfl rfl ?_
      obtain ⟨hb2, h⟩ := l2_n h
      refine am_Rn.iald (n := 32) rfl rfl hb2 ?_
      show am_Rn _ _ _ _ (246, [some (.ref 128), some (.int l1), w2, some (.int l3), w4, w5, some (.int l6), some (.int l7), some (.int x.1), w9], [.int (q1.2.1 143 (Int32.toNatClampNeg ((l7 * 4) + x.1))), .int x.1, .int l7, .int l3, .int (l6 + 1), .int l1, .ref 128], am_T0 q1.2)
      obtain ⟨q3, hq3, h⟩ := l2_b h
      refine am_Rn.cl _ none (am_T0 q3) rfl rfl (rfX8_endsBy (d + 0) N l1 (l6 + 1) l3 l7 x.1 (q1.2.1 143 (Int32.toNatClampNeg ((l7 * 4) + x.1))) q1.2 q3 hq3) ?_
      show am_Rn _ _ _ _ (249, [some (.ref 128), some (.int l1), w2, some (.int l3), w4, w5, some (.int l6), some (.int l7), some (.int x.1), w9], [], am_T0 q3)
      exact rfX8_tries_249 d N _ l1 l3 l6 l7 x.1 q3 _ h hz _ _ _ _
    · refine am_Rn.ifF hc ?_
      refine am_Rn.op _ (201, [some (.ref 128), some (.int l1), w2, some (.int l3), w4, w5, some (.int l6), some (.int l7), some (.int x.1), w9], [.ref 128], am_T0 q1.2) rfl rfl ?_
      refine am_Rn.op _ (203, [some (.ref 128), some (.int l1), w2, some (.int l3), w4, w5, some (.int l6), some (.int l7), some (.int x.1), w9], [.int l7, .ref 128], am_T0 q1.2) rfl rfl ?_
      refine am_Rn.op _ (205, [some (.ref 128), some (.int l1), w2, some (.int l3), w4, w5, some (.int l6), some (.int l7), some (.int x.1), w9], [.int x.1, .int l7, .ref 128], am_T0 q1.2) rfl rfl ?_
      refine am_Rn.op _ (206, [some (.ref 128), some (.int l1), w2, some (.int l3), w4, w5, some (.int l6), some (.int l7), some (.int x.1), w9], [.ref 128, .int x.1, .int l7, .ref 128], am_T0 q1.2) rfl rfl ?_
      refine am_Rn.op _ (209, [some (.ref 128), some (.int l1), w2, some (.int l3), w4, w5, some (.int l6), some (.int l7), some (.int x.1), w9], [.ref 143, .int x.1, .int l7, .ref 128], am_T0 q1.2) rfl rfl ?_
      refine am_Rn.op _ (211, [some (.ref 128), some (.int l1), w2, some (.int l3), w4, w5, some (.int l6), some (.int l7), some (.int x.1), w9], [.int l7, .ref 143, .int x.1, .int l7, .ref 128], am_T0 q1.2) rfl rfl ?_
      refine am_Rn.op _ (212, [some (.ref 128), some (.int l1), w2, some (.int l3), w4, w5, some (.int l6), some (.int l7), some (.int x.1), w9], [.int 4, .int l7, .ref 143, .int x.1, .int l7, .ref 128], am_T0 q1.2) rfl rfl ?_
      refine am_Rn.op _ (213, [some (.ref 128), some (.int l1), w2, some (.int l3), w4, w5, some (.int l6), some (.int l7), some (.int x.1), w9], [.int (l7 * 4), .ref 143, .int x.1, .int l7, .ref 128], am_T0 q1.2) rfl rfl ?_
      refine am_Rn.op _ (215, [some (.ref 128), some (.int l1), w2, some (.int l3), w4, w5, some (.int l6), some (.int l7), some (.int x.1), w9], [.int x.1, .int (l7 * 4), .ref 143, .int x.1, .int l7, .ref 128], am_T0 q1.2) rfl rfl ?_
      refine am_Rn.op _ (216, [some (.ref 128), some (.int l1), w2, some (.int l3), w4, w5, some (.int l6), some (.int l7), some (.int x.1), w9], [.int ((l7 * 4) + x.1), .ref 143, .int x.1, .int l7, .ref 128], am_T0 q1.2) rfl rfl ?_
      obtain ⟨hb4, h⟩ := l2_n h
      refine am_Rn.iald (n := 32) rfl rfl hb4 ?_
      show am_Rn _ _ _ _ (217, [some (.ref 128), some (.int l1), w2, some (.int l3), w4, w5, some (.int l6), some (.int l7), some (.int x.1), w9], [.int (q1.2.1 143 (Int32.toNatClampNeg ((l7 * 4) + x.1))), .int x.1, .int l7, .ref 128], am_T0 q1.2)
      obtain ⟨q5, hq5, h⟩ := l2_b h
      refine am_Rn.cl _ none (am_T0 q5) rfl rfl (rfX8_puts (d + 1) N l7 x.1 (q1.2.1 143 (Int32.toNatClampNeg ((l7 * 4) + x.1))) q1.2 q5 hq5) ?_
      show am_Rn _ _ _ _ (220, [some (.ref 128), some (.int l1), w2, some (.int l3), w4, w5, some (.int l6), some (.int l7), some (.int x.1), w9], [], am_T0 q5)
      refine am_Rn.op _ (249, [some (.ref 128), some (.int l1), w2, some (.int l3), w4, w5, some (.int l6), some (.int l7), some (.int x.1), w9], [], am_T0 q5) rfl rfl ?_
      exact rfX8_tries_249 d N _ l1 l3 l6 l7 x.1 q5 _ h hz _ _ _ _
theorem rfX8_tries_182 (d N : Nat) (res : Option Value × am_S) (l1 : Int32) (l3 : Int32) (l6 : Int32) (l7 : Int32) (x : Int32 × St) (y : St) (h : fX8_tries_182 N l1 l3 l6 l7 x = some y) (hq : QfX8_tries_182 (d + 3) res l1 l3 l6 l7 y) : PfX8_tries_182 (d + 3) res l1 l3 l6 l7 x := whl_ind _ _ (fun x z => rbfX8_tries_182 d N res l1 l3 l6 l7 x z) N x y h hq
def bfX8_tries_172 (N : Nat) (l1 : Int32) (l3 : Int32) (l6 : Int32) (x : Int32 × St) : Option ((Int32 × St) ⊕ (St)) := (if 8 ≤ x.1 then some (.inr x.2) else (fX8_tries_182 N l1 l3 l6 x.1 (0, x.2)).bind (fun y6 => some (.inl ((x.1 + 1), y6))))
def fX8_tries_172 (N : Nat) (l1 : Int32) (l3 : Int32) (l6 : Int32) (x : Int32 × St) : Option (St) := whl N (bfX8_tries_172 N l1 l3 l6 ) x
set_option maxRecDepth 20000 in
theorem rbfX8_tries_172 (d N : Nat) (res : Option Value × am_S) (l1 : Int32) (l3 : Int32) (l6 : Int32) (x : Int32 × St) (z : (Int32 × St) ⊕ (St)) (h : bfX8_tries_172 N l1 l3 l6 x = some z) (hz : Sum.elim (PfX8_tries_172 (d + 3) res l1 l3 l6 ) (QfX8_tries_172 (d + 3) res l1 l3 l6 ) z) : PfX8_tries_172 (d + 3) res l1 l3 l6 x := by
  unfold bfX8_tries_172 at h
  show ∀ (w2 w4 w5 w8 w9 : Option Value), am_Rn (am_C (d + 3)) (am_ct 143) (am_rk 143) res (172, [some (.ref 128), some (.int l1), w2, some (.int l3), w4, w5, some (.int l6), some (.int x.1), w8, w9], [], am_T0 x.2)
  intro w2 w4 w5 w8 w9
  refine am_Rn.op _ (174, [some (.ref 128), some (.int l1), w2, some (.int l3), w4, w5, some (.int l6), some (.int x.1), w8, w9], [.int x.1], am_T0 x.2) rfl rfl ?_
  refine am_Rn.op _ (176, [some (.ref 128), some (.int l1), w2, some (.int l3), w4, w5, some (.int l6), some (.int x.1), w8, w9], [.int 8, .int x.1], am_T0 x.2) rfl rfl ?_
  refine am_Rn.op _ (if 8 ≤ x.1 then 261 else 179, [some (.ref 128), some (.int l1), w2, some (.int l3), w4, w5, some (.int l6), some (.int x.1), w8, w9], [], am_T0 x.2) rfl rfl ?_
  rcases l2_i h with ⟨hc, h⟩ | ⟨hc, h⟩
  · refine am_Rn.ifT hc ?_
    cases h
    exact am_Rn.rt2 _ rfl rfl hz
  · refine am_Rn.ifF hc ?_
    refine am_Rn.op _ (180, [some (.ref 128), some (.int l1), w2, some (.int l3), w4, w5, some (.int l6), some (.int x.1), w8, w9], [.int 0], am_T0 x.2) rfl rfl ?_
    refine am_Rn.op _ (182, [some (.ref 128), some (.int l1), w2, some (.int l3), w4, w5, some (.int l6), some (.int x.1), some (.int 0), w9], [], am_T0 x.2) rfl rfl ?_
    obtain ⟨y6, hy6, h⟩ := l2_b h
    refine rfX8_tries_182 d N _ l1 l3 l6 x.1 (0, x.2) y6 hy6 ?_ _ _ _ _
    intro w7 w8 w9 w10 w11
    show am_Rn _ _ _ _ (255, [some (.ref 128), some (.int l1), w7, some (.int l3), w8, w9, some (.int l6), some (.int x.1), w10, w11], [], am_T0 y6)
    refine am_Rn.op _ (258, [some (.ref 128), some (.int l1), w7, some (.int l3), w8, w9, some (.int l6), some (.int (x.1 + 1)), w10, w11], [], am_T0 y6) rfl rfl ?_
    refine am_Rn.op _ (172, [some (.ref 128), some (.int l1), w7, some (.int l3), w8, w9, some (.int l6), some (.int (x.1 + 1)), w10, w11], [], am_T0 y6) rfl rfl ?_
    cases h
    exact hz _ _ _ _ _
theorem rfX8_tries_172 (d N : Nat) (res : Option Value × am_S) (l1 : Int32) (l3 : Int32) (l6 : Int32) (x : Int32 × St) (y : St) (h : fX8_tries_172 N l1 l3 l6 x = some y) (hq : QfX8_tries_172 (d + 3) res l1 l3 l6 y) : PfX8_tries_172 (d + 3) res l1 l3 l6 x := whl_ind _ _ (fun x z => rbfX8_tries_172 d N res l1 l3 l6 x z) N x y h hq
def bfX8_tries_140 (N : Nat) (l1 : Int32) (l3 : Int32) (x : Int32 × St) : Option ((Int32 × St) ⊕ (Int32 × St)) := (fX8_signOf N l1 x.1 x.2).bind (fun q12 => (fX8_isLetter N q12.1 q12.2).bind (fun q13 => (if q13.1 = 0 then some (.inr (x.1, q13.2)) else (fX8_shutOf N l1 (x.1 + 1) q13.2).bind (fun q14 => some (.inl ((q14.1 + 1), q14.2))))))
def fX8_tries_140 (N : Nat) (l1 : Int32) (l3 : Int32) (x : Int32 × St) : Option (Int32 × St) := whl N (bfX8_tries_140 N l1 l3 ) x
set_option maxRecDepth 20000 in
theorem rbfX8_tries_140 (d N : Nat) (res : Option Value × am_S) (l1 : Int32) (l3 : Int32) (x : Int32 × St) (z : (Int32 × St) ⊕ (Int32 × St)) (h : bfX8_tries_140 N l1 l3 x = some z) (hz : Sum.elim (PfX8_tries_140 (d + 3) res l1 l3 ) (QfX8_tries_140 (d + 3) res l1 l3 ) z) : PfX8_tries_140 (d + 3) res l1 l3 x := by
  unfold bfX8_tries_140 at h
  show ∀ (w2 w4 w5 w7 w8 w9 : Option Value), am_Rn (am_C (d + 3)) (am_ct 143) (am_rk 143) res (140, [some (.ref 128), some (.int l1), w2, some (.int l3), w4, w5, some (.int x.1), w7, w8, w9], [], am_T0 x.2)
  intro w2 w4 w5 w7 w8 w9
  refine am_Rn.op _ (141, [some (.ref 128), some (.int l1), w2, some (.int l3), w4, w5, some (.int x.1), w7, w8, w9], [.ref 128], am_T0 x.2) rfl rfl ?_
  refine am_Rn.op _ (142, [some (.ref 128), some (.int l1), w2, some (.int l3), w4, w5, some (.int x.1), w7, w8, w9], [.int l1, .ref 128], am_T0 x.2) rfl rfl ?_
  refine am_Rn.op _ (144, [some (.ref 128), some (.int l1), w2, some (.int l3), w4, w5, some (.int x.1), w7, w8, w9], [.int x.1, .int l1, .ref 128], am_T0 x.2) rfl rfl ?_
  obtain ⟨q12, hq12, h⟩ := l2_b h
  refine am_Rn.cl _ (some (.int q12.1)) (am_T0 q12.2) rfl rfl (rfX8_signOf (d + 2) N l1 x.1 x.2 q12 hq12) ?_
  show am_Rn _ _ _ _ (147, [some (.ref 128), some (.int l1), w2, some (.int l3), w4, w5, some (.int x.1), w7, w8, w9], [.int q12.1], am_T0 q12.2)
  obtain ⟨q13, hq13, h⟩ := l2_b h
  refine am_Rn.cl _ (some (.int q13.1)) (am_T0 q13.2) rfl rfl (rfX8_isLetter (d + 2) N q12.1 q12.2 q13 hq13) ?_
  show am_Rn _ _ _ _ (150, [some (.ref 128), some (.int l1), w2, some (.int l3), w4, w5, some (.int x.1), w7, w8, w9], [.int q13.1], am_T0 q13.2)
  refine am_Rn.op _ (if q13.1 = 0 then 169 else 153, [some (.ref 128), some (.int l1), w2, some (.int l3), w4, w5, some (.int x.1), w7, w8, w9], [], am_T0 q13.2) rfl rfl ?_
  rcases l2_i h with ⟨hc, h⟩ | ⟨hc, h⟩
  · refine am_Rn.ifT hc ?_
    cases h
    exact hz _ _ _ _ _ _
  · refine am_Rn.ifF hc ?_
    refine am_Rn.op _ (154, [some (.ref 128), some (.int l1), w2, some (.int l3), w4, w5, some (.int x.1), w7, w8, w9], [.ref 128], am_T0 q13.2) rfl rfl ?_
    refine am_Rn.op _ (155, [some (.ref 128), some (.int l1), w2, some (.int l3), w4, w5, some (.int x.1), w7, w8, w9], [.int l1, .ref 128], am_T0 q13.2) rfl rfl ?_
    refine am_Rn.op _ (157, [some (.ref 128), some (.int l1), w2, some (.int l3), w4, w5, some (.int x.1), w7, w8, w9], [.int x.1, .int l1, .ref 128], am_T0 q13.2) rfl rfl ?_
    refine am_Rn.op _ (158, [some (.ref 128), some (.int l1), w2, some (.int l3), w4, w5, some (.int x.1), w7, w8, w9], [.int 1, .int x.1, .int l1, .ref 128], am_T0 q13.2) rfl rfl ?_
    refine am_Rn.op _ (159, [some (.ref 128), some (.int l1), w2, some (.int l3), w4, w5, some (.int x.1), w7, w8, w9], [.int (x.1 + 1), .int l1, .ref 128], am_T0 q13.2) rfl rfl ?_
    obtain ⟨q14, hq14, h⟩ := l2_b h
    refine am_Rn.cl _ (some (.int q14.1)) (am_T0 q14.2) rfl rfl (rfX8_shutOf (d + 2) N l1 (x.1 + 1) q13.2 q14 hq14) ?_
    show am_Rn _ _ _ _ (162, [some (.ref 128), some (.int l1), w2, some (.int l3), w4, w5, some (.int x.1), w7, w8, w9], [.int q14.1], am_T0 q14.2)
    refine am_Rn.op _ (163, [some (.ref 128), some (.int l1), w2, some (.int l3), w4, w5, some (.int x.1), w7, w8, w9], [.int 1, .int q14.1], am_T0 q14.2) rfl rfl ?_
    refine am_Rn.op _ (164, [some (.ref 128), some (.int l1), w2, some (.int l3), w4, w5, some (.int x.1), w7, w8, w9], [.int (q14.1 + 1)], am_T0 q14.2) rfl rfl ?_
    refine am_Rn.op _ (166, [some (.ref 128), some (.int l1), w2, some (.int l3), w4, w5, some (.int (q14.1 + 1)), w7, w8, w9], [], am_T0 q14.2) rfl rfl ?_
    refine am_Rn.op _ (140, [some (.ref 128), some (.int l1), w2, some (.int l3), w4, w5, some (.int (q14.1 + 1)), w7, w8, w9], [], am_T0 q14.2) rfl rfl ?_
    cases h
    exact hz _ _ _ _ _ _
theorem rfX8_tries_140 (d N : Nat) (res : Option Value × am_S) (l1 : Int32) (l3 : Int32) (x : Int32 × St) (y : Int32 × St) (h : fX8_tries_140 N l1 l3 x = some y) (hq : QfX8_tries_140 (d + 3) res l1 l3 y) : PfX8_tries_140 (d + 3) res l1 l3 x := whl_ind _ _ (fun x z => rbfX8_tries_140 d N res l1 l3 x z) N x y h hq
def fX8_tries_124 (N : Nat) (l1 : Int32) (l2 : Int32) (l3 : Int32) (l4 : Int32) (l5 : Int32) (l6 : Int32) (l7 : Int32) (S : St) : Option ((Int32 × St) ⊕ (St)) := some (.inl ((l7 + 1), S))
set_option maxRecDepth 20000 in
theorem rfX8_tries_124 (d N : Nat) (res : Option Value × am_S) (l1 : Int32) (l2 : Int32) (l3 : Int32) (l4 : Int32) (l5 : Int32) (l6 : Int32) (l7 : Int32) (S : St) (z : (Int32 × St) ⊕ (St)) (h : fX8_tries_124 N l1 l2 l3 l4 l5 l6 l7 S = some z) (hz : Sum.elim (PfX8_tries_44 (d + 3) res l1 l2 l3 l4 l5 l6 ) (QfX8_tries_44 (d + 3) res l1 l2 l3 l4 l5 l6 ) z) (w8 : Option Value) (w9 : Option Value) : am_Rn (am_C (d + 3)) (am_ct 143) (am_rk 143) res (124, [some (.ref 128), some (.int l1), some (.int l2), some (.int l3), some (.int l4), some (.int l5), some (.int l6), some (.int l7), w8, w9], [], am_T0 S) := by
  unfold fX8_tries_124 at h
  refine am_Rn.op _ (127, [some (.ref 128), some (.int l1), some (.int l2), some (.int l3), some (.int l4), some (.int l5), some (.int l6), some (.int (l7 + 1)), w8, w9], [], am_T0 S) rfl rfl ?_
  refine am_Rn.op _ (44, [some (.ref 128), some (.int l1), some (.int l2), some (.int l3), some (.int l4), some (.int l5), some (.int l6), some (.int (l7 + 1)), w8, w9], [], am_T0 S) rfl rfl ?_
  cases h
  exact hz _ _
def fX8_tries_88 (N : Nat) (l1 : Int32) (l2 : Int32) (l3 : Int32) (l4 : Int32) (l5 : Int32) (l6 : Int32) (l7 : Int32) (l8 : Int32) (s0 : Int32) (S : St) : Option ((Int32 × St) ⊕ (St)) := (if s0 = (-1) then (fX8_putsMid N l6 l7 l8 S).bind (fun q15 => fX8_tries_124 N l1 l2 l3 l4 l5 l6 l7 q15) else (fX8_takes N l1 s0 (l6 - 2) l7 l8 S).bind (fun q16 => fX8_tries_124 N l1 l2 l3 l4 l5 l6 l7 q16))
set_option maxRecDepth 20000 in
theorem rfX8_tries_88 (d N : Nat) (res : Option Value × am_S) (l1 : Int32) (l2 : Int32) (l3 : Int32) (l4 : Int32) (l5 : Int32) (l6 : Int32) (l7 : Int32) (l8 : Int32) (s0 : Int32) (S : St) (z : (Int32 × St) ⊕ (St)) (h : fX8_tries_88 N l1 l2 l3 l4 l5 l6 l7 l8 s0 S = some z) (hz : Sum.elim (PfX8_tries_44 (d + 3) res l1 l2 l3 l4 l5 l6 ) (QfX8_tries_44 (d + 3) res l1 l2 l3 l4 l5 l6 ) z) (w9 : Option Value) : am_Rn (am_C (d + 3)) (am_ct 143) (am_rk 143) res (88, [some (.ref 128), some (.int l1), some (.int l2), some (.int l3), some (.int l4), some (.int l5), some (.int l6), some (.int l7), some (.int l8), w9], [.int s0], am_T0 S) := by
  unfold fX8_tries_88 at h
  refine am_Rn.op _ (90, [some (.ref 128), some (.int l1), some (.int l2), some (.int l3), some (.int l4), some (.int l5), some (.int l6), some (.int l7), some (.int l8), some (.int s0)], [], am_T0 S) rfl rfl ?_
  refine am_Rn.op _ (92, [some (.ref 128), some (.int l1), some (.int l2), some (.int l3), some (.int l4), some (.int l5), some (.int l6), some (.int l7), some (.int l8), some (.int s0)], [.int s0], am_T0 S) rfl rfl ?_
  refine am_Rn.op _ (93, [some (.ref 128), some (.int l1), some (.int l2), some (.int l3), some (.int l4), some (.int l5), some (.int l6), some (.int l7), some (.int l8), some (.int s0)], [.int (-1), .int s0], am_T0 S) rfl rfl ?_
  refine am_Rn.op _ (if s0 = (-1) then 96 else 109, [some (.ref 128), some (.int l1), some (.int l2), some (.int l3), some (.int l4), some (.int l5), some (.int l6), some (.int l7), some (.int l8), some (.int s0)], [], am_T0 S) rfl rfl ?_
  rcases l2_i h with ⟨hc, h⟩ | ⟨hc, h⟩
  · refine am_Rn.ifT hc ?_
    refine am_Rn.op _ (97, [some (.ref 128), some (.int l1), some (.int l2), some (.int l3), some (.int l4), some (.int l5), some (.int l6), some (.int l7), some (.int l8), some (.int s0)], [.ref 128], am_T0 S) rfl rfl ?_
    refine am_Rn.op _ (99, [some (.ref 128), some (.int l1), some (.int l2), some (.int l3), some (.int l4), some (.int l5), some (.int l6), some (.int l7), some (.int l8), some (.int s0)], [.int l6, .ref 128], am_T0 S) rfl rfl ?_
    refine am_Rn.op _ (101, [some (.ref 128), some (.int l1), some (.int l2), some (.int l3), some (.int l4), some (.int l5), some (.int l6), some (.int l7), some (.int l8), some (.int s0)], [.int l7, .int l6, .ref 128], am_T0 S) rfl rfl ?_
    refine am_Rn.op _ (103, [some (.ref 128), some (.int l1), some (.int l2), some (.int l3), some (.int l4), some (.int l5), some (.int l6), some (.int l7), some (.int l8), some (.int s0)], [.int l8, .int l7, .int l6, .ref 128], am_T0 S) rfl rfl ?_
    obtain ⟨q15, hq15, h⟩ := l2_b h
    refine am_Rn.cl _ none (am_T0 q15) rfl rfl (rfX8_putsMid (d + 1) N l6 l7 l8 S q15 hq15) ?_
    show am_Rn _ _ _ _ (106, [some (.ref 128), some (.int l1), some (.int l2), some (.int l3), some (.int l4), some (.int l5), some (.int l6), some (.int l7), some (.int l8), some (.int s0)], [], am_T0 q15)
    refine am_Rn.op _ (124, [some (.ref 128), some (.int l1), some (.int l2), some (.int l3), some (.int l4), some (.int l5), some (.int l6), some (.int l7), some (.int l8), some (.int s0)], [], am_T0 q15) rfl rfl ?_
    exact rfX8_tries_124 d N _ l1 l2 l3 l4 l5 l6 l7 q15 _ h hz _ _
  · refine am_Rn.ifF hc ?_
    refine am_Rn.op _ (110, [some (.ref 128), some (.int l1), some (.int l2), some (.int l3), some (.int l4), some (.int l5), some (.int l6), some (.int l7), some (.int l8), some (.int s0)], [.ref 128], am_T0 S) rfl rfl ?_
    refine am_Rn.op _ (111, [some (.ref 128), some (.int l1), some (.int l2), some (.int l3), some (.int l4), some (.int l5), some (.int l6), some (.int l7), some (.int l8), some (.int s0)], [.int l1, .ref 128], am_T0 S) rfl rfl ?_
    refine am_Rn.op _ (113, [some (.ref 128), some (.int l1), some (.int l2), some (.int l3), some (.int l4), some (.int l5), some (.int l6), some (.int l7), some (.int l8), some (.int s0)], [.int s0, .int l1, .ref 128], am_T0 S) rfl rfl ?_
    refine am_Rn.op _ (115, [some (.ref 128), some (.int l1), some (.int l2), some (.int l3), some (.int l4), some (.int l5), some (.int l6), some (.int l7), some (.int l8), some (.int s0)], [.int l6, .int s0, .int l1, .ref 128], am_T0 S) rfl rfl ?_
    refine am_Rn.op _ (116, [some (.ref 128), some (.int l1), some (.int l2), some (.int l3), some (.int l4), some (.int l5), some (.int l6), some (.int l7), some (.int l8), some (.int s0)], [.int 2, .int l6, .int s0, .int l1, .ref 128], am_T0 S) rfl rfl ?_
    refine am_Rn.op _ (117, [some (.ref 128), some (.int l1), some (.int l2), some (.int l3), some (.int l4), some (.int l5), some (.int l6), some (.int l7), some (.int l8), some (.int s0)], [.int (l6 - 2), .int s0, .int l1, .ref 128], am_T0 S) rfl rfl ?_
    refine am_Rn.op _ (119, [some (.ref 128), some (.int l1), some (.int l2), some (.int l3), some (.int l4), some (.int l5), some (.int l6), some (.int l7), some (.int l8), some (.int s0)], [.int l7, .int (l6 - 2), .int s0, .int l1, .ref 128], am_T0 S) rfl rfl ?_
    refine am_Rn.op _ (121, [some (.ref 128), some (.int l1), some (.int l2), some (.int l3), some (.int l4), some (.int l5), some (.int l6), some (.int l7), some (.int l8), some (.int s0)], [.int l8, .int l7, .int (l6 - 2), .int s0, .int l1, .ref 128], am_T0 S) rfl rfl ?_
    obtain ⟨q16, hq16, h⟩ := l2_b h
    refine am_Rn.cl _ none (am_T0 q16) rfl rfl (rfX8_takes (d + 0) N l1 s0 (l6 - 2) l7 l8 S q16 hq16) ?_
    show am_Rn _ _ _ _ (124, [some (.ref 128), some (.int l1), some (.int l2), some (.int l3), some (.int l4), some (.int l5), some (.int l6), some (.int l7), some (.int l8), some (.int s0)], [], am_T0 q16)
    exact rfX8_tries_124 d N _ l1 l2 l3 l4 l5 l6 l7 q16 _ h hz _ _
def bfX8_tries_44 (N : Nat) (l1 : Int32) (l2 : Int32) (l3 : Int32) (l4 : Int32) (l5 : Int32) (l6 : Int32) (x : Int32 × St) : Option ((Int32 × St) ⊕ (St)) := (if 4 ≤ x.1 then some (.inr (x.2)) else (fX8_allOf N l1 (l2 + 1) l3 l4 l6 x.1 x.2).bind (fun q17 => (if 2 ≤ l6 then (fX8_takerFor N l1 l5 (l6 - 2) q17.2).bind (fun q18 => fX8_tries_88 N l1 l2 l3 l4 l5 l6 x.1 q17.1 q18.1 q18.2) else fX8_tries_88 N l1 l2 l3 l4 l5 l6 x.1 q17.1 (-1) q17.2)))
def fX8_tries_44 (N : Nat) (l1 : Int32) (l2 : Int32) (l3 : Int32) (l4 : Int32) (l5 : Int32) (l6 : Int32) (x : Int32 × St) : Option (St) := whl N (bfX8_tries_44 N l1 l2 l3 l4 l5 l6 ) x
set_option maxRecDepth 20000 in
theorem rbfX8_tries_44 (d N : Nat) (res : Option Value × am_S) (l1 : Int32) (l2 : Int32) (l3 : Int32) (l4 : Int32) (l5 : Int32) (l6 : Int32) (x : Int32 × St) (z : (Int32 × St) ⊕ (St)) (h : bfX8_tries_44 N l1 l2 l3 l4 l5 l6 x = some z) (hz : Sum.elim (PfX8_tries_44 (d + 3) res l1 l2 l3 l4 l5 l6 ) (QfX8_tries_44 (d + 3) res l1 l2 l3 l4 l5 l6 ) z) : PfX8_tries_44 (d + 3) res l1 l2 l3 l4 l5 l6 x := by
  unfold bfX8_tries_44 at h
  show ∀ (w8 w9 : Option Value), am_Rn (am_C (d + 3)) (am_ct 143) (am_rk 143) res (44, [some (.ref 128), some (.int l1), some (.int l2), some (.int l3), some (.int l4), some (.int l5), some (.int l6), some (.int x.1), w8, w9], [], am_T0 x.2)
  intro w8 w9
  refine am_Rn.op _ (46, [some (.ref 128), some (.int l1), some (.int l2), some (.int l3), some (.int l4), some (.int l5), some (.int l6), some (.int x.1), w8, w9], [.int x.1], am_T0 x.2) rfl rfl ?_
  refine am_Rn.op _ (47, [some (.ref 128), some (.int l1), some (.int l2), some (.int l3), some (.int l4), some (.int l5), some (.int l6), some (.int x.1), w8, w9], [.int 4, .int x.1], am_T0 x.2) rfl rfl ?_
  refine am_Rn.op _ (if 4 ≤ x.1 then 130 else 50, [some (.ref 128), some (.int l1), some (.int l2), some (.int l3), some (.int l4), some (.int l5), some (.int l6), some (.int x.1), w8, w9], [], am_T0 x.2) rfl rfl ?_
  rcases l2_i h with ⟨hc, h⟩ | ⟨hc, h⟩
  · refine am_Rn.ifT hc ?_
    cases h
    exact hz _ _ _
  · refine am_Rn.ifF hc ?_
    refine am_Rn.op _ (51, [some (.ref 128), some (.int l1), some (.int l2), some (.int l3), some (.int l4), some (.int l5), some (.int l6), some (.int x.1), w8, w9], [.ref 128], am_T0 x.2) rfl rfl ?_
    refine am_Rn.op _ (52, [some (.ref 128), some (.int l1), some (.int l2), some (.int l3), some (.int l4), some (.int l5), some (.int l6), some (.int x.1), w8, w9], [.int l1, .ref 128], am_T0 x.2) rfl rfl ?_
    refine am_Rn.op _ (53, [some (.ref 128), some (.int l1), some (.int l2), some (.int l3), some (.int l4), some (.int l5), some (.int l6), some (.int x.1), w8, w9], [.int l2, .int l1, .ref 128], am_T0 x.2) rfl rfl ?_
    refine am_Rn.op _ (54, [some (.ref 128), some (.int l1), some (.int l2), some (.int l3), some (.int l4), some (.int l5), some (.int l6), some (.int x.1), w8, w9], [.int 1, .int l2, .int l1, .ref 128], am_T0 x.2) rfl rfl ?_
    refine am_Rn.op _ (55, [some (.ref 128), some (.int l1), some (.int l2), some (.int l3), some (.int l4), some (.int l5), some (.int l6), some (.int x.1), w8, w9], [.int (l2 + 1), .int l1, .ref 128], am_T0 x.2) rfl rfl ?_
    refine am_Rn.op _ (56, [some (.ref 128), some (.int l1), some (.int l2), some (.int l3), some (.int l4), some (.int l5), some (.int l6), some (.int x.1), w8, w9], [.int l3, .int (l2 + 1), .int l1, .ref 128], am_T0 x.2) rfl rfl ?_
    refine am_Rn.op _ (58, [some (.ref 128), some (.int l1), some (.int l2), some (.int l3), some (.int l4), some (.int l5), some (.int l6), some (.int x.1), w8, w9], [.int l4, .int l3, .int (l2 + 1), .int l1, .ref 128], am_T0 x.2) rfl rfl ?_
    refine am_Rn.op _ (60, [some (.ref 128), some (.int l1), some (.int l2), some (.int l3), some (.int l4), some (.int l5), some (.int l6), some (.int x.1), w8, w9], [.int l6, .int l4, .int l3, .int (l2 + 1), .int l1, .ref 128], am_T0 x.2) rfl rfl ?_
    refine am_Rn.op _ (62, [some (.ref 128), some (.int l1), some (.int l2), some (.int l3), some (.int l4), some (.int l5), some (.int l6), some (.int x.1), w8, w9], [.int x.1, .int l6, .int l4, .int l3, .int (l2 + 1), .int l1, .ref 128], am_T0 x.2) rfl rfl ?_
    obtain ⟨q17, hq17, h⟩ := l2_b h
    refine am_Rn.cl _ (some (.int q17.1)) (am_T0 q17.2) rfl rfl (rfX8_allOf (d + 1) N l1 (l2 + 1) l3 l4 l6 x.1 x.2 q17 hq17) ?_
    show am_Rn _ _ _ _ (65, [some (.ref 128), some (.int l1), some (.int l2), some (.int l3), some (.int l4), some (.int l5), some (.int l6), some (.int x.1), w8, w9], [.int q17.1], am_T0 q17.2)
    refine am_Rn.op _ (67, [some (.ref 128), some (.int l1), some (.int l2), some (.int l3), some (.int l4), some (.int l5), some (.int l6), some (.int x.1), some (.int q17.1), w9], [], am_T0 q17.2) rfl rfl ?_
    refine am_Rn.op _ (69, [some (.ref 128), some (.int l1), some (.int l2), some (.int l3), some (.int l4), some (.int l5), some (.int l6), some (.int x.1), some (.int q17.1), w9], [.int l6], am_T0 q17.2) rfl rfl ?_
    refine am_Rn.op _ (70, [some (.ref 128), some (.int l1), some (.int l2), some (.int l3), some (.int l4), some (.int l5), some (.int l6), some (.int x.1), some (.int q17.1), w9], [.int 2, .int l6], am_T0 q17.2) rfl rfl ?_
    refine am_Rn.op _ (if 2 ≤ l6 then 77 else 73, [some (.ref 128), some (.int l1), some (.int l2), some (.int l3), some (.int l4), some (.int l5), some (.int l6), some (.int x.1), some (.int q17.1), w9], [], am_T0 q17.2) rfl rfl ?_
    rcases l2_i h with ⟨hc, h⟩ | ⟨hc, h⟩
    · refine am_Rn.ifT hc ?_
      refine am_Rn.op _ (78, [some (.ref 128), some (.int l1), some (.int l2), some (.int l3), some (.int l4), some (.int l5), some (.int l6), some (.int x.1), some (.int q17.1), w9], [.ref 128], am_T0 q17.2) rfl rfl ?_
      refine am_Rn.op _ (79, [some (.ref 128), some (.int l1), some (.int l2), some (.int l3), some (.int l4), some (.int l5), some (.int l6), some (.int x.1), some (.int q17.1), w9], [.int l1, .ref 128], am_T0 q17.2) rfl rfl ?_
      refine am_Rn.op _ (81, [some (.ref 128), some (.int l1), some (.int l2), some (.int l3), some (.int l4), some (.int l5), some (.int l6), some (.int x.1), some (.int q17.1), w9], [.int l5, .int l1, .ref 128], am_T0 q17.2) rfl rfl ?_
      refine am_Rn.op _ (83, [some (.ref 128), some (.int l1), some (.int l2), some (.int l3), some (.int l4), some (.int l5), some (.int l6), some (.int x.1), some (.int q17.1), w9], [.int l6, .int l5, .int l1, .ref 128], am_T0 q17.2) rfl rfl ?_
      refine am_Rn.op _ (84, [some (.ref 128), some (.int l1), some (.int l2), some (.int l3), some (.int l4), some (.int l5), some (.int l6), some (.int x.1), some (.int q17.1), w9], [.int 2, .int l6, .int l5, .int l1, .ref 128], am_T0 q17.2) rfl rfl ?_
      refine am_Rn.op _ (85, [some (.ref 128), some (.int l1), some (.int l2), some (.int l3), some (.int l4), some (.int l5), some (.int l6), some (.int x.1), some (.int q17.1), w9], [.int (l6 - 2), .int l5, .int l1, .ref 128], am_T0 q17.2) rfl rfl ?_
      obtain ⟨q18, hq18, h⟩ := l2_b h
      refine am_Rn.cl _ (some (.int q18.1)) (am_T0 q18.2) rfl rfl (rfX8_takerFor (d + 1) N l1 l5 (l6 - 2) q17.2 q18 hq18) ?_
      show am_Rn _ _ _ _ (88, [some (.ref 128), some (.int l1), some (.int l2), some (.int l3), some (.int l4), some (.int l5), some (.int l6), some (.int x.1), some (.int q17.1), w9], [.int q18.1], am_T0 q18.2)
      exact rfX8_tries_88 d N _ l1 l2 l3 l4 l5 l6 x.1 q17.1 q18.1 q18.2 _ h hz _
    · refine am_Rn.ifF hc ?_
      refine am_Rn.op _ (74, [some (.ref 128), some (.int l1), some (.int l2), some (.int l3), some (.int l4), some (.int l5), some (.int l6), some (.int x.1), some (.int q17.1), w9], [.int (-1)], am_T0 q17.2) rfl rfl ?_
      refine am_Rn.op _ (88, [some (.ref 128), some (.int l1), some (.int l2), some (.int l3), some (.int l4), some (.int l5), some (.int l6), some (.int x.1), some (.int q17.1), w9], [.int (-1)], am_T0 q17.2) rfl rfl ?_
      exact rfX8_tries_88 d N _ l1 l2 l3 l4 l5 l6 x.1 q17.1 (-1) q17.2 _ h hz _
theorem rfX8_tries_44 (d N : Nat) (res : Option Value × am_S) (l1 : Int32) (l2 : Int32) (l3 : Int32) (l4 : Int32) (l5 : Int32) (l6 : Int32) (x : Int32 × St) (y : St) (h : fX8_tries_44 N l1 l2 l3 l4 l5 l6 x = some y) (hq : QfX8_tries_44 (d + 3) res l1 l2 l3 l4 l5 l6 y) : PfX8_tries_44 (d + 3) res l1 l2 l3 l4 l5 l6 x := whl_ind _ _ (fun x z => rbfX8_tries_44 d N res l1 l2 l3 l4 l5 l6 x z) N x y h hq
def bfX8_tries_34 (N : Nat) (l1 : Int32) (l2 : Int32) (l3 : Int32) (l4 : Int32) (l5 : Int32) (x : Int32 × St) : Option ((Int32 × St) ⊕ (St)) := (if 8 ≤ x.1 then some (.inr (x.2)) else (fX8_tries_44 N l1 l2 l3 l4 l5 x.1 (0, x.2)).bind (fun y19 => some (.inl ((x.1 + 1), y19))))
def fX8_tries_34 (N : Nat) (l1 : Int32) (l2 : Int32) (l3 : Int32) (l4 : Int32) (l5 : Int32) (x : Int32 × St) : Option (St) := whl N (bfX8_tries_34 N l1 l2 l3 l4 l5 ) x
set_option maxRecDepth 20000 in
theorem rbfX8_tries_34 (d N : Nat) (res : Option Value × am_S) (l1 : Int32) (l2 : Int32) (l3 : Int32) (l4 : Int32) (l5 : Int32) (x : Int32 × St) (z : (Int32 × St) ⊕ (St)) (h : bfX8_tries_34 N l1 l2 l3 l4 l5 x = some z) (hz : Sum.elim (PfX8_tries_34 (d + 3) res l1 l2 l3 l4 l5 ) (QfX8_tries_34 (d + 3) res l1 l2 l3 l4 l5 ) z) : PfX8_tries_34 (d + 3) res l1 l2 l3 l4 l5 x := by
  unfold bfX8_tries_34 at h
  show ∀ (w7 w8 w9 : Option Value), am_Rn (am_C (d + 3)) (am_ct 143) (am_rk 143) res (34, [some (.ref 128), some (.int l1), some (.int l2), some (.int l3), some (.int l4), some (.int l5), some (.int x.1), w7, w8, w9], [], am_T0 x.2)
  intro w7 w8 w9
  refine am_Rn.op _ (36, [some (.ref 128), some (.int l1), some (.int l2), some (.int l3), some (.int l4), some (.int l5), some (.int x.1), w7, w8, w9], [.int x.1], am_T0 x.2) rfl rfl ?_
  refine am_Rn.op _ (38, [some (.ref 128), some (.int l1), some (.int l2), some (.int l3), some (.int l4), some (.int l5), some (.int x.1), w7, w8, w9], [.int 8, .int x.1], am_T0 x.2) rfl rfl ?_
  refine am_Rn.op _ (if 8 ≤ x.1 then 136 else 41, [some (.ref 128), some (.int l1), some (.int l2), some (.int l3), some (.int l4), some (.int l5), some (.int x.1), w7, w8, w9], [], am_T0 x.2) rfl rfl ?_
  rcases l2_i h with ⟨hc, h⟩ | ⟨hc, h⟩
  · refine am_Rn.ifT hc ?_
    cases h
    exact hz _ _ _ _ _ _
  · refine am_Rn.ifF hc ?_
    refine am_Rn.op _ (42, [some (.ref 128), some (.int l1), some (.int l2), some (.int l3), some (.int l4), some (.int l5), some (.int x.1), w7, w8, w9], [.int 0], am_T0 x.2) rfl rfl ?_
    refine am_Rn.op _ (44, [some (.ref 128), some (.int l1), some (.int l2), some (.int l3), some (.int l4), some (.int l5), some (.int x.1), some (.int 0), w8, w9], [], am_T0 x.2) rfl rfl ?_
    obtain ⟨y19, hy19, h⟩ := l2_b h
    refine rfX8_tries_44 d N _ l1 l2 l3 l4 l5 x.1 (0, x.2) y19 hy19 ?_ _ _
    intro w20 w21 w22
    show am_Rn _ _ _ _ (130, [some (.ref 128), some (.int l1), some (.int l2), some (.int l3), some (.int l4), some (.int l5), some (.int x.1), w20, w21, w22], [], am_T0 y19)
    refine am_Rn.op _ (133, [some (.ref 128), some (.int l1), some (.int l2), some (.int l3), some (.int l4), some (.int l5), some (.int (x.1 + 1)), w20, w21, w22], [], am_T0 y19) rfl rfl ?_
    refine am_Rn.op _ (34, [some (.ref 128), some (.int l1), some (.int l2), some (.int l3), some (.int l4), some (.int l5), some (.int (x.1 + 1)), w20, w21, w22], [], am_T0 y19) rfl rfl ?_
    cases h
    exact hz _ _ _
theorem rfX8_tries_34 (d N : Nat) (res : Option Value × am_S) (l1 : Int32) (l2 : Int32) (l3 : Int32) (l4 : Int32) (l5 : Int32) (x : Int32 × St) (y : St) (h : fX8_tries_34 N l1 l2 l3 l4 l5 x = some y) (hq : QfX8_tries_34 (d + 3) res l1 l2 l3 l4 l5 y) : PfX8_tries_34 (d + 3) res l1 l2 l3 l4 l5 x := whl_ind _ _ (fun x z => rbfX8_tries_34 d N res l1 l2 l3 l4 l5 x z) N x y h hq
def fX8_tries (N : Nat) (l1 : Int32) (l2 : Int32) (l3 : Int32) (l4 : Int32) (S : St) : Option St := (fX8_clears N 143 S).bind (fun q23 => (fX8_metOf N (l2 + 1) l3 l4 q23).bind (fun q24 => (if q24.1 = 0 ∨ q24.1 = 1 then (fX8_shutOf N l1 l2 (st_i q24.2 128 23 q24.1)).bind (fun q26 => (fX8_tries_34 N l1 l2 l3 l4 (q26.1 + 1) (0, q26.2)).bind (fun y27 => (fX8_tries_140 N l1 l3 ((q26.1 + 1), y27)).bind (fun y34 => (fX8_tries_172 N l1 l3 y34.1 (0, y34.2)).bind (fun y41 => some y41)))) else none)))
set_option maxRecDepth 20000 in
theorem rfX8_tries (d N : Nat) (l1 : Int32) (l2 : Int32) (l3 : Int32) (l4 : Int32) (S : St) (z : St) (h : fX8_tries N l1 l2 l3 l4 S = some z) : am_C (d + 4) 143 [.ref 128, .int l1, .int l2, .int l3, .int l4] (am_T0 S) (none, am_T0 z) := by
  unfold fX8_tries at h
  show am_Rn (am_C (d + 3)) (am_ct 143) (am_rk 143) (none, am_T0 z) (0, [some (.ref 128), some (.int l1), some (.int l2), some (.int l3), some (.int l4), none, none, none, none, none], [], am_T0 S)
  refine am_Rn.op _ (1, [some (.ref 128), some (.int l1), some (.int l2), some (.int l3), some (.int l4), none, none, none, none, none], [.ref 128], am_T0 S) rfl rfl ?_
  refine am_Rn.op _ (4, [some (.ref 128), some (.int l1), some (.int l2), some (.int l3), some (.int l4), none, none, none, none, none], [.ref 143], am_T0 S) rfl rfl ?_
  obtain ⟨q23, hq23, h⟩ := l2_b h
  refine am_Rn.cl _ none (am_T0 q23) rfl rfl (rfX8_clears (d + 2) N 143 rfl S q23 hq23) ?_
  show am_Rn _ _ _ _ (7, [some (.ref 128), some (.int l1), some (.int l2), some (.int l3), some (.int l4), none, none, none, none, none], [], am_T0 q23)
  refine am_Rn.op _ (8, [some (.ref 128), some (.int l1), some (.int l2), some (.int l3), some (.int l4), none, none, none, none, none], [.ref 128], am_T0 q23) rfl rfl ?_
  refine am_Rn.op _ (9, [some (.ref 128), some (.int l1), some (.int l2), some (.int l3), some (.int l4), none, none, none, none, none], [.ref 128, .ref 128], am_T0 q23) rfl rfl ?_
  refine am_Rn.op _ (10, [some (.ref 128), some (.int l1), some (.int l2), some (.int l3), some (.int l4), none, none, none, none, none], [.int l2, .ref 128, .ref 128], am_T0 q23) rfl rfl ?_
  refine am_Rn.op _ (11, [some (.ref 128), some (.int l1), some (.int l2), some (.int l3), some (.int l4), none, none, none, none, none], [.int 1, .int l2, .ref 128, .ref 128], am_T0 q23) rfl rfl ?_
  refine am_Rn.op _ (12, [some (.ref 128), some (.int l1), some (.int l2), some (.int l3), some (.int l4), none, none, none, none, none], [.int (l2 + 1), .ref 128, .ref 128], am_T0 q23) rfl rfl ?_
  refine am_Rn.op _ (13, [some (.ref 128), some (.int l1), some (.int l2), some (.int l3), some (.int l4), none, none, none, none, none], [.int l3, .int (l2 + 1), .ref 128, .ref 128], am_T0 q23) rfl rfl ?_
  refine am_Rn.op _ (15, [some (.ref 128), some (.int l1), some (.int l2), some (.int l3), some (.int l4), none, none, none, none, none], [.int l4, .int l3, .int (l2 + 1), .ref 128, .ref 128], am_T0 q23) rfl rfl ?_
  obtain ⟨q24, hq24, h⟩ := l2_b h
  refine am_Rn.cl _ (some (.int q24.1)) (am_T0 q24.2) rfl rfl (rfX8_metOf (d + 2) N (l2 + 1) l3 l4 q23 q24 hq24) ?_
  show am_Rn _ _ _ _ (18, [some (.ref 128), some (.int l1), some (.int l2), some (.int l3), some (.int l4), none, none, none, none, none], [.int q24.1, .ref 128], am_T0 q24.2)
  obtain ⟨hb25, h⟩ := l2_y h
  refine am_Rn.putf rfl rfl (l2_bool hb25) ?_
  show am_Rn _ _ _ _ (21, [some (.ref 128), some (.int l1), some (.int l2), some (.int l3), some (.int l4), none, none, none, none, none], [], am_T0 (st_i q24.2 128 23 q24.1))
  refine am_Rn.op _ (22, [some (.ref 128), some (.int l1), some (.int l2), some (.int l3), some (.int l4), none, none, none, none, none], [.ref 128], am_T0 (st_i q24.2 128 23 q24.1)) rfl rfl ?_
  refine am_Rn.op _ (23, [some (.ref 128), some (.int l1), some (.int l2), some (.int l3), some (.int l4), none, none, none, none, none], [.int l1, .ref 128], am_T0 (st_i q24.2 128 23 q24.1)) rfl rfl ?_
  refine am_Rn.op _ (24, [some (.ref 128), some (.int l1), some (.int l2), some (.int l3), some (.int l4), none, none, none, none, none], [.int l2, .int l1, .ref 128], am_T0 (st_i q24.2 128 23 q24.1)) rfl rfl ?_
  obtain ⟨q26, hq26, h⟩ := l2_b h
  refine am_Rn.cl _ (some (.int q26.1)) (am_T0 q26.2) rfl rfl (rfX8_shutOf (d + 2) N l1 l2 (st_i q24.2 128 23 q24.1) q26 hq26) ?_
  show am_Rn _ _ _ _ (27, [some (.ref 128), some (.int l1), some (.int l2), some (.int l3), some (.int l4), none, none, none, none, none], [.int q26.1], am_T0 q26.2)
  refine am_Rn.op _ (28, [some (.ref 128), some (.int l1), some (.int l2), some (.int l3), some (.int l4), none, none, none, none, none], [.int 1, .int q26.1], am_T0 q26.2) rfl rfl ?_
  refine am_Rn.op _ (29, [some (.ref 128), some (.int l1), some (.int l2), some (.int l3), some (.int l4), none, none, none, none, none], [.int (q26.1 + 1)], am_T0 q26.2) rfl rfl ?_
  refine am_Rn.op _ (31, [some (.ref 128), some (.int l1), some (.int l2), some (.int l3), some (.int l4), some (.int (q26.1 + 1)), none, none, none, none], [], am_T0 q26.2) rfl rfl ?_
  refine am_Rn.op _ (32, [some (.ref 128), some (.int l1), some (.int l2), some (.int l3), some (.int l4), some (.int (q26.1 + 1)), none, none, none, none], [.int 0], am_T0 q26.2) rfl rfl ?_
  refine am_Rn.op _ (34, [some (.ref 128), some (.int l1), some (.int l2), some (.int l3), some (.int l4), some (.int (q26.1 + 1)), some (.int 0), none, none, none], [], am_T0 q26.2) rfl rfl ?_
  obtain ⟨y27, hy27, h⟩ := l2_b h
  refine rfX8_tries_34 d N _ l1 l2 l3 l4 (q26.1 + 1) (0, q26.2) y27 hy27 ?_ _ _ _
  intro w28 w29 w30 w31 w32 w33
  show am_Rn _ _ _ _ (136, [some (.ref 128), some (.int l1), w28, some (.int l3), w29, some (.int (q26.1 + 1)), w30, w31, w32, w33], [], am_T0 y27)
  refine am_Rn.op _ (138, [some (.ref 128), some (.int l1), w28, some (.int l3), w29, some (.int (q26.1 + 1)), w30, w31, w32, w33], [.int (q26.1 + 1)], am_T0 y27) rfl rfl ?_
  refine am_Rn.op _ (140, [some (.ref 128), some (.int l1), w28, some (.int l3), w29, some (.int (q26.1 + 1)), some (.int (q26.1 + 1)), w31, w32, w33], [], am_T0 y27) rfl rfl ?_
  obtain ⟨y34, hy34, h⟩ := l2_b h
  refine rfX8_tries_140 d N _ l1 l3 ((q26.1 + 1), y27) y34 hy34 ?_ _ _ _ _ _ _
  intro w35 w36 w37 w38 w39 w40
  show am_Rn _ _ _ _ (169, [some (.ref 128), some (.int l1), w35, some (.int l3), w36, w37, some (.int y34.1), w38, w39, w40], [], am_T0 y34.2)
  refine am_Rn.op _ (170, [some (.ref 128), some (.int l1), w35, some (.int l3), w36, w37, some (.int y34.1), w38, w39, w40], [.int 0], am_T0 y34.2) rfl rfl ?_
  refine am_Rn.op _ (172, [some (.ref 128), some (.int l1), w35, some (.int l3), w36, w37, some (.int y34.1), some (.int 0), w39, w40], [], am_T0 y34.2) rfl rfl ?_
  obtain ⟨y41, hy41, h⟩ := l2_b h
  refine rfX8_tries_172 d N _ l1 l3 y34.1 (0, y34.2) y41 hy41 ?_ _ _ _ _ _
  cases h
  exact rfl
