-- X8_block
def PfX8_block_32 (d : Nat) (res : Option Value × am_S) (l1 : Int32) (l2 : Int32) (l3 : Int32) (l4 : Int32) (x : Int32 × St) : Prop := ∀ (w6 : Option Value), am_Rn (am_C d) (am_ct 136) (am_rk 136) res (32, [some (.ref 128), some (.int l1), some (.int l2), some (.int l3), some (.int l4), some (.int x.1), w6], [], am_T0 x.2)
def QfX8_block_32 (d : Nat) (res : Option Value × am_S) (l1 : Int32) (l2 : Int32) (l3 : Int32) (l4 : Int32) (y : St) : Prop := res = (none, am_T0 y)
def PfX8_block_42 (d : Nat) (res : Option Value × am_S) (l1 : Int32) (l2 : Int32) (l3 : Int32) (l4 : Int32) (l5 : Int32) (x : Int32 × St) : Prop := am_Rn (am_C d) (am_ct 136) (am_rk 136) res (42, [some (.ref 128), some (.int l1), some (.int l2), some (.int l3), some (.int l4), some (.int l5), some (.int x.1)], [], am_T0 x.2)
def QfX8_block_42 (d : Nat) (res : Option Value × am_S) (l1 : Int32) (l2 : Int32) (l3 : Int32) (l4 : Int32) (l5 : Int32) (y : St) : Prop := ∀ (w6 : Option Value), am_Rn (am_C d) (am_ct 136) (am_rk 136) res (77, [some (.ref 128), some (.int l1), some (.int l2), some (.int l3), some (.int l4), some (.int l5), w6], [], am_T0 y)
def bfX8_block_42 (N : Nat) (l1 : Int32) (l2 : Int32) (l3 : Int32) (l4 : Int32) (l5 : Int32) (x : Int32 × St) : Option ((Int32 × St) ⊕ (St)) := (if 4 ≤ x.1 then some (.inr (x.2)) else (fX8_allOf N l1 (l2 + 1) l3 l4 l5 x.1 x.2).bind (fun q1 => (fX8_puts N l5 x.1 q1.1 q1.2).bind (fun q2 => some (.inl ((x.1 + 1), q2)))))
def fX8_block_42 (N : Nat) (l1 : Int32) (l2 : Int32) (l3 : Int32) (l4 : Int32) (l5 : Int32) (x : Int32 × St) : Option (St) := whl N (bfX8_block_42 N l1 l2 l3 l4 l5 ) x
set_option maxRecDepth 20000 in
theorem rbfX8_block_42 (d N : Nat) (res : Option Value × am_S) (l1 : Int32) (l2 : Int32) (l3 : Int32) (l4 : Int32) (l5 : Int32) (x : Int32 × St) (z : (Int32 × St) ⊕ (St)) (h : bfX8_block_42 N l1 l2 l3 l4 l5 x = some z) (hz : Sum.elim (PfX8_block_42 (d + 2) res l1 l2 l3 l4 l5 ) (QfX8_block_42 (d + 2) res l1 l2 l3 l4 l5 ) z) : PfX8_block_42 (d + 2) res l1 l2 l3 l4 l5 x := by
  unfold bfX8_block_42 at h
  show am_Rn (am_C (d + 2)) (am_ct 136) (am_rk 136) res (42, [some (.ref 128), some (.int l1), some (.int l2), some (.int l3), some (.int l4), some (.int l5), some (.int x.1)], [], am_T0 x.2)
  refine am_Rn.op _ (44, [some (.ref 128), some (.int l1), some (.int l2), some (.int l3), some (.int l4), some (.int l5), some (.int x.1)], [.int x.1], am_T0 x.2) rfl rfl ?_
  refine am_Rn.op _ (45, [some (.ref 128), some (.int l1), some (.int l2), some (.int l3), some (.int l4), some (.int l5), some (.int x.1)], [.int 4, .int x.1], am_T0 x.2) rfl rfl ?_
  refine am_Rn.op _ (if 4 ≤ x.1 then 77 else 48, [some (.ref 128), some (.int l1), some (.int l2), some (.int l3), some (.int l4), some (.int l5), some (.int x.1)], [], am_T0 x.2) rfl rfl ?_
  rcases l2_i h with ⟨hc, h⟩ | ⟨hc, h⟩
  · refine am_Rn.ifT hc ?_
    cases h
    exact hz _
  · refine am_Rn.ifF hc ?_
    refine am_Rn.op _ (49, [some (.ref 128), some (.int l1), some (.int l2), some (.int l3), some (.int l4), some (.int l5), some (.int x.1)], [.ref 128], am_T0 x.2) rfl rfl ?_
    refine am_Rn.op _ (51, [some (.ref 128), some (.int l1), some (.int l2), some (.int l3), some (.int l4), some (.int l5), some (.int x.1)], [.int l5, .ref 128], am_T0 x.2) rfl rfl ?_
    refine am_Rn.op _ (53, [some (.ref 128), some (.int l1), some (.int l2), some (.int l3), some (.int l4), some (.int l5), some (.int x.1)], [.int x.1, .int l5, .ref 128], am_T0 x.2) rfl rfl ?_
    refine am_Rn.op _ (54, [some (.ref 128), some (.int l1), some (.int l2), some (.int l3), some (.int l4), some (.int l5), some (.int x.1)], [.ref 128, .int x.1, .int l5, .ref 128], am_T0 x.2) rfl rfl ?_
    refine am_Rn.op _ (55, [some (.ref 128), some (.int l1), some (.int l2), some (.int l3), some (.int l4), some (.int l5), some (.int x.1)], [.int l1, .ref 128, .int x.1, .int l5, .ref 128], am_T0 x.2) rfl rfl ?_
    refine am_Rn.op _ (56, [some (.ref 128), some (.int l1), some (.int l2), some (.int l3), some (.int l4), some (.int l5), some (.int x.1)], [.int l2, .int l1, .ref 128, .int x.1, .int l5, .ref 128], am_T0 x.2) rfl rfl ?_
    refine am_Rn.op _ (57, [some (.ref 128), some (.int l1), some (.int l2), some (.int l3), some (.int l4), some (.int l5), some (.int x.1)], [.int 1, .int l2, .int l1, .ref 128, .int x.1, .int l5, .ref 128], am_T0 x.2) rfl rfl ?_
    refine am_Rn.op _ (58, [some (.ref 128), some (.int l1), some (.int l2), some (.int l3), some (.int l4), some (.int l5), some (.int x.1)], [.int (l2 + 1), .int l1, .ref 128, .int x.1, .int l5, .ref 128], am_T0 x.2) rfl rfl ?_
    refine am_Rn.op _ (59, [some (.ref 128), some (.int l1), some (.int l2), some (.int l3), some (.int l4), some (.int l5), some (.int x.1)], [.int l3, .int (l2 + 1), .int l1, .ref 128, .int x.1, .int l5, .ref 128], am_T0 x.2) rfl rfl ?_
    refine am_Rn.op _ (61, [some (.ref 128), some (.int l1), some (.int l2), some (.int l3), some (.int l4), some (.int l5), some (.int x.1)], [.int l4, .int l3, .int (l2 + 1), .int l1, .ref 128, .int x.1, .int l5, .ref 128], am_T0 x.2) rfl rfl ?_
    refine am_Rn.op _ (63, [some (.ref 128), some (.int l1), some (.int l2), some (.int l3), some (.int l4), some (.int l5), some (.int x.1)], [.int l5, .int l4, .int l3, .int (l2 + 1), .int l1, .ref 128, .int x.1, .int l5, .ref 128], am_T0 x.2) rfl rfl ?_
    refine am_Rn.op _ (65, [some (.ref 128), some (.int l1), some (.int l2), some (.int l3), some (.int l4), some (.int l5), some (.int x.1)], [.int x.1, .int l5, .int l4, .int l3, .int (l2 + 1), .int l1, .ref 128, .int x.1, .int l5, .ref 128], am_T0 x.2) rfl rfl ?_
    obtain ⟨q1, hq1, h⟩ := l2_b h
    refine am_Rn.cl _ (some (.int q1.1)) (am_T0 q1.2) rfl rfl (rfX8_allOf (d + 0) N l1 (l2 + 1) l3 l4 l5 x.1 x.2 q1 hq1) ?_
    show am_Rn _ _ _ _ (68, [some (.ref 128), some (.int l1), some (.int l2), some (.int l3), some (.int l4), some (.int l5), some (.int x.1)], [.int q1.1, .int x.1, .int l5, .ref 128], am_T0 q1.2)
    obtain ⟨q2, hq2, h⟩ := l2_b h
    refine am_Rn.cl _ none (am_T0 q2) rfl rfl (rfX8_puts (d + 0) N l5 x.1 q1.1 q1.2 q2 hq2) ?_
    show am_Rn _ _ _ _ (71, [some (.ref 128), some (.int l1), some (.int l2), some (.int l3), some (.int l4), some (.int l5), some (.int x.1)], [], am_T0 q2)
    refine am_Rn.op _ (74, [some (.ref 128), some (.int l1), some (.int l2), some (.int l3), some (.int l4), some (.int l5), some (.int (x.1 + 1))], [], am_T0 q2) rfl rfl ?_
    refine am_Rn.op _ (42, [some (.ref 128), some (.int l1), some (.int l2), some (.int l3), some (.int l4), some (.int l5), some (.int (x.1 + 1))], [], am_T0 q2) rfl rfl ?_
    cases h
    exact hz 
theorem rfX8_block_42 (d N : Nat) (res : Option Value × am_S) (l1 : Int32) (l2 : Int32) (l3 : Int32) (l4 : Int32) (l5 : Int32) (x : Int32 × St) (y : St) (h : fX8_block_42 N l1 l2 l3 l4 l5 x = some y) (hq : QfX8_block_42 (d + 2) res l1 l2 l3 l4 l5 y) : PfX8_block_42 (d + 2) res l1 l2 l3 l4 l5 x := whl_ind _ _ (fun x z => rbfX8_block_42 d N res l1 l2 l3 l4 l5 x z) N x y h hq
def bfX8_block_32 (N : Nat) (l1 : Int32) (l2 : Int32) (l3 : Int32) (l4 : Int32) (x : Int32 × St) : Option ((Int32 × St) ⊕ (St)) := (if 8 ≤ x.1 then some (.inr x.2) else (fX8_block_42 N l1 l2 l3 l4 x.1 (0, x.2)).bind (fun y3 => some (.inl ((x.1 + 1), y3))))
def fX8_block_32 (N : Nat) (l1 : Int32) (l2 : Int32) (l3 : Int32) (l4 : Int32) (x : Int32 × St) : Option (St) := whl N (bfX8_block_32 N l1 l2 l3 l4 ) x
set_option maxRecDepth 20000 in
theorem rbfX8_block_32 (d N : Nat) (res : Option Value × am_S) (l1 : Int32) (l2 : Int32) (l3 : Int32) (l4 : Int32) (x : Int32 × St) (z : (Int32 × St) ⊕ (St)) (h : bfX8_block_32 N l1 l2 l3 l4 x = some z) (hz : Sum.elim (PfX8_block_32 (d + 2) res l1 l2 l3 l4 ) (QfX8_block_32 (d + 2) res l1 l2 l3 l4 ) z) : PfX8_block_32 (d + 2) res l1 l2 l3 l4 x := by
  unfold bfX8_block_32 at h
  show ∀ (w6 : Option Value), am_Rn (am_C (d + 2)) (am_ct 136) (am_rk 136) res (32, [some (.ref 128), some (.int l1), some (.int l2), some (.int l3), some (.int l4), some (.int x.1), w6], [], am_T0 x.2)
  intro w6
  refine am_Rn.op _ (34, [some (.ref 128), some (.int l1), some (.int l2), some (.int l3), some (.int l4), some (.int x.1), w6], [.int x.1], am_T0 x.2) rfl rfl ?_
  refine am_Rn.op _ (36, [some (.ref 128), some (.int l1), some (.int l2), some (.int l3), some (.int l4), some (.int x.1), w6], [.int 8, .int x.1], am_T0 x.2) rfl rfl ?_
  refine am_Rn.op _ (if 8 ≤ x.1 then 83 else 39, [some (.ref 128), some (.int l1), some (.int l2), some (.int l3), some (.int l4), some (.int x.1), w6], [], am_T0 x.2) rfl rfl ?_
  rcases l2_i h with ⟨hc, h⟩ | ⟨hc, h⟩
  · refine am_Rn.ifT hc ?_
    cases h
    exact am_Rn.rt2 _ rfl rfl hz
  · refine am_Rn.ifF hc ?_
    refine am_Rn.op _ (40, [some (.ref 128), some (.int l1), some (.int l2), some (.int l3), some (.int l4), some (.int x.1), w6], [.int 0], am_T0 x.2) rfl rfl ?_
    refine am_Rn.op _ (42, [some (.ref 128), some (.int l1), some (.int l2), some (.int l3), some (.int l4), some (.int x.1), some (.int 0)], [], am_T0 x.2) rfl rfl ?_
    obtain ⟨y3, hy3, h⟩ := l2_b h
    refine rfX8_block_42 d N _ l1 l2 l3 l4 x.1 (0, x.2) y3 hy3 ?_ 
    intro w4
    show am_Rn _ _ _ _ (77, [some (.ref 128), some (.int l1), some (.int l2), some (.int l3), some (.int l4), some (.int x.1), w4], [], am_T0 y3)
    refine am_Rn.op _ (80, [some (.ref 128), some (.int l1), some (.int l2), some (.int l3), some (.int l4), some (.int (x.1 + 1)), w4], [], am_T0 y3) rfl rfl ?_
    refine am_Rn.op _ (32, [some (.ref 128), some (.int l1), some (.int l2), some (.int l3), some (.int l4), some (.int (x.1 + 1)), w4], [], am_T0 y3) rfl rfl ?_
    cases h
    exact hz _
theorem rfX8_block_32 (d N : Nat) (res : Option Value × am_S) (l1 : Int32) (l2 : Int32) (l3 : Int32) (l4 : Int32) (x : Int32 × St) (y : St) (h : fX8_block_32 N l1 l2 l3 l4 x = some y) (hq : QfX8_block_32 (d + 2) res l1 l2 l3 l4 y) : PfX8_block_32 (d + 2) res l1 l2 l3 l4 x := whl_ind _ _ (fun x z => rbfX8_block_32 d N res l1 l2 l3 l4 x z) N x y h hq
def fX8_block_26 (N : Nat) (l1 : Int32) (l2 : Int32) (l3 : Int32) (l4 : Int32) (s1 : Int32) (S : St) : Option St := (if s1 = 0 ∨ s1 = 1 then (fX8_block_32 N l1 l2 l3 l4 (0, (st_i S 128 23 s1))).bind (fun y6 => some y6) else none)
set_option maxRecDepth 20000 in
theorem rfX8_block_26 (d N : Nat) (l1 : Int32) (l2 : Int32) (l3 : Int32) (l4 : Int32) (s1 : Int32) (S : St) (z : St) (h : fX8_block_26 N l1 l2 l3 l4 s1 S = some z) (w5 : Option Value) (w6 : Option Value) : am_Rn (am_C (d + 2)) (am_ct 136) (am_rk 136) (none, am_T0 z) (26, [some (.ref 128), some (.int l1), some (.int l2), some (.int l3), some (.int l4), w5, w6], [.int s1, .ref 128], am_T0 S) := by
  unfold fX8_block_26 at h
  obtain ⟨hb5, h⟩ := l2_y h
  refine am_Rn.putf rfl rfl (l2_bool hb5) ?_
  show am_Rn _ _ _ _ (29, [some (.ref 128), some (.int l1), some (.int l2), some (.int l3), some (.int l4), w5, w6], [], am_T0 (st_i S 128 23 s1))
  refine am_Rn.op _ (30, [some (.ref 128), some (.int l1), some (.int l2), some (.int l3), some (.int l4), w5, w6], [.int 0], am_T0 (st_i S 128 23 s1)) rfl rfl ?_
  refine am_Rn.op _ (32, [some (.ref 128), some (.int l1), some (.int l2), some (.int l3), some (.int l4), some (.int 0), w6], [], am_T0 (st_i S 128 23 s1)) rfl rfl ?_
  obtain ⟨y6, hy6, h⟩ := l2_b h
  refine rfX8_block_32 d N _ l1 l2 l3 l4 (0, (st_i S 128 23 s1)) y6 hy6 ?_ _
  cases h
  exact rfl
def fX8_block_21 (N : Nat) (l1 : Int32) (l2 : Int32) (l3 : Int32) (l4 : Int32) (S : St) : Option St := fX8_block_26 N l1 l2 l3 l4 1 S
set_option maxRecDepth 20000 in
theorem rfX8_block_21 (d N : Nat) (l1 : Int32) (l2 : Int32) (l3 : Int32) (l4 : Int32) (S : St) (z : St) (h : fX8_block_21 N l1 l2 l3 l4 S = some z) (w5 : Option Value) (w6 : Option Value) : am_Rn (am_C (d + 2)) (am_ct 136) (am_rk 136) (none, am_T0 z) (21, [some (.ref 128), some (.int l1), some (.int l2), some (.int l3), some (.int l4), w5, w6], [.ref 128], am_T0 S) := by
  unfold fX8_block_21 at h
  refine am_Rn.op _ (22, [some (.ref 128), some (.int l1), some (.int l2), some (.int l3), some (.int l4), w5, w6], [.int 1, .ref 128], am_T0 S) rfl rfl ?_
  refine am_Rn.op _ (26, [some (.ref 128), some (.int l1), some (.int l2), some (.int l3), some (.int l4), w5, w6], [.int 1, .ref 128], am_T0 S) rfl rfl ?_
  exact rfX8_block_26 d N l1 l2 l3 l4 1 S _ h _ _
def fX8_block (N : Nat) (l1 : Int32) (l2 : Int32) (l3 : Int32) (l4 : Int32) (S : St) : Option St := (if (S.1 128 23) = 0 then (fX8_metOf N (l2 + 1) l3 l4 S).bind (fun q7 => (if q7.1 = 0 then fX8_block_26 N l1 l2 l3 l4 0 q7.2 else fX8_block_21 N l1 l2 l3 l4 q7.2)) else fX8_block_21 N l1 l2 l3 l4 S)
set_option maxRecDepth 20000 in
theorem rfX8_block (d N : Nat) (l1 : Int32) (l2 : Int32) (l3 : Int32) (l4 : Int32) (S : St) (z : St) (h : fX8_block N l1 l2 l3 l4 S = some z) : am_C (d + 3) 136 [.ref 128, .int l1, .int l2, .int l3, .int l4] (am_T0 S) (none, am_T0 z) := by
  unfold fX8_block at h
  show am_Rn (am_C (d + 2)) (am_ct 136) (am_rk 136) (none, am_T0 z) (0, [some (.ref 128), some (.int l1), some (.int l2), some (.int l3), some (.int l4), none, none], [], am_T0 S)
  refine am_Rn.op _ (1, [some (.ref 128), some (.int l1), some (.int l2), some (.int l3), some (.int l4), none, none], [.ref 128], am_T0 S) rfl rfl ?_
  refine am_Rn.op _ (2, [some (.ref 128), some (.int l1), some (.int l2), some (.int l3), some (.int l4), none, none], [.ref 128, .ref 128], am_T0 S) rfl rfl ?_
  refine am_Rn.op _ (5, [some (.ref 128), some (.int l1), some (.int l2), some (.int l3), some (.int l4), none, none], [.int (S.1 128 23), .ref 128], am_T0 S) rfl rfl ?_
  refine am_Rn.op _ (if (S.1 128 23) = 0 then 8 else 21, [some (.ref 128), some (.int l1), some (.int l2), some (.int l3), some (.int l4), none, none], [.ref 128], am_T0 S) rfl rfl ?_
  rcases l2_i h with ⟨hc, h⟩ | ⟨hc, h⟩
  · refine am_Rn.ifT hc ?_
    refine am_Rn.op _ (9, [some (.ref 128), some (.int l1), some (.int l2), some (.int l3), some (.int l4), none, none], [.ref 128, .ref 128], am_T0 S) rfl rfl ?_
    refine am_Rn.op _ (10, [some (.ref 128), some (.int l1), some (.int l2), some (.int l3), some (.int l4), none, none], [.int l2, .ref 128, .ref 128], am_T0 S) rfl rfl ?_
    refine am_Rn.op _ (11, [some (.ref 128), some (.int l1), some (.int l2), some (.int l3), some (.int l4), none, none], [.int 1, .int l2, .ref 128, .ref 128], am_T0 S) rfl rfl ?_
    refine am_Rn.op _ (12, [some (.ref 128), some (.int l1), some (.int l2), some (.int l3), some (.int l4), none, none], [.int (l2 + 1), .ref 128, .ref 128], am_T0 S) rfl rfl ?_
    refine am_Rn.op _ (13, [some (.ref 128), some (.int l1), some (.int l2), some (.int l3), some (.int l4), none, none], [.int l3, .int (l2 + 1), .ref 128, .ref 128], am_T0 S) rfl rfl ?_
    refine am_Rn.op _ (15, [some (.ref 128), some (.int l1), some (.int l2), some (.int l3), some (.int l4), none, none], [.int l4, .int l3, .int (l2 + 1), .ref 128, .ref 128], am_T0 S) rfl rfl ?_
    obtain ⟨q7, hq7, h⟩ := l2_b h
    refine am_Rn.cl _ (some (.int q7.1)) (am_T0 q7.2) rfl rfl (rfX8_metOf (d + 1) N (l2 + 1) l3 l4 S q7 hq7) ?_
    show am_Rn _ _ _ _ (18, [some (.ref 128), some (.int l1), some (.int l2), some (.int l3), some (.int l4), none, none], [.int q7.1, .ref 128], am_T0 q7.2)
    refine am_Rn.op _ (if q7.1 = 0 then 25 else 21, [some (.ref 128), some (.int l1), some (.int l2), some (.int l3), some (.int l4), none, none], [.ref 128], am_T0 q7.2) rfl rfl ?_
    rcases l2_i h with ⟨hc, h⟩ | ⟨hc, h⟩
    · refine am_Rn.ifT hc ?_
      refine am_Rn.op _ (26, [some (.ref 128), some (.int l1), some (.int l2), some (.int l3), some (.int l4), none, none], [.int 0, .ref 128], am_T0 q7.2) rfl rfl ?_
      exact rfX8_block_26 d N l1 l2 l3 l4 0 q7.2 _ h _ _
    · refine am_Rn.ifF hc ?_
      exact rfX8_block_21 d N l1 l2 l3 l4 q7.2 _ h _ _
  · refine am_Rn.ifF hc ?_
    exact rfX8_block_21 d N l1 l2 l3 l4 S _ h _ _
-- X8_calls
def PfX8_calls_2 (d : Nat) (res : Option Value × am_S) (l1 : Int32) (l2 : Int32) (x : Int32 × St) : Prop := ∀ (w4 : Option Value), am_Rn (am_C d) (am_ct 137) (am_rk 137) res (2, [some (.ref 128), some (.int l1), some (.int l2), some (.int x.1), w4], [], am_T0 x.2)
def QfX8_calls_2 (d : Nat) (res : Option Value × am_S) (l1 : Int32) (l2 : Int32) (y : St) : Prop := res = (none, am_T0 y)
def PfX8_calls_11 (d : Nat) (res : Option Value × am_S) (l1 : Int32) (l2 : Int32) (l3 : Int32) (x : Int32 × St) : Prop := am_Rn (am_C d) (am_ct 137) (am_rk 137) res (11, [some (.ref 128), some (.int l1), some (.int l2), some (.int l3), some (.int x.1)], [], am_T0 x.2)
def QfX8_calls_11 (d : Nat) (res : Option Value × am_S) (l1 : Int32) (l2 : Int32) (l3 : Int32) (y : St) : Prop := ∀ (w4 : Option Value), am_Rn (am_C d) (am_ct 137) (am_rk 137) res (66, [some (.ref 128), some (.int l1), some (.int l2), some (.int l3), w4], [], am_T0 y)
def fX8_calls_31 (N : Nat) (l1 : Int32) (l2 : Int32) (l3 : Int32) (l4 : Int32) (s1 : Int32) (S : St) : Option ((Int32 × St) ⊕ (St)) := (if ((((((l1 * 4) + l2) * 7) + l3) * 4) + l4) < 0 ∨ 896 ≤ Int32.toNatClampNeg ((((((l1 * 4) + l2) * 7) + l3) * 4) + l4) then none else (fX8_sum N 1 (S.1 141 (Int32.toNatClampNeg ((((((l1 * 4) + l2) * 7) + l3) * 4) + l4))) S).bind (fun q2 => (fX8_puts N s1 l4 q2.1 q2.2).bind (fun q3 => some (.inl ((l4 + 1), q3)))))
set_option maxRecDepth 20000 in
theorem rfX8_calls_31 (d N : Nat) (res : Option Value × am_S) (l1 : Int32) (l2 : Int32) (l3 : Int32) (l4 : Int32) (s1 : Int32) (S : St) (z : (Int32 × St) ⊕ (St)) (h : fX8_calls_31 N l1 l2 l3 l4 s1 S = some z) (hz : Sum.elim (PfX8_calls_11 (d + 2) res l1 l2 l3 ) (QfX8_calls_11 (d + 2) res l1 l2 l3 ) z) : am_Rn (am_C (d + 2)) (am_ct 137) (am_rk 137) res (31, [some (.ref 128), some (.int l1), some (.int l2), some (.int l3), some (.int l4)], [.int s1, .ref 128], am_T0 S) := by
  unfold fX8_calls_31 at h
  refine am_Rn.op _ (33, [some (.ref 128), some (.int l1), some (.int l2), some (.int l3), some (.int l4)], [.int l4, .int s1, .ref 128], am_T0 S) rfl rfl ?_
  refine am_Rn.op _ (34, [some (.ref 128), some (.int l1), some (.int l2), some (.int l3), some (.int l4)], [.int 1, .int l4, .int s1, .ref 128], am_T0 S) rfl rfl ?_
  refine am_Rn.op _ (35, [some (.ref 128), some (.int l1), some (.int l2), some (.int l3), some (.int l4)], [.ref 128, .int 1, .int l4, .int s1, .ref 128], am_T0 S) rfl rfl ?_
  refine am_Rn.op _ (38, [some (.ref 128), some (.int l1), some (.int l2), some (.int l3), some (.int l4)], [.ref 141, .int 1, .int l4, .int s1, .ref 128], am_T0 S) rfl rfl ?_
  refine am_Rn.op _ (39, [some (.ref 128), some (.int l1), some (.int l2), some (.int l3), some (.int l4)], [.int l1, .ref 141, .int 1, .int l4, .int s1, .ref 128], am_T0 S) rfl rfl ?_
  refine am_Rn.op _ (40, [some (.ref 128), some (.int l1), some (.int l2), some (.int l3), some (.int l4)], [.int 4, .int l1, .ref 141, .int 1, .int l4, .int s1, .ref 128], am_T0 S) rfl rfl ?_
  refine am_Rn.op _ (41, [some (.ref 128), some (.int l1), some (.int l2), some (.int l3), some (.int l4)], [.int (l1 * 4), .ref 141, .int 1, .int l4, .int s1, .ref 128], am_T0 S) rfl rfl ?_
  refine am_Rn.op _ (42, [some (.ref 128), some (.int l1), some (.int l2), some (.int l3), some (.int l4)], [.int l2, .int (l1 * 4), .ref 141, .int 1, .int l4, .int s1, .ref 128], am_T0 S) rfl rfl ?_
  refine am_Rn.op _ (43, [some (.ref 128), some (.int l1), some (.int l2), some (.int l3), some (.int l4)], [.int ((l1 * 4) + l2), .ref 141, .int 1, .int l4, .int s1, .ref 128], am_T0 S) rfl rfl ?_
  refine am_Rn.op _ (45, [some (.ref 128), some (.int l1), some (.int l2), some (.int l3), some (.int l4)], [.int 7, .int ((l1 * 4) + l2), .ref 141, .int 1, .int l4, .int s1, .ref 128], am_T0 S) rfl rfl ?_
  refine am_Rn.op _ (46, [some (.ref 128), some (.int l1), some (.int l2), some (.int l3), some (.int l4)], [.int (((l1 * 4) + l2) * 7), .ref 141, .int 1, .int l4, .int s1, .ref 128], am_T0 S) rfl rfl ?_
  refine am_Rn.op _ (47, [some (.ref 128), some (.int l1), some (.int l2), some (.int l3), some (.int l4)], [.int l3, .int (((l1 * 4) + l2) * 7), .ref 141, .int 1, .int l4, .int s1, .ref 128], am_T0 S) rfl rfl ?_
  refine am_Rn.op _ (48, [some (.ref 128), some (.int l1), some (.int l2), some (.int l3), some (.int l4)], [.int ((((l1 * 4) + l2) * 7) + l3), .ref 141, .int 1, .int l4, .int s1, .ref 128], am_T0 S) rfl rfl ?_
  refine am_Rn.op _ (49, [some (.ref 128), some (.int l1), some (.int l2), some (.int l3), some (.int l4)], [.int 4, .int ((((l1 * 4) + l2) * 7) + l3), .ref 141, .int 1, .int l4, .int s1, .ref 128], am_T0 S) rfl rfl ?_
  refine am_Rn.op _ (50, [some (.ref 128), some (.int l1), some (.int l2), some (.int l3), some (.int l4)], [.int (((((l1 * 4) + l2) * 7) + l3) * 4), .ref 141, .int 1, .int l4, .int s1, .ref 128], am_T0 S) rfl rfl ?_
  refine am_Rn.op _ (52, [some (.ref 128), some (.int l1), some (.int l2), some (.int l3), some (.int l4)], [.int l4, .int (((((l1 * 4) + l2) * 7) + l3) * 4), .ref 141, .int 1, .int l4, .int s1, .ref 128], am_T0 S) rfl rfl ?_
  refine am_Rn.op _ (53, [some (.ref 128), some (.int l1), some (.int l2), some (.int l3), some (.int l4)], [.int ((((((l1 * 4) + l2) * 7) + l3) * 4) + l4), .ref 141, .int 1, .int l4, .int s1, .ref 128], am_T0 S) rfl rfl ?_
  obtain ⟨hb1, h⟩ := l2_n h
  refine am_Rn.iald (n := 896) rfl rfl hb1 ?_
  show am_Rn _ _ _ _ (54, [some (.ref 128), some (.int l1), some (.int l2), some (.int l3), some (.int l4)], [.int (S.1 141 (Int32.toNatClampNeg ((((((l1 * 4) + l2) * 7) + l3) * 4) + l4))), .int 1, .int l4, .int s1, .ref 128], am_T0 S)
  obtain ⟨q2, hq2, h⟩ := l2_b h
  refine am_Rn.cl _ (some (.int q2.1)) (am_T0 q2.2) rfl rfl (rfX8_sum (d + 0) N 1 (S.1 141 (Int32.toNatClampNeg ((((((l1 * 4) + l2) * 7) + l3) * 4) + l4))) S q2 hq2) ?_
  show am_Rn _ _ _ _ (57, [some (.ref 128), some (.int l1), some (.int l2), some (.int l3), some (.int l4)], [.int q2.1, .int l4, .int s1, .ref 128], am_T0 q2.2)
  obtain ⟨q3, hq3, h⟩ := l2_b h
  refine am_Rn.cl _ none (am_T0 q3) rfl rfl (rfX8_puts (d + 0) N s1 l4 q2.1 q2.2 q3 hq3) ?_
  show am_Rn _ _ _ _ (60, [some (.ref 128), some (.int l1), some (.int l2), some (.int l3), some (.int l4)], [], am_T0 q3)
  refine am_Rn.op _ (63, [some (.ref 128), some (.int l1), some (.int l2), some (.int l3), some (.int (l4 + 1))], [], am_T0 q3) rfl rfl ?_
  refine am_Rn.op _ (11, [some (.ref 128), some (.int l1), some (.int l2), some (.int l3), some (.int (l4 + 1))], [], am_T0 q3) rfl rfl ?_
  cases h
  exact hz 
def bfX8_calls_11 (N : Nat) (l1 : Int32) (l2 : Int32) (l3 : Int32) (x : Int32 × St) : Option ((Int32 × St) ⊕ (St)) := (if 4 ≤ x.1 then some (.inr (x.2)) else (if l3 = 0 then fX8_calls_31 N l1 l2 l3 x.1 0 x.2 else fX8_calls_31 N l1 l2 l3 x.1 ((2 + l3) - 1) x.2))
def fX8_calls_11 (N : Nat) (l1 : Int32) (l2 : Int32) (l3 : Int32) (x : Int32 × St) : Option (St) := whl N (bfX8_calls_11 N l1 l2 l3 ) x
set_option maxRecDepth 20000 in
theorem rbfX8_calls_11 (d N : Nat) (res : Option Value × am_S) (l1 : Int32) (l2 : Int32) (l3 : Int32) (x : Int32 × St) (z : (Int32 × St) ⊕ (St)) (h : bfX8_calls_11 N l1 l2 l3 x = some z) (hz : Sum.elim (PfX8_calls_11 (d + 2) res l1 l2 l3 ) (QfX8_calls_11 (d + 2) res l1 l2 l3 ) z) : PfX8_calls_11 (d + 2) res l1 l2 l3 x := by
  unfold bfX8_calls_11 at h
  show am_Rn (am_C (d + 2)) (am_ct 137) (am_rk 137) res (11, [some (.ref 128), some (.int l1), some (.int l2), some (.int l3), some (.int x.1)], [], am_T0 x.2)
  refine am_Rn.op _ (13, [some (.ref 128), some (.int l1), some (.int l2), some (.int l3), some (.int x.1)], [.int x.1], am_T0 x.2) rfl rfl ?_
  refine am_Rn.op _ (14, [some (.ref 128), some (.int l1), some (.int l2), some (.int l3), some (.int x.1)], [.int 4, .int x.1], am_T0 x.2) rfl rfl ?_
  refine am_Rn.op _ (if 4 ≤ x.1 then 66 else 17, [some (.ref 128), some (.int l1), some (.int l2), some (.int l3), some (.int x.1)], [], am_T0 x.2) rfl rfl ?_
  rcases l2_i h with ⟨hc, h⟩ | ⟨hc, h⟩
  · refine am_Rn.ifT hc ?_
    cases h
    exact hz _
  · refine am_Rn.ifF hc ?_
    refine am_Rn.op _ (18, [some (.ref 128), some (.int l1), some (.int l2), some (.int l3), some (.int x.1)], [.ref 128], am_T0 x.2) rfl rfl ?_
    refine am_Rn.op _ (19, [some (.ref 128), some (.int l1), some (.int l2), some (.int l3), some (.int x.1)], [.int l3, .ref 128], am_T0 x.2) rfl rfl ?_
    refine am_Rn.op _ (if l3 = 0 then 22 else 26, [some (.ref 128), some (.int l1), some (.int l2), some (.int l3), some (.int x.1)], [.ref 128], am_T0 x.2) rfl rfl ?_
    rcases l2_i h with ⟨hc, h⟩ | ⟨hc, h⟩
    · refine am_Rn.ifT hc ?_
      refine am_Rn.op _ (23, [some (.ref 128), some (.int l1), some (.int l2), some (.int l3), some (.int x.1)], [.int 0, .ref 128], am_T0 x.2) rfl rfl ?_
      refine am_Rn.op _ (31, [some (.ref 128), some (.int l1), some (.int l2), some (.int l3), some (.int x.1)], [.int 0, .ref 128], am_T0 x.2) rfl rfl ?_
      exact rfX8_calls_31 d N _ l1 l2 l3 x.1 0 x.2 _ h hz 
    · refine am_Rn.ifF hc ?_
      refine am_Rn.op _ (27, [some (.ref 128), some (.int l1), some (.int l2), some (.int l3), some (.int x.1)], [.int 2, .ref 128], am_T0 x.2) rfl rfl ?_
      refine am_Rn.op _ (28, [some (.ref 128), some (.int l1), some (.int l2), some (.int l3), some (.int x.1)], [.int l3, .int 2, .ref 128], am_T0 x.2) rfl rfl ?_
      refine am_Rn.op _ (29, [some (.ref 128), some (.int l1), some (.int l2), some (.int l3), some (.int x.1)], [.int (2 + l3), .ref 128], am_T0 x.2) rfl rfl ?_
      refine am_Rn.op _ (30, [some (.ref 128), some (.int l1), some (.int l2), some (.int l3), some (.int x.1)], [.int 1, .int (2 + l3), .ref 128], am_T0 x.2) rfl rfl ?_
      refine am_Rn.op _ (31, [some (.ref 128), some (.int l1), some (.int l2), some (.int l3), some (.int x.1)], [.int ((2 + l3) - 1), .ref 128], am_T0 x.2) rfl rfl ?_
      exact rfX8_calls_31 d N _ l1 l2 l3 x.1 ((2 + l3) - 1) x.2 _ h hz 
theorem rfX8_calls_11 (d N : Nat) (res : Option Value × am_S) (l1 : Int32) (l2 : Int32) (l3 : Int32) (x : Int32 × St) (y : St) (h : fX8_calls_11 N l1 l2 l3 x = some y) (hq : QfX8_calls_11 (d + 2) res l1 l2 l3 y) : PfX8_calls_11 (d + 2) res l1 l2 l3 x := whl_ind _ _ (fun x z => rbfX8_calls_11 d N res l1 l2 l3 x z) N x y h hq
def bfX8_calls_2 (N : Nat) (l1 : Int32) (l2 : Int32) (x : Int32 × St) : Option ((Int32 × St) ⊕ (St)) := (if 7 ≤ x.1 then some (.inr x.2) else (fX8_calls_11 N l1 l2 x.1 (0, x.2)).bind (fun y4 => some (.inl ((x.1 + 1), y4))))
def fX8_calls_2 (N : Nat) (l1 : Int32) (l2 : Int32) (x : Int32 × St) : Option (St) := whl N (bfX8_calls_2 N l1 l2 ) x
set_option maxRecDepth 20000 in
theorem rbfX8_calls_2 (d N : Nat) (res : Option Value × am_S) (l1 : Int32) (l2 : Int32) (x : Int32 × St) (z : (Int32 × St) ⊕ (St)) (h : bfX8_calls_2 N l1 l2 x = some z) (hz : Sum.elim (PfX8_calls_2 (d + 2) res l1 l2 ) (QfX8_calls_2 (d + 2) res l1 l2 ) z) : PfX8_calls_2 (d + 2) res l1 l2 x := by
  unfold bfX8_calls_2 at h
  show ∀ (w4 : Option Value), am_Rn (am_C (d + 2)) (am_ct 137) (am_rk 137) res (2, [some (.ref 128), some (.int l1), some (.int l2), some (.int x.1), w4], [], am_T0 x.2)
  intro w4
  refine am_Rn.op _ (3, [some (.ref 128), some (.int l1), some (.int l2), some (.int x.1), w4], [.int x.1], am_T0 x.2) rfl rfl ?_
  refine am_Rn.op _ (5, [some (.ref 128), some (.int l1), some (.int l2), some (.int x.1), w4], [.int 7, .int x.1], am_T0 x.2) rfl rfl ?_
  refine am_Rn.op _ (if 7 ≤ x.1 then 72 else 8, [some (.ref 128), some (.int l1), some (.int l2), some (.int x.1), w4], [], am_T0 x.2) rfl rfl ?_
  rcases l2_i h with ⟨hc, h⟩ | ⟨hc, h⟩
  · refine am_Rn.ifT hc ?_
    cases h
    exact am_Rn.rt2 _ rfl rfl hz
  · refine am_Rn.ifF hc ?_
    refine am_Rn.op _ (9, [some (.ref 128), some (.int l1), some (.int l2), some (.int x.1), w4], [.int 0], am_T0 x.2) rfl rfl ?_
    refine am_Rn.op _ (11, [some (.ref 128), some (.int l1), some (.int l2), some (.int x.1), some (.int 0)], [], am_T0 x.2) rfl rfl ?_
    obtain ⟨y4, hy4, h⟩ := l2_b h
    refine rfX8_calls_11 d N _ l1 l2 x.1 (0, x.2) y4 hy4 ?_ 
    intro w5
    show am_Rn _ _ _ _ (66, [some (.ref 128), some (.int l1), some (.int l2), some (.int x.1), w5], [], am_T0 y4)
    refine am_Rn.op _ (69, [some (.ref 128), some (.int l1), some (.int l2), some (.int (x.1 + 1)), w5], [], am_T0 y4) rfl rfl ?_
    refine am_Rn.op _ (2, [some (.ref 128), some (.int l1), some (.int l2), some (.int (x.1 + 1)), w5], [], am_T0 y4) rfl rfl ?_
    cases h
    exact hz _
theorem rfX8_calls_2 (d N : Nat) (res : Option Value × am_S) (l1 : Int32) (l2 : Int32) (x : Int32 × St) (y : St) (h : fX8_calls_2 N l1 l2 x = some y) (hq : QfX8_calls_2 (d + 2) res l1 l2 y) : PfX8_calls_2 (d + 2) res l1 l2 x := whl_ind _ _ (fun x z => rbfX8_calls_2 d N res l1 l2 x z) N x y h hq
def fX8_calls (N : Nat) (l1 : Int32) (l2 : Int32) (S : St) : Option St := (fX8_calls_2 N l1 l2 (0, S)).bind (fun y6 => some y6)
set_option maxRecDepth 20000 in
theorem rfX8_calls (d N : Nat) (l1 : Int32) (l2 : Int32) (S : St) (z : St) (h : fX8_calls N l1 l2 S = some z) : am_C (d + 3) 137 [.ref 128, .int l1, .int l2] (am_T0 S) (none, am_T0 z) := by
  unfold fX8_calls at h
  show am_Rn (am_C (d + 2)) (am_ct 137) (am_rk 137) (none, am_T0 z) (0, [some (.ref 128), some (.int l1), some (.int l2), none, none], [], am_T0 S)
  refine am_Rn.op _ (1, [some (.ref 128), some (.int l1), some (.int l2), none, none], [.int 0], am_T0 S) rfl rfl ?_
  refine am_Rn.op _ (2, [some (.ref 128), some (.int l1), some (.int l2), some (.int 0), none], [], am_T0 S) rfl rfl ?_
  obtain ⟨y6, hy6, h⟩ := l2_b h
  refine rfX8_calls_2 d N _ l1 l2 (0, S) y6 hy6 ?_ _
  cases h
  exact rfl
-- X8_star
def PfX8_star_3 (d : Nat) (res : Option Value × am_S) (l1 : Int32) (l2 : Int32) (l3 : Int32) (l4 : Int32) (x : Int32 × St) : Prop := ∀ (w6 w7 : Option Value), am_Rn (am_C d) (am_ct 138) (am_rk 138) res (3, [some (.ref 128), some (.int l1), some (.int l2), some (.int l3), some (.int l4), some (.int x.1), w6, w7], [], am_T0 x.2)
def QfX8_star_3 (d : Nat) (res : Option Value × am_S) (l1 : Int32) (l2 : Int32) (l3 : Int32) (l4 : Int32) (y : St) : Prop := ∀ (w4 w5 w6 w7 : Option Value), am_Rn (am_C d) (am_ct 138) (am_rk 138) res (35, [some (.ref 128), some (.int l1), some (.int l2), some (.int l3), w4, w5, w6, w7], [], am_T0 y)
def PfX8_star_38 (d : Nat) (res : Option Value × am_S) (l1 : Int32) (l2 : Int32) (l3 : Int32) (x : Int32 × St) : Prop := ∀ (w4 w6 w7 : Option Value), am_Rn (am_C d) (am_ct 138) (am_rk 138) res (38, [some (.ref 128), some (.int l1), some (.int l2), some (.int l3), w4, some (.int x.1), w6, w7], [], am_T0 x.2)
def QfX8_star_38 (d : Nat) (res : Option Value × am_S) (l1 : Int32) (l2 : Int32) (l3 : Int32) (y : St) : Prop := ∀ (w4 w5 w6 w7 : Option Value), am_Rn (am_C d) (am_ct 138) (am_rk 138) res (121, [some (.ref 128), some (.int l1), some (.int l2), some (.int l3), w4, w5, w6, w7], [], am_T0 y)
def PfX8_star_47 (d : Nat) (res : Option Value × am_S) (l1 : Int32) (l2 : Int32) (l3 : Int32) (l5 : Int32) (x : Int32 × St) : Prop := ∀ (w4 w7 : Option Value), am_Rn (am_C d) (am_ct 138) (am_rk 138) res (47, [some (.ref 128), some (.int l1), some (.int l2), some (.int l3), w4, some (.int l5), some (.int x.1), w7], [], am_T0 x.2)
def QfX8_star_47 (d : Nat) (res : Option Value × am_S) (l1 : Int32) (l2 : Int32) (l3 : Int32) (l5 : Int32) (y : St) : Prop := ∀ (w4 w6 w7 : Option Value), am_Rn (am_C d) (am_ct 138) (am_rk 138) res (115, [some (.ref 128), some (.int l1), some (.int l2), some (.int l3), w4, some (.int l5), w6, w7], [], am_T0 y)
def PfX8_star_56 (d : Nat) (res : Option Value × am_S) (l1 : Int32) (l2 : Int32) (l3 : Int32) (l5 : Int32) (l6 : Int32) (x : Int32 × St) : Prop := ∀ (w4 : Option Value), am_Rn (am_C d) (am_ct 138) (am_rk 138) res (56, [some (.ref 128), some (.int l1), some (.int l2), some (.int l3), w4, some (.int l5), some (.int l6), some (.int x.1)], [], am_T0 x.2)
def QfX8_star_56 (d : Nat) (res : Option Value × am_S) (l1 : Int32) (l2 : Int32) (l3 : Int32) (l5 : Int32) (l6 : Int32) (y : St) : Prop := ∀ (w4 w7 : Option Value), am_Rn (am_C d) (am_ct 138) (am_rk 138) res (109, [some (.ref 128), some (.int l1), some (.int l2), some (.int l3), w4, some (.int l5), some (.int l6), w7], [], am_T0 y)
def PfX8_star_124 (d : Nat) (res : Option Value × am_S) (l1 : Int32) (l2 : Int32) (l3 : Int32) (x : Int32 × St) : Prop := ∀ (w4 w6 w7 : Option Value), am_Rn (am_C d) (am_ct 138) (am_rk 138) res (124, [some (.ref 128), some (.int l1), some (.int l2), some (.int l3), w4, some (.int x.1), w6, w7], [], am_T0 x.2)
def QfX8_star_124 (d : Nat) (res : Option Value × am_S) (l1 : Int32) (l2 : Int32) (l3 : Int32) (y : St) : Prop := res = (none, am_T0 y)
def PfX8_star_188 (d : Nat) (res : Option Value × am_S) (l1 : Int32) (l2 : Int32) (l3 : Int32) (l5 : Int32) (x : Int32 × St) : Prop := ∀ (w4 w7 : Option Value), am_Rn (am_C d) (am_ct 138) (am_rk 138) res (188, [some (.ref 128), some (.int l1), some (.int l2), some (.int l3), w4, some (.int l5), some (.int x.1), w7], [], am_T0 x.2)
def QfX8_star_188 (d : Nat) (res : Option Value × am_S) (l1 : Int32) (l2 : Int32) (l3 : Int32) (l5 : Int32) (y : St) : Prop := ∀ (w4 w6 w7 : Option Value), am_Rn (am_C d) (am_ct 138) (am_rk 138) res (249, [some (.ref 128), some (.int l1), some (.int l2), some (.int l3), w4, some (.int l5), w6, w7], [], am_T0 y)
def PfX8_star_198 (d : Nat) (res : Option Value × am_S) (l1 : Int32) (l2 : Int32) (l3 : Int32) (l5 : Int32) (l6 : Int32) (x : Int32 × St) : Prop := ∀ (w4 : Option Value), am_Rn (am_C d) (am_ct 138) (am_rk 138) res (198, [some (.ref 128), some (.int l1), some (.int l2), some (.int l3), w4, some (.int l5), some (.int l6), some (.int x.1)], [], am_T0 x.2)
def QfX8_star_198 (d : Nat) (res : Option Value × am_S) (l1 : Int32) (l2 : Int32) (l3 : Int32) (l5 : Int32) (l6 : Int32) (y : St) : Prop := ∀ (w4 w7 : Option Value), am_Rn (am_C d) (am_ct 138) (am_rk 138) res (243, [some (.ref 128), some (.int l1), some (.int l2), some (.int l3), w4, some (.int l5), some (.int l6), w7], [], am_T0 y)
def bfX8_star_198 (N : Nat) (l1 : Int32) (l2 : Int32) (l3 : Int32) (l5 : Int32) (l6 : Int32) (x : Int32 × St) : Option ((Int32 × St) ⊕ (St)) := (if 4 ≤ x.1 then some (.inr (x.2)) else (if l5 < 0 ∨ 4 ≤ Int32.toNatClampNeg l5 then none else (fX8_allOf N l1 (l2 + 1) l3 l5 l6 x.1 x.2).bind (fun q2 => (fX8_sum N (x.2.1 144 (Int32.toNatClampNeg l5)) q2.1 q2.2).bind (fun q3 => (fX8_puts N l6 x.1 q3.1 q3.2).bind (fun q4 => some (.inl ((x.1 + 1), q4)))))))
def fX8_star_198 (N : Nat) (l1 : Int32) (l2 : Int32) (l3 : Int32) (l5 : Int32) (l6 : Int32) (x : Int32 × St) : Option (St) := whl N (bfX8_star_198 N l1 l2 l3 l5 l6 ) x
set_option maxRecDepth 20000 in
theorem rbfX8_star_198 (d N : Nat) (res : Option Value × am_S) (l1 : Int32) (l2 : Int32) (l3 : Int32) (l5 : Int32) (l6 : Int32) (x : Int32 × St) (z : (Int32 × St) ⊕ (St)) (h : bfX8_star_198 N l1 l2 l3 l5 l6 x = some z) (hz : Sum.elim (PfX8_star_198 (d + 2) res l1 l2 l3 l5 l6 ) (QfX8_star_198 (d + 2) res l1 l2 l3 l5 l6 ) z) : PfX8_star_198 (d + 2) res l1 l2 l3 l5 l6 x := by
  unfold bfX8_star_198 at h
  show ∀ (w4 : Option Value), am_Rn (am_C (d + 2)) (am_ct 138) (am_rk 138) res (198, [some (.ref 128), some (.int l1), some (.int l2), some (.int l3), w4, some (.int l5), some (.int l6), some (.int x.1)], [], am_T0 x.2)
  intro w4
  refine am_Rn.op _ (200, [some (.ref 128), some (.int l1), some (.int l2), some (.int l3), w4, some (.int l5), some (.int l6), some (.int x.1)], [.int x.1], am_T0 x.2) rfl rfl ?_
  refine am_Rn.op _ (201, [some (.ref 128), some (.int l1), some (.int l2), some (.int l3), w4, some (.int l5), some (.int l6), some (.int x.1)], [.int 4, .int x.1], am_T0 x.2) rfl rfl ?_
  refine am_Rn.op _ (if 4 ≤ x.1 then 243 else 204, [some (.ref 128), some (.int l1), some (.int l2), some (.int l3), w4, some (.int l5), some (.int l6), some (.int x.1)], [], am_T0 x.2) rfl rfl ?_
  rcases l2_i h with ⟨hc, h⟩ | ⟨hc, h⟩
  · refine am_Rn.ifT hc ?_
    cases h
    exact hz _ _
  · refine am_Rn.ifF hc ?_
    refine am_Rn.op _ (205, [some (.ref 128), some (.int l1), some (.int l2), some (.int l3), w4, some (.int l5), some (.int l6), some (.int x.1)], [.ref 128], am_T0 x.2) rfl rfl ?_
    refine am_Rn.op _ (207, [some (.ref 128), some (.int l1), some (.int l2), some (.int l3), w4, some (.int l5), some (.int l6), some (.int x.1)], [.int l6, .ref 128], am_T0 x.2) rfl rfl ?_
    refine am_Rn.op _ (209, [some (.ref 128), some (.int l1), some (.int l2), some (.int l3), w4, some (.int l5), some (.int l6), some (.int x.1)], [.int x.1, .int l6, .ref 128], am_T0 x.2) rfl rfl ?_
    refine am_Rn.op _ (210, [some (.ref 128), some (.int l1), some (.int l2), some (.int l3), w4, some (.int l5), some (.int l6), some (.int x.1)], [.ref 128, .int x.1, .int l6, .ref 128], am_T0 x.2) rfl rfl ?_
    refine am_Rn.op _ (213, [some (.ref 128), some (.int l1), some (.int l2), some (.int l3), w4, some (.int l5), some (.int l6), some (.int x.1)], [.ref 144, .int x.1, .int l6, .ref 128], am_T0 x.2) rfl rfl ?_
    refine am_Rn.op _ (215, [some (.ref 128), some (.int l1), some (.int l2), some (.int l3), w4, some (.int l5), some (.int l6), some (.int x.1)], [.int l5, .ref 144, .int x.1, .int l6, .ref 128], am_T0 x.2) rfl rfl ?_
    obtain ⟨hb1, h⟩ := l2_n h
    refine am_Rn.iald (n := 4) rfl rfl hb1 ?_
    show am_Rn _ _ _ _ (216, [some (.ref 128), some (.int l1), some (.int l2), some (.int l3), w4, some (.int l5), some (.int l6), some (.int x.1)], [.int (x.2.1 144 (Int32.toNatClampNeg l5)), .int x.1, .int l6, .ref 128], am_T0 x.2)
    refine am_Rn.op _ (217, [some (.ref 128), some (.int l1), some (.int l2), some (.int l3), w4, some (.int l5), some (.int l6), some (.int x.1)], [.ref 128, .int (x.2.1 144 (Int32.toNatClampNeg l5)), .int x.1, .int l6, .ref 128], am_T0 x.2) rfl rfl ?_
    refine am_Rn.op _ (218, [some (.ref 128), some (.int l1), some (.int l2), some (.int l3), w4, some (.int l5), some (.int l6), some (.int x.1)], [.int l1, .ref 128, .int (x.2.1 144 (Int32.toNatClampNeg l5)), .int x.1, .int l6, .ref 128], am_T0 x.2) rfl rfl ?_
    refine am_Rn.op _ (219, [some (.ref 128), some (.int l1), some (.int l2), some (.int l3), w4, some (.int l5), some (.int l6), some (.int x.1)], [.int l2, .int l1, .ref 128, .int (x.2.1 144 (Int32.toNatClampNeg l5)), .int x.1, .int l6, .ref 128], am_T0 x.2) rfl rfl ?_
    refine am_Rn.op _ (220, [some (.ref 128), some (.int l1), some (.int l2), some (.int l3), w4, some (.int l5), some (.int l6), some (.int x.1)], [.int 1, .int l2, .int l1, .ref 128, .int (x.2.1 144 (Int32.toNatClampNeg l5)), .int x.1, .int l6, .ref 128], am_T0 x.2) rfl rfl ?_
    refine am_Rn.op _ (221, [some (.ref 128), some (.int l1), some (.int l2), some (.int l3), w4, some (.int l5), some (.int l6), some (.int x.1)], [.int (l2 + 1), .int l1, .ref 128, .int (x.2.1 144 (Int32.toNatClampNeg l5)), .int x.1, .int l6, .ref 128], am_T0 x.2) rfl rfl ?_
    refine am_Rn.op _ (222, [some (.ref 128), some (.int l1), some (.int l2), some (.int l3), w4, some (.int l5), some (.int l6), some (.int x.1)], [.int l3, .int (l2 + 1), .int l1, .ref 128, .int (x.2.1 144 (Int32.toNatClampNeg l5)), .int x.1, .int l6, .ref 128], am_T0 x.2) rfl rfl ?_
    refine am_Rn.op _ (224, [some (.ref 128), some (.int l1), some (.int l2), some (.int l3), w4, some (.int l5), some (.int l6), some (.int x.1)], [.int l5, .int l3, .int (l2 + 1), .int l1, .ref 128, .int (x.2.1 144 (Int32.toNatClampNeg l5)), .int x.1, .int l6, .ref 128], am_T0 x.2) rfl rfl ?_
    refine am_Rn.op _ (226, [some (.ref 128), some (.int l1), some (.int l2), some (.int l3), w4, some (.int l5), some (.int l6), some (.int x.1)], [.int l6, .int l5, .int l3, .int (l2 + 1), .int l1, .ref 128, .int (x.2.1 144 (Int32.toNatClampNeg l5)), .int x.1, .int l6, .ref 128], am_T0 x.2) rfl rfl ?_
    refine am_Rn.op _ (228, [some (.ref 128), some (.int l1), some (.int l2), some (.int l3), w4, some (.int l5), some (.int l6), some (.int x.1)], [.int x.1, .int l6, .int l5, .int l3, .int (l2 + 1), .int l1, .ref 128, .int (x.2.1 144 (Int32.toNatClampNeg l5)), .int x.1, .int l6, .ref 128], am_T0 x.2) rfl rfl ?_
    obtain ⟨q2, hq2, h⟩ := l2_b h
    refine am_Rn.cl _ (some (.int q2.1)) (am_T0 q2.2) rfl rfl (rfX8_allOf (d + 0) N l1 (l2 + 1) l3 l5 l6 x.1 x.2 q2 hq2) ?_
    show am_Rn _ _ _ _ (231, [some (.ref 128), some (.int l1), some (.int l2), some (.int l3), w4, some (.int l5), some (.int l6), some (.int x.1)], [.int q2.1, .int (x.2.1 144 (Int32.toNatClampNeg l5)), .int x.1, .int l6, .ref 128], am_T0 q2.2)
    obtain ⟨q3, hq3, h⟩ := l2_b h
    refine am_Rn.cl _ (some (.int q3.1)) (am_T0 q3.2) rfl rfl (rfX8_sum (d + 0) N (x.2.1 144 (Int32.toNatClampNeg l5)) q2.1 q2.2 q3 hq3) ?_
    show am_Rn _ _ _ _ (234, [some (.ref 128), some (.int l1), some (.int l2), some (.int l3), w4, some (.int l5), some (.int l6), some (.int x.1)], [.int q3.1, .int x.1, .int l6, .ref 128], am_T0 q3.2)
    obtain ⟨q4, hq4, h⟩ := l2_b h
    refine am_Rn.cl _ none (am_T0 q4) rfl rfl (rfX8_puts (d + 0) N l6 x.1 q3.1 q3.2 q4 hq4) ?_
    show am_Rn _ _ _ _ (237, [some (.ref 128), some (.int l1), some (.int l2), some (.int l3), w4, some (.int l5), some (.int l6), some (.int x.1)], [], am_T0 q4)
    refine am_Rn.op _ (240, [some (.ref 128), some (.int l1), some (.int l2), some (.int l3), w4, some (.int l5), some (.int l6), some (.int (x.1 + 1))], [], am_T0 q4) rfl rfl ?_
    refine am_Rn.op _ (198, [some (.ref 128), some (.int l1), some (.int l2), some (.int l3), w4, some (.int l5), some (.int l6), some (.int (x.1 + 1))], [], am_T0 q4) rfl rfl ?_
    cases h
    exact hz _
theorem rfX8_star_198 (d N : Nat) (res : Option Value × am_S) (l1 : Int32) (l2 : Int32) (l3 : Int32) (l5 : Int32) (l6 : Int32) (x : Int32 × St) (y : St) (h : fX8_star_198 N l1 l2 l3 l5 l6 x = some y) (hq : QfX8_star_198 (d + 2) res l1 l2 l3 l5 l6 y) : PfX8_star_198 (d + 2) res l1 l2 l3 l5 l6 x := whl_ind _ _ (fun x z => rbfX8_star_198 d N res l1 l2 l3 l5 l6 x z) N x y h hq
def bfX8_star_188 (N : Nat) (l1 : Int32) (l2 : Int32) (l3 : Int32) (l5 : Int32) (x : Int32 × St) : Option ((Int32 × St) ⊕ (St)) := (if 8 ≤ x.1 then some (.inr (x.2)) else (fX8_star_198 N l1 l2 l3 l5 x.1 (0, x.2)).bind (fun y5 => some (.inl ((x.1 + 1), y5))))
def fX8_star_188 (N : Nat) (l1 : Int32) (l2 : Int32) (l3 : Int32) (l5 : Int32) (x : Int32 × St) : Option (St) := whl N (bfX8_star_188 N l1 l2 l3 l5 ) x
set_option maxRecDepth 20000 in
theorem rbfX8_star_188 (d N : Nat) (res : Option Value × am_S) (l1 : Int32) (l2 : Int32) (l3 : Int32) (l5 : Int32) (x : Int32 × St) (z : (Int32 × St) ⊕ (St)) (h : bfX8_star_188 N l1 l2 l3 l5 x = some z) (hz : Sum.elim (PfX8_star_188 (d + 2) res l1 l2 l3 l5 ) (QfX8_star_188 (d + 2) res l1 l2 l3 l5 ) z) : PfX8_star_188 (d + 2) res l1 l2 l3 l5 x := by
  unfold bfX8_star_188 at h
  show ∀ (w4 w7 : Option Value), am_Rn (am_C (d + 2)) (am_ct 138) (am_rk 138) res (188, [some (.ref 128), some (.int l1), some (.int l2), some (.int l3), w4, some (.int l5), some (.int x.1), w7], [], am_T0 x.2)
  intro w4 w7
  refine am_Rn.op _ (190, [some (.ref 128), some (.int l1), some (.int l2), some (.int l3), w4, some (.int l5), some (.int x.1), w7], [.int x.1], am_T0 x.2) rfl rfl ?_
  refine am_Rn.op _ (192, [some (.ref 128), some (.int l1), some (.int l2), some (.int l3), w4, some (.int l5), some (.int x.1), w7], [.int 8, .int x.1], am_T0 x.2) rfl rfl ?_
  refine am_Rn.op _ (if 8 ≤ x.1 then 249 else 195, [some (.ref 128), some (.int l1), some (.int l2), some (.int l3), w4, some (.int l5), some (.int x.1), w7], [], am_T0 x.2) rfl rfl ?_
  rcases l2_i h with ⟨hc, h⟩ | ⟨hc, h⟩
  · refine am_Rn.ifT hc ?_
    cases h
    exact hz _ _ _
  · refine am_Rn.ifF hc ?_
    refine am_Rn.op _ (196, [some (.ref 128), some (.int l1), some (.int l2), some (.int l3), w4, some (.int l5), some (.int x.1), w7], [.int 0], am_T0 x.2) rfl rfl ?_
    refine am_Rn.op _ (198, [some (.ref 128), some (.int l1), some (.int l2), some (.int l3), w4, some (.int l5), some (.int x.1), some (.int 0)], [], am_T0 x.2) rfl rfl ?_
    obtain ⟨y5, hy5, h⟩ := l2_b h
    refine rfX8_star_198 d N _ l1 l2 l3 l5 x.1 (0, x.2) y5 hy5 ?_ _
    intro w6 w7
    show am_Rn _ _ _ _ (243, [some (.ref 128), some (.int l1), some (.int l2), some (.int l3), w6, some (.int l5), some (.int x.1), w7], [], am_T0 y5)
    refine am_Rn.op _ (246, [some (.ref 128), some (.int l1), some (.int l2), some (.int l3), w6, some (.int l5), some (.int (x.1 + 1)), w7], [], am_T0 y5) rfl rfl ?_
    refine am_Rn.op _ (188, [some (.ref 128), some (.int l1), some (.int l2), some (.int l3), w6, some (.int l5), some (.int (x.1 + 1)), w7], [], am_T0 y5) rfl rfl ?_
    cases h
    exact hz _ _
theorem rfX8_star_188 (d N : Nat) (res : Option Value × am_S) (l1 : Int32) (l2 : Int32) (l3 : Int32) (l5 : Int32) (x : Int32 × St) (y : St) (h : fX8_star_188 N l1 l2 l3 l5 x = some y) (hq : QfX8_star_188 (d + 2) res l1 l2 l3 l5 y) : PfX8_star_188 (d + 2) res l1 l2 l3 l5 x := whl_ind _ _ (fun x z => rbfX8_star_188 d N res l1 l2 l3 l5 x z) N x y h hq
def fX8_star_182 (N : Nat) (l1 : Int32) (l2 : Int32) (l3 : Int32) (l5 : Int32) (s1 : Int32) (S : St) : Option ((Int32 × St) ⊕ (St)) := (if s1 = 0 ∨ s1 = 1 then (fX8_star_188 N l1 l2 l3 l5 (1, (st_i S 128 23 s1))).bind (fun y9 => some (.inl ((l5 + 1), y9))) else none)
set_option maxRecDepth 20000 in
theorem rfX8_star_182 (d N : Nat) (res : Option Value × am_S) (l1 : Int32) (l2 : Int32) (l3 : Int32) (l5 : Int32) (s1 : Int32) (S : St) (z : (Int32 × St) ⊕ (St)) (h : fX8_star_182 N l1 l2 l3 l5 s1 S = some z) (hz : Sum.elim (PfX8_star_124 (d + 2) res l1 l2 l3 ) (QfX8_star_124 (d + 2) res l1 l2 l3 ) z) (w4 : Option Value) (w6 : Option Value) (w7 : Option Value) : am_Rn (am_C (d + 2)) (am_ct 138) (am_rk 138) res (182, [some (.ref 128), some (.int l1), some (.int l2), some (.int l3), w4, some (.int l5), w6, w7], [.int s1, .ref 128], am_T0 S) := by
  unfold fX8_star_182 at h
  obtain ⟨hb8, h⟩ := l2_y h
  refine am_Rn.putf rfl rfl (l2_bool hb8) ?_
  show am_Rn _ _ _ _ (185, [some (.ref 128), some (.int l1), some (.int l2), some (.int l3), w4, some (.int l5), w6, w7], [], am_T0 (st_i S 128 23 s1))
  refine am_Rn.op _ (186, [some (.ref 128), some (.int l1), some (.int l2), some (.int l3), w4, some (.int l5), w6, w7], [.int 1], am_T0 (st_i S 128 23 s1)) rfl rfl ?_
  refine am_Rn.op _ (188, [some (.ref 128), some (.int l1), some (.int l2), some (.int l3), w4, some (.int l5), some (.int 1), w7], [], am_T0 (st_i S 128 23 s1)) rfl rfl ?_
  obtain ⟨y9, hy9, h⟩ := l2_b h
  refine rfX8_star_188 d N _ l1 l2 l3 l5 (1, (st_i S 128 23 s1)) y9 hy9 ?_ _ _
  intro w10 w11 w12
  show am_Rn _ _ _ _ (249, [some (.ref 128), some (.int l1), some (.int l2), some (.int l3), w10, some (.int l5), w11, w12], [], am_T0 y9)
  refine am_Rn.op _ (252, [some (.ref 128), some (.int l1), some (.int l2), some (.int l3), w10, some (.int (l5 + 1)), w11, w12], [], am_T0 y9) rfl rfl ?_
  refine am_Rn.op _ (124, [some (.ref 128), some (.int l1), some (.int l2), some (.int l3), w10, some (.int (l5 + 1)), w11, w12], [], am_T0 y9) rfl rfl ?_
  cases h
  exact hz _ _ _
def fX8_star_181 (N : Nat) (l1 : Int32) (l2 : Int32) (l3 : Int32) (l5 : Int32) (S : St) : Option ((Int32 × St) ⊕ (St)) := fX8_star_182 N l1 l2 l3 l5 0 S
set_option maxRecDepth 20000 in
theorem rfX8_star_181 (d N : Nat) (res : Option Value × am_S) (l1 : Int32) (l2 : Int32) (l3 : Int32) (l5 : Int32) (S : St) (z : (Int32 × St) ⊕ (St)) (h : fX8_star_181 N l1 l2 l3 l5 S = some z) (hz : Sum.elim (PfX8_star_124 (d + 2) res l1 l2 l3 ) (QfX8_star_124 (d + 2) res l1 l2 l3 ) z) (w4 : Option Value) (w6 : Option Value) (w7 : Option Value) : am_Rn (am_C (d + 2)) (am_ct 138) (am_rk 138) res (181, [some (.ref 128), some (.int l1), some (.int l2), some (.int l3), w4, some (.int l5), w6, w7], [.ref 128], am_T0 S) := by
  unfold fX8_star_181 at h
  refine am_Rn.op _ (182, [some (.ref 128), some (.int l1), some (.int l2), some (.int l3), w4, some (.int l5), w6, w7], [.int 0, .ref 128], am_T0 S) rfl rfl ?_
  exact rfX8_star_182 d N _ l1 l2 l3 l5 0 S _ h hz _ _ _
def fX8_star_177 (N : Nat) (l1 : Int32) (l2 : Int32) (l3 : Int32) (l5 : Int32) (S : St) : Option ((Int32 × St) ⊕ (St)) := fX8_star_182 N l1 l2 l3 l5 1 S
set_option maxRecDepth 20000 in
theorem rfX8_star_177 (d N : Nat) (res : Option Value × am_S) (l1 : Int32) (l2 : Int32) (l3 : Int32) (l5 : Int32) (S : St) (z : (Int32 × St) ⊕ (St)) (h : fX8_star_177 N l1 l2 l3 l5 S = some z) (hz : Sum.elim (PfX8_star_124 (d + 2) res l1 l2 l3 ) (QfX8_star_124 (d + 2) res l1 l2 l3 ) z) (w4 : Option Value) (w6 : Option Value) (w7 : Option Value) : am_Rn (am_C (d + 2)) (am_ct 138) (am_rk 138) res (177, [some (.ref 128), some (.int l1), some (.int l2), some (.int l3), w4, some (.int l5), w6, w7], [.ref 128], am_T0 S) := by
  unfold fX8_star_177 at h
  refine am_Rn.op _ (178, [some (.ref 128), some (.int l1), some (.int l2), some (.int l3), w4, some (.int l5), w6, w7], [.int 1, .ref 128], am_T0 S) rfl rfl ?_
  refine am_Rn.op _ (182, [some (.ref 128), some (.int l1), some (.int l2), some (.int l3), w4, some (.int l5), w6, w7], [.int 1, .ref 128], am_T0 S) rfl rfl ?_
  exact rfX8_star_182 d N _ l1 l2 l3 l5 1 S _ h hz _ _ _
def bfX8_star_124 (N : Nat) (l1 : Int32) (l2 : Int32) (l3 : Int32) (x : Int32 × St) : Option ((Int32 × St) ⊕ (St)) := (if 4 ≤ x.1 then some (.inr x.2) else (if x.1 < 0 ∨ 4 ≤ Int32.toNatClampNeg x.1 then none else (fX8_puts N 0 x.1 (x.2.1 144 (Int32.toNatClampNeg x.1)) x.2).bind (fun q14 => (if (q14.1 128 23) = 0 then (if x.1 < 0 ∨ 4 ≤ Int32.toNatClampNeg x.1 then none else (if 100000 ≤ (q14.1 144 (Int32.toNatClampNeg x.1)) then fX8_star_181 N l1 l2 l3 x.1 q14 else (fX8_metOf N (l2 + 1) l3 x.1 q14).bind (fun q16 => (if q16.1 = 0 then fX8_star_181 N l1 l2 l3 x.1 q16.2 else fX8_star_177 N l1 l2 l3 x.1 q16.2)))) else fX8_star_177 N l1 l2 l3 x.1 q14))))
def fX8_star_124 (N : Nat) (l1 : Int32) (l2 : Int32) (l3 : Int32) (x : Int32 × St) : Option (St) := whl N (bfX8_star_124 N l1 l2 l3 ) x
set_option maxRecDepth 20000 in
theorem rbfX8_star_124 (d N : Nat) (res : Option Value × am_S) (l1 : Int32) (l2 : Int32) (l3 : Int32) (x : Int32 × St) (z : (Int32 × St) ⊕ (St)) (h : bfX8_star_124 N l1 l2 l3 x = some z) (hz : Sum.elim (PfX8_star_124 (d + 2) res l1 l2 l3 ) (QfX8_star_124 (d + 2) res l1 l2 l3 ) z) : PfX8_star_124 (d + 2) res l1 l2 l3 x := by
  unfold bfX8_star_124 at h
  show ∀ (w4 w6 w7 : Option Value), am_Rn (am_C (d + 2)) (am_ct 138) (am_rk 138) res (124, [some (.ref 128), some (.int l1), some (.int l2), some (.int l3), w4, some (.int x.1), w6, w7], [], am_T0 x.2)
  intro w4 w6 w7
  refine am_Rn.op _ (126, [some (.ref 128), some (.int l1), some (.int l2), some (.int l3), w4, some (.int x.1), w6, w7], [.int x.1], am_T0 x.2) rfl rfl ?_
  refine am_Rn.op _ (127, [some (.ref 128), some (.int l1), some (.int l2), some (.int l3), w4, some (.int x.1), w6, w7], [.int 4, .int x.1], am_T0 x.2) rfl rfl ?_
  refine am_Rn.op _ (if 4 ≤ x.1 then 255 else 130, [some (.ref 128), some (.int l1), some (.int l2), some (.int l3), w4, some (.int x.1), w6, w7], [], am_T0 x.2) rfl rfl ?_
  rcases l2_i h with ⟨hc, h⟩ | ⟨hc, h⟩
  · refine am_Rn.ifT hc ?_
    cases h
    exact am_Rn.rt2 _ rfl rfl hz
  · refine am_Rn.ifF hc ?_
    refine am_Rn.op _ (131, [some (.ref 128), some (.int l1), some (.int l2), some (.int l3), w4, some (.int x.1), w6, w7], [.ref 128], am_T0 x.2) rfl rfl ?_
    refine am_Rn.op _ (132, [some (.ref 128), some (.int l1), some (.int l2), some (.int l3), w4, some (.int x.1), w6, w7], [.int 0, .ref 128], am_T0 x.2) rfl rfl ?_
    refine am_Rn.op _ (134, [some (.ref 128), some (.int l1), some (.int l2), some (.int l3), w4, some (.int x.1), w6, w7], [.int x.1, .int 0, .ref 128], am_T0 x.2) rfl rfl ?_
    refine am_Rn.op _ (135, [some (.ref 128), some (.int l1), some (.int l2), some (.int l3), w4, some (.int x.1), w6, w7], [.ref 128, .int x.1, .int 0, .ref 128], am_T0 x.2) rfl rfl ?_
    refine am_Rn.op _ (138, [some (.ref 128), some (.int l1), some (.int l2), some (.int l3), w4, some (.int x.1), w6, w7], [.ref 144, .int x.1, .int 0, .ref 128], am_T0 x.2) rfl rfl ?_
    refine am_Rn.op _ (140, [some (.ref 128), some (.int l1), some (.int l2), some (.int l3), w4, some (.int x.1), w6, w7], [.int x.1, .ref 144, .int x.1, .int 0, .ref 128], am_T0 x.2) rfl rfl ?_
    obtain ⟨hb13, h⟩ := l2_n h
    refine am_Rn.iald (n := 4) rfl rfl hb13 ?_
    show am_Rn _ _ _ _ (141, [some (.ref 128), some (.int l1), some (.int l2), some (.int l3), w4, some (.int x.1), w6, w7], [.int (x.2.1 144 (Int32.toNatClampNeg x.1)), .int x.1, .int 0, .ref 128], am_T0 x.2)
    obtain ⟨q14, hq14, h⟩ := l2_b h
    refine am_Rn.cl _ none (am_T0 q14) rfl rfl (rfX8_puts (d + 0) N 0 x.1 (x.2.1 144 (Int32.toNatClampNeg x.1)) x.2 q14 hq14) ?_
    show am_Rn _ _ _ _ (144, [some (.ref 128), some (.int l1), some (.int l2), some (.int l3), w4, some (.int x.1), w6, w7], [], am_T0 q14)
    refine am_Rn.op _ (145, [some (.ref 128), some (.int l1), some (.int l2), some (.int l3), w4, some (.int x.1), w6, w7], [.ref 128], am_T0 q14) rfl rfl ?_
    refine am_Rn.op _ (146, [some (.ref 128), some (.int l1), some (.int l2), some (.int l3), w4, some (.int x.1), w6, w7], [.ref 128, .ref 128], am_T0 q14) rfl rfl ?_
    refine am_Rn.op _ (149, [some (.ref 128), some (.int l1), some (.int l2), some (.int l3), w4, some (.int x.1), w6, w7], [.int (q14.1 128 23), .ref 128], am_T0 q14) rfl rfl ?_
    refine am_Rn.op _ (if (q14.1 128 23) = 0 then 152 else 177, [some (.ref 128), some (.int l1), some (.int l2), some (.int l3), w4, some (.int x.1), w6, w7], [.ref 128], am_T0 q14) rfl rfl ?_
    rcases l2_i h with ⟨hc, h⟩ | ⟨hc, h⟩
    · refine am_Rn.ifT hc ?_
      refine am_Rn.op _ (153, [some (.ref 128), some (.int l1), some (.int l2), some (.int l3), w4, some (.int x.1), w6, w7], [.ref 128, .ref 128], am_T0 q14) rfl rfl ?_
      refine am_Rn.op _ (156, [some (.ref 128), some (.int l1), some (.int l2), some (.int l3), w4, some (.int x.1), w6, w7], [.ref 144, .ref 128], am_T0 q14) rfl rfl ?_
      refine am_Rn.op _ (158, [some (.ref 128), some (.int l1), some (.int l2), some (.int l3), w4, some (.int x.1), w6, w7], [.int x.1, .ref 144, .ref 128], am_T0 q14) rfl rfl ?_
      obtain ⟨hb15, h⟩ := l2_n h
      refine am_Rn.iald (n := 4) rfl rfl hb15 ?_
      show am_Rn _ _ _ _ (159, [some (.ref 128), some (.int l1), some (.int l2), some (.int l3), w4, some (.int x.1), w6, w7], [.int (q14.1 144 (Int32.toNatClampNeg x.1)), .ref 128], am_T0 q14)
      refine am_Rn.op _ (161, [some (.ref 128), some (.int l1), some (.int l2), some (.int l3), w4, some (.int x.1), w6, w7], [.int 100000, .int (q14.1 144 (Int32.toNatClampNeg x.1)), .ref 128], am_T0 q14) rfl rfl ?_
      refine am_Rn.op _ (if 100000 ≤ (q14.1 144 (Int32.toNatClampNeg x.1)) then 181 else 164, [some (.ref 128), some (.int l1), some (.int l2), some (.int l3), w4, some (.int x.1), w6, w7], [.ref 128], am_T0 q14) rfl rfl ?_
      rcases l2_i h with ⟨hc, h⟩ | ⟨hc, h⟩
      · refine am_Rn.ifT hc ?_
        exact rfX8_star_181 d N _ l1 l2 l3 x.1 q14 _ h hz _ _ _
      · refine am_Rn.ifF hc ?_
        refine am_Rn.op _ (165, [some (.ref 128), some (.int l1), some (.int l2), some (.int l3), w4, some (.int x.1), w6, w7], [.ref 128, .ref 128], am_T0 q14) rfl rfl ?_
        refine am_Rn.op _ (166, [some (.ref 128), some (.int l1), some (.int l2), some (.int l3), w4, some (.int x.1), w6, w7], [.int l2, .ref 128, .ref 128], am_T0 q14) rfl rfl ?_
        refine am_Rn.op _ (167, [some (.ref 128), some (.int l1), some (.int l2), some (.int l3), w4, some (.int x.1), w6, w7], [.int 1, .int l2, .ref 128, .ref 128], am_T0 q14) rfl rfl ?_
        refine am_Rn.op _ (168, [some (.ref 128), some (.int l1), some (.int l2), some (.int l3), w4, some (.int x.1), w6, w7], [.int (l2 + 1), .ref 128, .ref 128], am_T0 q14) rfl rfl ?_
        refine am_Rn.op _ (169, [some (.ref 128), some (.int l1), some (.int l2), some (.int l3), w4, some (.int x.1), w6, w7], [.int l3, .int (l2 + 1), .ref 128, .ref 128], am_T0 q14) rfl rfl ?_
        refine am_Rn.op _ (171, [some (.ref 128), some (.int l1), some (.int l2), some (.int l3), w4, some (.int x.1), w6, w7], [.int x.1, .int l3, .int (l2 + 1), .ref 128, .ref 128], am_T0 q14) rfl rfl ?_
        obtain ⟨q16, hq16, h⟩ := l2_b h
        refine am_Rn.cl _ (some (.int q16.1)) (am_T0 q16.2) rfl rfl (rfX8_metOf (d + 1) N (l2 + 1) l3 x.1 q14 q16 hq16) ?_
        show am_Rn _ _ _ _ (174, [some (.ref 128), some (.int l1), some (.int l2), some (.int l3), w4, some (.int x.1), w6, w7], [.int q16.1, .ref 128], am_T0 q16.2)
        refine am_Rn.op _ (if q16.1 = 0 then 181 else 177, [some (.ref 128), some (.int l1), some (.int l2), some (.int l3), w4, some (.int x.1), w6, w7], [.ref 128], am_T0 q16.2) rfl rfl ?_
        rcases l2_i h with ⟨hc, h⟩ | ⟨hc, h⟩
        · refine am_Rn.ifT hc ?_
          exact rfX8_star_181 d N _ l1 l2 l3 x.1 q16.2 _ h hz _ _ _
        · refine am_Rn.ifF hc ?_
          exact rfX8_star_177 d N _ l1 l2 l3 x.1 q16.2 _ h hz _ _ _
    · refine am_Rn.ifF hc ?_
      exact rfX8_star_177 d N _ l1 l2 l3 x.1 q14 _ h hz _ _ _
theorem rfX8_star_124 (d N : Nat) (res : Option Value × am_S) (l1 : Int32) (l2 : Int32) (l3 : Int32) (x : Int32 × St) (y : St) (h : fX8_star_124 N l1 l2 l3 x = some y) (hq : QfX8_star_124 (d + 2) res l1 l2 l3 y) : PfX8_star_124 (d + 2) res l1 l2 l3 x := whl_ind _ _ (fun x z => rbfX8_star_124 d N res l1 l2 l3 x z) N x y h hq
def bfX8_star_56 (N : Nat) (l1 : Int32) (l2 : Int32) (l3 : Int32) (l5 : Int32) (l6 : Int32) (x : Int32 × St) : Option ((Int32 × St) ⊕ (St)) := (if 4 ≤ x.1 then some (.inr (x.2)) else (if x.1 < 0 ∨ 4 ≤ Int32.toNatClampNeg x.1 then none else (if l6 < 0 ∨ 4 ≤ Int32.toNatClampNeg l6 then none else (fX8_allOf N l1 (l2 + 1) l3 l6 0 x.1 x.2).bind (fun q19 => (fX8_sum N (x.2.1 144 (Int32.toNatClampNeg l6)) q19.1 q19.2).bind (fun q20 => (fX8_less N (x.2.1 144 (Int32.toNatClampNeg x.1)) q20.1 q20.2).bind (fun q21 => (if x.1 < 0 ∨ 4 ≤ Int32.toNatClampNeg x.1 then none else some (.inl ((x.1 + 1), (st_i q21.2 144 (Int32.toNatClampNeg x.1) q21.1))))))))))
def fX8_star_56 (N : Nat) (l1 : Int32) (l2 : Int32) (l3 : Int32) (l5 : Int32) (l6 : Int32) (x : Int32 × St) : Option (St) := whl N (bfX8_star_56 N l1 l2 l3 l5 l6 ) x
set_option maxRecDepth 20000 in
theorem rbfX8_star_56 (d N : Nat) (res : Option Value × am_S) (l1 : Int32) (l2 : Int32) (l3 : Int32) (l5 : Int32) (l6 : Int32) (x : Int32 × St) (z : (Int32 × St) ⊕ (St)) (h : bfX8_star_56 N l1 l2 l3 l5 l6 x = some z) (hz : Sum.elim (PfX8_star_56 (d + 2) res l1 l2 l3 l5 l6 ) (QfX8_star_56 (d + 2) res l1 l2 l3 l5 l6 ) z) : PfX8_star_56 (d + 2) res l1 l2 l3 l5 l6 x := by
  unfold bfX8_star_56 at h
  show ∀ (w4 : Option Value), am_Rn (am_C (d + 2)) (am_ct 138) (am_rk 138) res (56, [some (.ref 128), some (.int l1), some (.int l2), some (.int l3), w4, some (.int l5), some (.int l6), some (.int x.1)], [], am_T0 x.2)
  intro w4
  refine am_Rn.op _ (58, [some (.ref 128), some (.int l1), some (.int l2), some (.int l3), w4, some (.int l5), some (.int l6), some (.int x.1)], [.int x.1], am_T0 x.2) rfl rfl ?_
  refine am_Rn.op _ (59, [some (.ref 128), some (.int l1), some (.int l2), some (.int l3), w4, some (.int l5), some (.int l6), some (.int x.1)], [.int 4, .int x.1], am_T0 x.2) rfl rfl ?_
  refine am_Rn.op _ (if 4 ≤ x.1 then 109 else 62, [some (.ref 128), some (.int l1), some (.int l2), some (.int l3), w4, some (.int l5), some (.int l6), some (.int x.1)], [], am_T0 x.2) rfl rfl ?_
  rcases l2_i h with ⟨hc, h⟩ | ⟨hc, h⟩
  · refine am_Rn.ifT hc ?_
    cases h
    exact hz _ _
  · refine am_Rn.ifF hc ?_
    refine am_Rn.op _ (63, [some (.ref 128), some (.int l1), some (.int l2), some (.int l3), w4, some (.int l5), some (.int l6), some (.int x.1)], [.ref 128], am_T0 x.2) rfl rfl ?_
    refine am_Rn.op _ (66, [some (.ref 128), some (.int l1), some (.int l2), some (.int l3), w4, some (.int l5), some (.int l6), some (.int x.1)], [.ref 144], am_T0 x.2) rfl rfl ?_
    refine am_Rn.op _ (68, [some (.ref 128), some (.int l1), some (.int l2), some (.int l3), w4, some (.int l5), some (.int l6), some (.int x.1)], [.int x.1, .ref 144], am_T0 x.2) rfl rfl ?_
    refine am_Rn.op _ (69, [some (.ref 128), some (.int l1), some (.int l2), some (.int l3), w4, some (.int l5), some (.int l6), some (.int x.1)], [.ref 128, .int x.1, .ref 144], am_T0 x.2) rfl rfl ?_
    refine am_Rn.op _ (72, [some (.ref 128), some (.int l1), some (.int l2), some (.int l3), w4, some (.int l5), some (.int l6), some (.int x.1)], [.ref 144, .int x.1, .ref 144], am_T0 x.2) rfl rfl ?_
    refine am_Rn.op _ (74, [some (.ref 128), some (.int l1), some (.int l2), some (.int l3), w4, some (.int l5), some (.int l6), some (.int x.1)], [.int x.1, .ref 144, .int x.1, .ref 144], am_T0 x.2) rfl rfl ?_
    obtain ⟨hb17, h⟩ := l2_n h
    refine am_Rn.iald (n := 4) rfl rfl hb17 ?_
    show am_Rn _ _ _ _ (75, [some (.ref 128), some (.int l1), some (.int l2), some (.int l3), w4, some (.int l5), some (.int l6), some (.int x.1)], [.int (x.2.1 144 (Int32.toNatClampNeg x.1)), .int x.1, .ref 144], am_T0 x.2)
    refine am_Rn.op _ (76, [some (.ref 128), some (.int l1), some (.int l2), some (.int l3), w4, some (.int l5), some (.int l6), some (.int x.1)], [.ref 128, .int (x.2.1 144 (Int32.toNatClampNeg x.1)), .int x.1, .ref 144], am_T0 x.2) rfl rfl ?_
    refine am_Rn.op _ (79, [some (.ref 128), some (.int l1), some (.int l2), some (.int l3), w4, some (.int l5), some (.int l6), some (.int x.1)], [.ref 144, .int (x.2.1 144 (Int32.toNatClampNeg x.1)), .int x.1, .ref 144], am_T0 x.2) rfl rfl ?_
    refine am_Rn.op _ (81, [some (.ref 128), some (.int l1), some (.int l2), some (.int l3), w4, some (.int l5), some (.int l6), some (.int x.1)], [.int l6, .ref 144, .int (x.2.1 144 (Int32.toNatClampNeg x.1)), .int x.1, .ref 144], am_T0 x.2) rfl rfl ?_
    obtain ⟨hb18, h⟩ := l2_n h
    refine am_Rn.iald (n := 4) rfl rfl hb18 ?_
    show am_Rn _ _ _ _ (82, [some (.ref 128), some (.int l1), some (.int l2), some (.int l3), w4, some (.int l5), some (.int l6), some (.int x.1)], [.int (x.2.1 144 (Int32.toNatClampNeg l6)), .int (x.2.1 144 (Int32.toNatClampNeg x.1)), .int x.1, .ref 144], am_T0 x.2)
    refine am_Rn.op _ (83, [some (.ref 128), some (.int l1), some (.int l2), some (.int l3), w4, some (.int l5), some (.int l6), some (.int x.1)], [.ref 128, .int (x.2.1 144 (Int32.toNatClampNeg l6)), .int (x.2.1 144 (Int32.toNatClampNeg x.1)), .int x.1, .ref 144], am_T0 x.2) rfl rfl ?_
    refine am_Rn.op _ (84, [some (.ref 128), some (.int l1), some (.int l2), some (.int l3), w4, some (.int l5), some (.int l6), some (.int x.1)], [.int l1, .ref 128, .int (x.2.1 144 (Int32.toNatClampNeg l6)), .int (x.2.1 144 (Int32.toNatClampNeg x.1)), .int x.1, .ref 144], am_T0 x.2) rfl rfl ?_
    refine am_Rn.op _ (85, [some (.ref 128), some (.int l1), some (.int l2), some (.int l3), w4, some (.int l5), some (.int l6), some (.int x.1)], [.int l2, .int l1, .ref 128, .int (x.2.1 144 (Int32.toNatClampNeg l6)), .int (x.2.1 144 (Int32.toNatClampNeg x.1)), .int x.1, .ref 144], am_T0 x.2) rfl rfl ?_
    refine am_Rn.op _ (86, [some (.ref 128), some (.int l1), some (.int l2), some (.int l3), w4, some (.int l5), some (.int l6), some (.int x.1)], [.int 1, .int l2, .int l1, .ref 128, .int (x.2.1 144 (Int32.toNatClampNeg l6)), .int (x.2.1 144 (Int32.toNatClampNeg x.1)), .int x.1, .ref 144], am_T0 x.2) rfl rfl ?_
    refine am_Rn.op _ (87, [some (.ref 128), some (.int l1), some (.int l2), some (.int l3), w4, some (.int l5), some (.int l6), some (.int x.1)], [.int (l2 + 1), .int l1, .ref 128, .int (x.2.1 144 (Int32.toNatClampNeg l6)), .int (x.2.1 144 (Int32.toNatClampNeg x.1)), .int x.1, .ref 144], am_T0 x.2) rfl rfl ?_
    refine am_Rn.op _ (88, [some (.ref 128), some (.int l1), some (.int l2), some (.int l3), w4, some (.int l5), some (.int l6), some (.int x.1)], [.int l3, .int (l2 + 1), .int l1, .ref 128, .int (x.2.1 144 (Int32.toNatClampNeg l6)), .int (x.2.1 144 (Int32.toNatClampNeg x.1)), .int x.1, .ref 144], am_T0 x.2) rfl rfl ?_
    refine am_Rn.op _ (90, [some (.ref 128), some (.int l1), some (.int l2), some (.int l3), w4, some (.int l5), some (.int l6), some (.int x.1)], [.int l6, .int l3, .int (l2 + 1), .int l1, .ref 128, .int (x.2.1 144 (Int32.toNatClampNeg l6)), .int (x.2.1 144 (Int32.toNatClampNeg x.1)), .int x.1, .ref 144], am_T0 x.2) rfl rfl ?_
    refine am_Rn.op _ (91, [some (.ref 128), some (.int l1), some (.int l2), some (.int l3), w4, some (.int l5), some (.int l6), some (.int x.1)], [.int 0, .int l6, .int l3, .int (l2 + 1), .int l1, .ref 128, .int (x.2.1 144 (Int32.toNatClampNeg l6)), .int (x.2.1 144 (Int32.toNatClampNeg x.1)), .int x.1, .ref 144], am_T0 x.2) rfl rfl ?_
    refine am_Rn.op _ (93, [some (.ref 128), some (.int l1), some (.int l2), some (.int l3), w4, some (.int l5), some (.int l6), some (.int x.1)], [.int x.1, .int 0, .int l6, .int l3, .int (l2 + 1), .int l1, .ref 128, .int (x.2.1 144 (Int32.toNatClampNeg l6)), .int (x.2.1 144 (Int32.toNatClampNeg x.1)), .int x.1, .ref 144], am_T0 x.2) rfl rfl ?_
    obtain ⟨q19, hq19, h⟩ := l2_b h
    refine am_Rn.cl _ (some (.int q19.1)) (am_T0 q19.2) rfl rfl (rfX8_allOf (d + 0) N l1 (l2 + 1) l3 l6 0 x.1 x.2 q19 hq19) ?_
    show am_Rn _ _ _ _ (96, [some (.ref 128), some (.int l1), some (.int l2), some (.int l3), w4, some (.int l5), some (.int l6), some (.int x.1)], [.int q19.1, .int (x.2.1 144 (Int32.toNatClampNeg l6)), .int (x.2.1 144 (Int32.toNatClampNeg x.1)), .int x.1, .ref 144], am_T0 q19.2)
    obtain ⟨q20, hq20, h⟩ := l2_b h
    refine am_Rn.cl _ (some (.int q20.1)) (am_T0 q20.2) rfl rfl (rfX8_sum (d + 0) N (x.2.1 144 (Int32.toNatClampNeg l6)) q19.1 q19.2 q20 hq20) ?_
    show am_Rn _ _ _ _ (99, [some (.ref 128), some (.int l1), some (.int l2), some (.int l3), w4, some (.int l5), some (.int l6), some (.int x.1)], [.int q20.1, .int (x.2.1 144 (Int32.toNatClampNeg x.1)), .int x.1, .ref 144], am_T0 q20.2)
    obtain ⟨q21, hq21, h⟩ := l2_b h
    refine am_Rn.cl _ (some (.int q21.1)) (am_T0 q21.2) rfl rfl (rfX8_less (d + 1) N (x.2.1 144 (Int32.toNatClampNeg x.1)) q20.1 q20.2 q21 hq21) ?_
    show am_Rn _ _ _ _ (102, [some (.ref 128), some (.int l1), some (.int l2), some (.int l3), w4, some (.int l5), some (.int l6), some (.int x.1)], [.int q21.1, .int x.1, .ref 144], am_T0 q21.2)
    obtain ⟨hb22, h⟩ := l2_n h
    refine am_Rn.iast (n := 4) rfl rfl hb22 ?_
    show am_Rn _ _ _ _ (103, [some (.ref 128), some (.int l1), some (.int l2), some (.int l3), w4, some (.int l5), some (.int l6), some (.int x.1)], [], am_T0 (st_i q21.2 144 (Int32.toNatClampNeg x.1) q21.1))
    refine am_Rn.op _ (106, [some (.ref 128), some (.int l1), some (.int l2), some (.int l3), w4, some (.int l5), some (.int l6), some (.int (x.1 + 1))], [], am_T0 (st_i q21.2 144 (Int32.toNatClampNeg x.1) q21.1)) rfl rfl ?_
    refine am_Rn.op _ (56, [some (.ref 128), some (.int l1), some (.int l2), some (.int l3), w4, some (.int l5), some (.int l6), some (.int (x.1 + 1))], [], am_T0 (st_i q21.2 144 (Int32.toNatClampNeg x.1) q21.1)) rfl rfl ?_
    cases h
    exact hz _
theorem rfX8_star_56 (d N : Nat) (res : Option Value × am_S) (l1 : Int32) (l2 : Int32) (l3 : Int32) (l5 : Int32) (l6 : Int32) (x : Int32 × St) (y : St) (h : fX8_star_56 N l1 l2 l3 l5 l6 x = some y) (hq : QfX8_star_56 (d + 2) res l1 l2 l3 l5 l6 y) : PfX8_star_56 (d + 2) res l1 l2 l3 l5 l6 x := whl_ind _ _ (fun x z => rbfX8_star_56 d N res l1 l2 l3 l5 l6 x z) N x y h hq
def bfX8_star_47 (N : Nat) (l1 : Int32) (l2 : Int32) (l3 : Int32) (l5 : Int32) (x : Int32 × St) : Option ((Int32 × St) ⊕ (St)) := (if 4 ≤ x.1 then some (.inr (x.2)) else (fX8_star_56 N l1 l2 l3 l5 x.1 (0, x.2)).bind (fun y23 => some (.inl ((x.1 + 1), y23))))
def fX8_star_47 (N : Nat) (l1 : Int32) (l2 : Int32) (l3 : Int32) (l5 : Int32) (x : Int32 × St) : Option (St) := whl N (bfX8_star_47 N l1 l2 l3 l5 ) x
set_option maxRecDepth 20000 in
theorem rbfX8_star_47 (d N : Nat) (res : Option Value × am_S) (l1 : Int32) (l2 : Int32) (l3 : Int32) (l5 : Int32) (x : Int32 × St) (z : (Int32 × St) ⊕ (St)) (h : bfX8_star_47 N l1 l2 l3 l5 x = some z) (hz : Sum.elim (PfX8_star_47 (d + 2) res l1 l2 l3 l5 ) (QfX8_star_47 (d + 2) res l1 l2 l3 l5 ) z) : PfX8_star_47 (d + 2) res l1 l2 l3 l5 x := by
  unfold bfX8_star_47 at h
  show ∀ (w4 w7 : Option Value), am_Rn (am_C (d + 2)) (am_ct 138) (am_rk 138) res (47, [some (.ref 128), some (.int l1), some (.int l2), some (.int l3), w4, some (.int l5), some (.int x.1), w7], [], am_T0 x.2)
  intro w4 w7
  refine am_Rn.op _ (49, [some (.ref 128), some (.int l1), some (.int l2), some (.int l3), w4, some (.int l5), some (.int x.1), w7], [.int x.1], am_T0 x.2) rfl rfl ?_
  refine am_Rn.op _ (50, [some (.ref 128), some (.int l1), some (.int l2), some (.int l3), w4, some (.int l5), some (.int x.1), w7], [.int 4, .int x.1], am_T0 x.2) rfl rfl ?_
  refine am_Rn.op _ (if 4 ≤ x.1 then 115 else 53, [some (.ref 128), some (.int l1), some (.int l2), some (.int l3), w4, some (.int l5), some (.int x.1), w7], [], am_T0 x.2) rfl rfl ?_
  rcases l2_i h with ⟨hc, h⟩ | ⟨hc, h⟩
  · refine am_Rn.ifT hc ?_
    cases h
    exact hz _ _ _
  · refine am_Rn.ifF hc ?_
    refine am_Rn.op _ (54, [some (.ref 128), some (.int l1), some (.int l2), some (.int l3), w4, some (.int l5), some (.int x.1), w7], [.int 0], am_T0 x.2) rfl rfl ?_
    refine am_Rn.op _ (56, [some (.ref 128), some (.int l1), some (.int l2), some (.int l3), w4, some (.int l5), some (.int x.1), some (.int 0)], [], am_T0 x.2) rfl rfl ?_
    obtain ⟨y23, hy23, h⟩ := l2_b h
    refine rfX8_star_56 d N _ l1 l2 l3 l5 x.1 (0, x.2) y23 hy23 ?_ _
    intro w24 w25
    show am_Rn _ _ _ _ (109, [some (.ref 128), some (.int l1), some (.int l2), some (.int l3), w24, some (.int l5), some (.int x.1), w25], [], am_T0 y23)
    refine am_Rn.op _ (112, [some (.ref 128), some (.int l1), some (.int l2), some (.int l3), w24, some (.int l5), some (.int (x.1 + 1)), w25], [], am_T0 y23) rfl rfl ?_
    refine am_Rn.op _ (47, [some (.ref 128), some (.int l1), some (.int l2), some (.int l3), w24, some (.int l5), some (.int (x.1 + 1)), w25], [], am_T0 y23) rfl rfl ?_
    cases h
    exact hz _ _
theorem rfX8_star_47 (d N : Nat) (res : Option Value × am_S) (l1 : Int32) (l2 : Int32) (l3 : Int32) (l5 : Int32) (x : Int32 × St) (y : St) (h : fX8_star_47 N l1 l2 l3 l5 x = some y) (hq : QfX8_star_47 (d + 2) res l1 l2 l3 l5 y) : PfX8_star_47 (d + 2) res l1 l2 l3 l5 x := whl_ind _ _ (fun x z => rbfX8_star_47 d N res l1 l2 l3 l5 x z) N x y h hq
def bfX8_star_38 (N : Nat) (l1 : Int32) (l2 : Int32) (l3 : Int32) (x : Int32 × St) : Option ((Int32 × St) ⊕ (St)) := (if 5 ≤ x.1 then some (.inr (x.2)) else (fX8_star_47 N l1 l2 l3 x.1 (0, x.2)).bind (fun y26 => some (.inl ((x.1 + 1), y26))))
def fX8_star_38 (N : Nat) (l1 : Int32) (l2 : Int32) (l3 : Int32) (x : Int32 × St) : Option (St) := whl N (bfX8_star_38 N l1 l2 l3 ) x
set_option maxRecDepth 20000 in
theorem rbfX8_star_38 (d N : Nat) (res : Option Value × am_S) (l1 : Int32) (l2 : Int32) (l3 : Int32) (x : Int32 × St) (z : (Int32 × St) ⊕ (St)) (h : bfX8_star_38 N l1 l2 l3 x = some z) (hz : Sum.elim (PfX8_star_38 (d + 2) res l1 l2 l3 ) (QfX8_star_38 (d + 2) res l1 l2 l3 ) z) : PfX8_star_38 (d + 2) res l1 l2 l3 x := by
  unfold bfX8_star_38 at h
  show ∀ (w4 w6 w7 : Option Value), am_Rn (am_C (d + 2)) (am_ct 138) (am_rk 138) res (38, [some (.ref 128), some (.int l1), some (.int l2), some (.int l3), w4, some (.int x.1), w6, w7], [], am_T0 x.2)
  intro w4 w6 w7
  refine am_Rn.op _ (40, [some (.ref 128), some (.int l1), some (.int l2), some (.int l3), w4, some (.int x.1), w6, w7], [.int x.1], am_T0 x.2) rfl rfl ?_
  refine am_Rn.op _ (41, [some (.ref 128), some (.int l1), some (.int l2), some (.int l3), w4, some (.int x.1), w6, w7], [.int 5, .int x.1], am_T0 x.2) rfl rfl ?_
  refine am_Rn.op _ (if 5 ≤ x.1 then 121 else 44, [some (.ref 128), some (.int l1), some (.int l2), some (.int l3), w4, some (.int x.1), w6, w7], [], am_T0 x.2) rfl rfl ?_
  rcases l2_i h with ⟨hc, h⟩ | ⟨hc, h⟩
  · refine am_Rn.ifT hc ?_
    cases h
    exact hz _ _ _ _
  · refine am_Rn.ifF hc ?_
    refine am_Rn.op _ (45, [some (.ref 128), some (.int l1), some (.int l2), some (.int l3), w4, some (.int x.1), w6, w7], [.int 0], am_T0 x.2) rfl rfl ?_
    refine am_Rn.op _ (47, [some (.ref 128), some (.int l1), some (.int l2), some (.int l3), w4, some (.int x.1), some (.int 0), w7], [], am_T0 x.2) rfl rfl ?_
    obtain ⟨y26, hy26, h⟩ := l2_b h
    refine rfX8_star_47 d N _ l1 l2 l3 x.1 (0, x.2) y26 hy26 ?_ _ _
    intro w27 w28 w29
    show am_Rn _ _ _ _ (115, [some (.ref 128), some (.int l1), some (.int l2), some (.int l3), w27, some (.int x.1), w28, w29], [], am_T0 y26)
    refine am_Rn.op _ (118, [some (.ref 128), some (.int l1), some (.int l2), some (.int l3), w27, some (.int (x.1 + 1)), w28, w29], [], am_T0 y26) rfl rfl ?_
    refine am_Rn.op _ (38, [some (.ref 128), some (.int l1), some (.int l2), some (.int l3), w27, some (.int (x.1 + 1)), w28, w29], [], am_T0 y26) rfl rfl ?_
    cases h
    exact hz _ _ _
theorem rfX8_star_38 (d N : Nat) (res : Option Value × am_S) (l1 : Int32) (l2 : Int32) (l3 : Int32) (x : Int32 × St) (y : St) (h : fX8_star_38 N l1 l2 l3 x = some y) (hq : QfX8_star_38 (d + 2) res l1 l2 l3 y) : PfX8_star_38 (d + 2) res l1 l2 l3 x := whl_ind _ _ (fun x z => rbfX8_star_38 d N res l1 l2 l3 x z) N x y h hq
def fX8_star_28 (N : Nat) (l1 : Int32) (l2 : Int32) (l3 : Int32) (l4 : Int32) (l5 : Int32) (s1 : Int32) (s2 : Int32) (S : St) : Option ((Int32 × St) ⊕ (St)) := (if s1 < 0 ∨ 4 ≤ Int32.toNatClampNeg s1 then none else some (.inl ((l5 + 1), (st_i S 144 (Int32.toNatClampNeg s1) s2))))
set_option maxRecDepth 20000 in
theorem rfX8_star_28 (d N : Nat) (res : Option Value × am_S) (l1 : Int32) (l2 : Int32) (l3 : Int32) (l4 : Int32) (l5 : Int32) (s1 : Int32) (s2 : Int32) (S : St) (z : (Int32 × St) ⊕ (St)) (h : fX8_star_28 N l1 l2 l3 l4 l5 s1 s2 S = some z) (hz : Sum.elim (PfX8_star_3 (d + 2) res l1 l2 l3 l4 ) (QfX8_star_3 (d + 2) res l1 l2 l3 l4 ) z) (w6 : Option Value) (w7 : Option Value) : am_Rn (am_C (d + 2)) (am_ct 138) (am_rk 138) res (28, [some (.ref 128), some (.int l1), some (.int l2), some (.int l3), some (.int l4), some (.int l5), w6, w7], [.int s2, .int s1, .ref 144], am_T0 S) := by
  unfold fX8_star_28 at h
  obtain ⟨hb30, h⟩ := l2_n h
  refine am_Rn.iast (n := 4) rfl rfl hb30 ?_
  show am_Rn _ _ _ _ (29, [some (.ref 128), some (.int l1), some (.int l2), some (.int l3), some (.int l4), some (.int l5), w6, w7], [], am_T0 (st_i S 144 (Int32.toNatClampNeg s1) s2))
  refine am_Rn.op _ (32, [some (.ref 128), some (.int l1), some (.int l2), some (.int l3), some (.int l4), some (.int (l5 + 1)), w6, w7], [], am_T0 (st_i S 144 (Int32.toNatClampNeg s1) s2)) rfl rfl ?_
  refine am_Rn.op _ (3, [some (.ref 128), some (.int l1), some (.int l2), some (.int l3), some (.int l4), some (.int (l5 + 1)), w6, w7], [], am_T0 (st_i S 144 (Int32.toNatClampNeg s1) s2)) rfl rfl ?_
  cases h
  exact hz _ _
def bfX8_star_3 (N : Nat) (l1 : Int32) (l2 : Int32) (l3 : Int32) (l4 : Int32) (x : Int32 × St) : Option ((Int32 × St) ⊕ (St)) := (if 4 ≤ x.1 then some (.inr (x.2)) else (if x.1 = l4 then fX8_star_28 N l1 l2 l3 l4 x.1 x.1 0 x.2 else fX8_star_28 N l1 l2 l3 l4 x.1 x.1 100000 x.2))
def fX8_star_3 (N : Nat) (l1 : Int32) (l2 : Int32) (l3 : Int32) (l4 : Int32) (x : Int32 × St) : Option (St) := whl N (bfX8_star_3 N l1 l2 l3 l4 ) x
set_option maxRecDepth 20000 in
theorem rbfX8_star_3 (d N : Nat) (res : Option Value × am_S) (l1 : Int32) (l2 : Int32) (l3 : Int32) (l4 : Int32) (x : Int32 × St) (z : (Int32 × St) ⊕ (St)) (h : bfX8_star_3 N l1 l2 l3 l4 x = some z) (hz : Sum.elim (PfX8_star_3 (d + 2) res l1 l2 l3 l4 ) (QfX8_star_3 (d + 2) res l1 l2 l3 l4 ) z) : PfX8_star_3 (d + 2) res l1 l2 l3 l4 x := by
  unfold bfX8_star_3 at h
  show ∀ (w6 w7 : Option Value), am_Rn (am_C (d + 2)) (am_ct 138) (am_rk 138) res (3, [some (.ref 128), some (.int l1), some (.int l2), some (.int l3), some (.int l4), some (.int x.1), w6, w7], [], am_T0 x.2)
  intro w6 w7
  refine am_Rn.op _ (5, [some (.ref 128), some (.int l1), some (.int l2), some (.int l3), some (.int l4), some (.int x.1), w6, w7], [.int x.1], am_T0 x.2) rfl rfl ?_
  refine am_Rn.op _ (6, [some (.ref 128), some (.int l1), some (.int l2), some (.int l3), some (.int l4), some (.int x.1), w6, w7], [.int 4, .int x.1], am_T0 x.2) rfl rfl ?_
  refine am_Rn.op _ (if 4 ≤ x.1 then 35 else 9, [some (.ref 128), some (.int l1), some (.int l2), some (.int l3), some (.int l4), some (.int x.1), w6, w7], [], am_T0 x.2) rfl rfl ?_
  rcases l2_i h with ⟨hc, h⟩ | ⟨hc, h⟩
  · refine am_Rn.ifT hc ?_
    cases h
    exact hz _ _ _ _
  · refine am_Rn.ifF hc ?_
    refine am_Rn.op _ (10, [some (.ref 128), some (.int l1), some (.int l2), some (.int l3), some (.int l4), some (.int x.1), w6, w7], [.ref 128], am_T0 x.2) rfl rfl ?_
    refine am_Rn.op _ (13, [some (.ref 128), some (.int l1), some (.int l2), some (.int l3), some (.int l4), some (.int x.1), w6, w7], [.ref 144], am_T0 x.2) rfl rfl ?_
    refine am_Rn.op _ (15, [some (.ref 128), some (.int l1), some (.int l2), some (.int l3), some (.int l4), some (.int x.1), w6, w7], [.int x.1, .ref 144], am_T0 x.2) rfl rfl ?_
    refine am_Rn.op _ (17, [some (.ref 128), some (.int l1), some (.int l2), some (.int l3), some (.int l4), some (.int x.1), w6, w7], [.int x.1, .int x.1, .ref 144], am_T0 x.2) rfl rfl ?_
    refine am_Rn.op _ (19, [some (.ref 128), some (.int l1), some (.int l2), some (.int l3), some (.int l4), some (.int x.1), w6, w7], [.int l4, .int x.1, .int x.1, .ref 144], am_T0 x.2) rfl rfl ?_
    refine am_Rn.op _ (if x.1 = l4 then 22 else 26, [some (.ref 128), some (.int l1), some (.int l2), some (.int l3), some (.int l4), some (.int x.1), w6, w7], [.int x.1, .ref 144], am_T0 x.2) rfl rfl ?_
    rcases l2_i h with ⟨hc, h⟩ | ⟨hc, h⟩
    · refine am_Rn.ifT hc ?_
      refine am_Rn.op _ (23, [some (.ref 128), some (.int l1), some (.int l2), some (.int l3), some (.int l4), some (.int x.1), w6, w7], [.int 0, .int x.1, .ref 144], am_T0 x.2) rfl rfl ?_
      refine am_Rn.op _ (28, [some (.ref 128), some (.int l1), some (.int l2), some (.int l3), some (.int l4), some (.int x.1), w6, w7], [.int 0, .int x.1, .ref 144], am_T0 x.2) rfl rfl ?_
      exact rfX8_star_28 d N _ l1 l2 l3 l4 x.1 x.1 0 x.2 _ h hz _ _
    · refine am_Rn.ifF hc ?_
      refine am_Rn.op _ (28, [some (.ref 128), some (.int l1), some (.int l2), some (.int l3), some (.int l4), some (.int x.1), w6, w7], [.int 100000, .int x.1, .ref 144], am_T0 x.2) rfl rfl ?_
      exact rfX8_star_28 d N _ l1 l2 l3 l4 x.1 x.1 100000 x.2 _ h hz _ _
theorem rfX8_star_3 (d N : Nat) (res : Option Value × am_S) (l1 : Int32) (l2 : Int32) (l3 : Int32) (l4 : Int32) (x : Int32 × St) (y : St) (h : fX8_star_3 N l1 l2 l3 l4 x = some y) (hq : QfX8_star_3 (d + 2) res l1 l2 l3 l4 y) : PfX8_star_3 (d + 2) res l1 l2 l3 l4 x := whl_ind _ _ (fun x z => rbfX8_star_3 d N res l1 l2 l3 l4 x z) N x y h hq
def fX8_star (N : Nat) (l1 : Int32) (l2 : Int32) (l3 : Int32) (l4 : Int32) (S : St) : Option St := (fX8_star_3 N l1 l2 l3 l4 (0, S)).bind (fun y31 => (fX8_star_38 N l1 l2 l3 (0, y31)).bind (fun y36 => (fX8_star_124 N l1 l2 l3 (0, y36)).bind (fun y41 => some y41)))
set_option maxRecDepth 20000 in
theorem rfX8_star (d N : Nat) (l1 : Int32) (l2 : Int32) (l3 : Int32) (l4 : Int32) (S : St) (z : St) (h : fX8_star N l1 l2 l3 l4 S = some z) : am_C (d + 3) 138 [.ref 128, .int l1, .int l2, .int l3, .int l4] (am_T0 S) (none, am_T0 z) := by
  unfold fX8_star at h
  show am_Rn (am_C (d + 2)) (am_ct 138) (am_rk 138) (none, am_T0 z) (0, [some (.ref 128), some (.int l1), some (.int l2), some (.int l3), some (.int l4), none, none, none], [], am_T0 S)
  refine am_Rn.op _ (1, [some (.ref 128), some (.int l1), some (.int l2), some (.int l3), some (.int l4), none, none, none], [.int 0], am_T0 S) rfl rfl ?_
  refine am_Rn.op _ (3, [some (.ref 128), some (.int l1), some (.int l2), some (.int l3), some (.int l4), some (.int 0), none, none], [], am_T0 S) rfl rfl ?_
  obtain ⟨y31, hy31, h⟩ := l2_b h
  refine rfX8_star_3 d N _ l1 l2 l3 l4 (0, S) y31 hy31 ?_ _ _
  intro w32 w33 w34 w35
  show am_Rn _ _ _ _ (35, [some (.ref 128), some (.int l1), some (.int l2), some (.int l3), w32, w33, w34, w35], [], am_T0 y31)
  refine am_Rn.op _ (36, [some (.ref 128), some (.int l1), some (.int l2), some (.int l3), w32, w33, w34, w35], [.int 0], am_T0 y31) rfl rfl ?_
  refine am_Rn.op _ (38, [some (.ref 128), some (.int l1), some (.int l2), some (.int l3), w32, some (.int 0), w34, w35], [], am_T0 y31) rfl rfl ?_
  obtain ⟨y36, hy36, h⟩ := l2_b h
  refine rfX8_star_38 d N _ l1 l2 l3 (0, y31) y36 hy36 ?_ _ _ _
  intro w37 w38 w39 w40
  show am_Rn _ _ _ _ (121, [some (.ref 128), some (.int l1), some (.int l2), some (.int l3), w37, w38, w39, w40], [], am_T0 y36)
  refine am_Rn.op _ (122, [some (.ref 128), some (.int l1), some (.int l2), some (.int l3), w37, w38, w39, w40], [.int 0], am_T0 y36) rfl rfl ?_
  refine am_Rn.op _ (124, [some (.ref 128), some (.int l1), some (.int l2), some (.int l3), w37, some (.int 0), w39, w40], [], am_T0 y36) rfl rfl ?_
  obtain ⟨y41, hy41, h⟩ := l2_b h
  refine rfX8_star_124 d N _ l1 l2 l3 (0, y36) y41 hy41 ?_ _ _ _
  cases h
  exact rfl
-- X8_signOf
def fX8_signOf_29 (N : Nat) (s0 : Int32) (S : St) : Option (Int32 × St) := some (s0, S)
set_option maxRecDepth 20000 in
theorem rfX8_signOf_29 (d N : Nat) (s0 : Int32) (S : St) (z : (Int32 × St)) (h : fX8_signOf_29 N s0 S = some z) (w0 : Option Value) (w1 : Option Value) (w2 : Option Value) : am_Rn (am_C (d + 0)) (am_ct 139) (am_rk 139) (some (.int z.1), am_T0 z.2) (29, [w0, w1, w2], [.int s0], am_T0 S) := by
  unfold fX8_signOf_29 at h
  cases h
  exact am_Rn.rt _ rfl rfl
def fX8_signOf (N : Nat) (l1 : Int32) (l2 : Int32) (S : St) : Option (Int32 × St) := (if l1 < 0 ∨ 8 ≤ Int32.toNatClampNeg l1 then none else (if (S.1 133 (Int32.toNatClampNeg l1)) ≤ l2 then fX8_signOf_29 N 0 S else (if ((60 * l1) + l2) < 0 ∨ 480 ≤ Int32.toNatClampNeg ((60 * l1) + l2) then none else fX8_signOf_29 N ((S.1 132 (Int32.toNatClampNeg ((60 * l1) + l2))) &&& 255) S)))
set_option maxRecDepth 20000 in
theorem rfX8_signOf (d N : Nat) (l1 : Int32) (l2 : Int32) (S : St) (z : (Int32 × St)) (h : fX8_signOf N l1 l2 S = some z) : am_C (d + 1) 139 [.ref 128, .int l1, .int l2] (am_T0 S) (some (.int z.1), am_T0 z.2) := by
  unfold fX8_signOf at h
  show am_Rn (am_C (d + 0)) (am_ct 139) (am_rk 139) (some (.int z.1), am_T0 z.2) (0, [some (.ref 128), some (.int l1), some (.int l2)], [], am_T0 S)
  refine am_Rn.op _ (1, [some (.ref 128), some (.int l1), some (.int l2)], [.int l2], am_T0 S) rfl rfl ?_
  refine am_Rn.op _ (2, [some (.ref 128), some (.int l1), some (.int l2)], [.ref 128, .int l2], am_T0 S) rfl rfl ?_
  refine am_Rn.op _ (5, [some (.ref 128), some (.int l1), some (.int l2)], [.ref 133, .int l2], am_T0 S) rfl rfl ?_
  refine am_Rn.op _ (6, [some (.ref 128), some (.int l1), some (.int l2)], [.int l1, .ref 133, .int l2], am_T0 S) rfl rfl ?_
  obtain ⟨hb1, h⟩ := l2_n h
  refine am_Rn.iald (n := 8) rfl rfl hb1 ?_
  show am_Rn _ _ _ _ (7, [some (.ref 128), some (.int l1), some (.int l2)], [.int (S.1 133 (Int32.toNatClampNeg l1)), .int l2], am_T0 S)
  refine am_Rn.op _ (if (S.1 133 (Int32.toNatClampNeg l1)) ≤ l2 then 28 else 10, [some (.ref 128), some (.int l1), some (.int l2)], [], am_T0 S) rfl rfl ?_
  rcases l2_i h with ⟨hc, h⟩ | ⟨hc, h⟩
  · refine am_Rn.ifT hc ?_
    refine am_Rn.op _ (29, [some (.ref 128), some (.int l1), some (.int l2)], [.int 0], am_T0 S) rfl rfl ?_
    exact rfX8_signOf_29 d N 0 S _ h _ _ _
  · refine am_Rn.ifF hc ?_
    refine am_Rn.op _ (11, [some (.ref 128), some (.int l1), some (.int l2)], [.ref 128], am_T0 S) rfl rfl ?_
    refine am_Rn.op _ (14, [some (.ref 128), some (.int l1), some (.int l2)], [.ref 132], am_T0 S) rfl rfl ?_
    refine am_Rn.op _ (16, [some (.ref 128), some (.int l1), some (.int l2)], [.int 60, .ref 132], am_T0 S) rfl rfl ?_
    refine am_Rn.op _ (17, [some (.ref 128), some (.int l1), some (.int l2)], [.int l1, .int 60, .ref 132], am_T0 S) rfl rfl ?_
    refine am_Rn.op _ (18, [some (.ref 128), some (.int l1), some (.int l2)], [.int (60 * l1), .ref 132], am_T0 S) rfl rfl ?_
    refine am_Rn.op _ (19, [some (.ref 128), some (.int l1), some (.int l2)], [.int l2, .int (60 * l1), .ref 132], am_T0 S) rfl rfl ?_
    refine am_Rn.op _ (20, [some (.ref 128), some (.int l1), some (.int l2)], [.int ((60 * l1) + l2), .ref 132], am_T0 S) rfl rfl ?_
    obtain ⟨hb2, h⟩ := l2_n h
    refine am_Rn.bald1 (n := 480) rfl rfl hb2 ?_
    show am_Rn _ _ _ _ (21, [some (.ref 128), some (.int l1), some (.int l2)], [.int (S.1 132 (Int32.toNatClampNeg ((60 * l1) + l2)))], am_T0 S)
    refine am_Rn.op _ (24, [some (.ref 128), some (.int l1), some (.int l2)], [.int 255, .int (S.1 132 (Int32.toNatClampNeg ((60 * l1) + l2)))], am_T0 S) rfl rfl ?_
    refine am_Rn.op _ (25, [some (.ref 128), some (.int l1), some (.int l2)], [.int ((S.1 132 (Int32.toNatClampNeg ((60 * l1) + l2))) &&& 255)], am_T0 S) rfl rfl ?_
    refine am_Rn.op _ (29, [some (.ref 128), some (.int l1), some (.int l2)], [.int ((S.1 132 (Int32.toNatClampNeg ((60 * l1) + l2))) &&& 255)], am_T0 S) rfl rfl ?_
    exact rfX8_signOf_29 d N ((S.1 132 (Int32.toNatClampNeg ((60 * l1) + l2))) &&& 255) S _ h _ _ _
-- X8_shutOf
def fX8_shutOf (N : Nat) (l1 : Int32) (l2 : Int32) (S : St) : Option (Int32 × St) := (if ((60 * l1) + l2) < 0 ∨ 480 ≤ Int32.toNatClampNeg ((60 * l1) + l2) then none else some ((S.1 134 (Int32.toNatClampNeg ((60 * l1) + l2))), S))
set_option maxRecDepth 20000 in
theorem rfX8_shutOf (d N : Nat) (l1 : Int32) (l2 : Int32) (S : St) (z : (Int32 × St)) (h : fX8_shutOf N l1 l2 S = some z) : am_C (d + 1) 140 [.ref 128, .int l1, .int l2] (am_T0 S) (some (.int z.1), am_T0 z.2) := by
  unfold fX8_shutOf at h
  show am_Rn (am_C (d + 0)) (am_ct 140) (am_rk 140) (some (.int z.1), am_T0 z.2) (0, [some (.ref 128), some (.int l1), some (.int l2)], [], am_T0 S)
  refine am_Rn.op _ (1, [some (.ref 128), some (.int l1), some (.int l2)], [.ref 128], am_T0 S) rfl rfl ?_
  refine am_Rn.op _ (4, [some (.ref 128), some (.int l1), some (.int l2)], [.ref 134], am_T0 S) rfl rfl ?_
  refine am_Rn.op _ (6, [some (.ref 128), some (.int l1), some (.int l2)], [.int 60, .ref 134], am_T0 S) rfl rfl ?_
  refine am_Rn.op _ (7, [some (.ref 128), some (.int l1), some (.int l2)], [.int l1, .int 60, .ref 134], am_T0 S) rfl rfl ?_
  refine am_Rn.op _ (8, [some (.ref 128), some (.int l1), some (.int l2)], [.int (60 * l1), .ref 134], am_T0 S) rfl rfl ?_
  refine am_Rn.op _ (9, [some (.ref 128), some (.int l1), some (.int l2)], [.int l2, .int (60 * l1), .ref 134], am_T0 S) rfl rfl ?_
  refine am_Rn.op _ (10, [some (.ref 128), some (.int l1), some (.int l2)], [.int ((60 * l1) + l2), .ref 134], am_T0 S) rfl rfl ?_
  obtain ⟨hb1, h⟩ := l2_n h
  refine am_Rn.iald (n := 480) rfl rfl hb1 ?_
  show am_Rn _ _ _ _ (11, [some (.ref 128), some (.int l1), some (.int l2)], [.int (S.1 134 (Int32.toNatClampNeg ((60 * l1) + l2)))], am_T0 S)
  cases h
  exact am_Rn.rt _ rfl rfl
-- X8_takerFor
def PfX8_takerFor_3 (d : Nat) (res : Option Value × am_S) (l1 : Int32) (l3 : Int32) (x : Int32 × St) : Prop := ∀ (w2 : Option Value), am_Rn (am_C d) (am_ct 141) (am_rk 141) res (3, [some (.ref 128), some (.int l1), w2, some (.int l3), some (.int x.1)], [], am_T0 x.2)
def QfX8_takerFor_3 (d : Nat) (res : Option Value × am_S) (l1 : Int32) (l3 : Int32) (y : (Int32 × St)) : Prop := res = (some (.int y.1), am_T0 y.2)
def bfX8_takerFor_3 (N : Nat) (l1 : Int32) (l3 : Int32) (x : Int32 × St) : Option ((Int32 × St) ⊕ ((Int32 × St))) := (fX8_signOf N l1 x.1 x.2).bind (fun q1 => (fX8_isLetter N q1.1 q1.2).bind (fun q2 => (if q2.1 = 0 then some (.inr ((-1), q2.2)) else (fX8_signOf N l1 x.1 q2.2).bind (fun q3 => (fX8_isOf N l3 (q3.1 - 65) q3.2).bind (fun q4 => (if q4.1 = 0 then (fX8_shutOf N l1 (x.1 + 1) q4.2).bind (fun q5 => some (.inl ((q5.1 + 1), q5.2))) else some (.inr (x.1, q4.2))))))))
def fX8_takerFor_3 (N : Nat) (l1 : Int32) (l3 : Int32) (x : Int32 × St) : Option ((Int32 × St)) := whl N (bfX8_takerFor_3 N l1 l3 ) x
set_option maxRecDepth 20000 in
theorem rbfX8_takerFor_3 (d N : Nat) (res : Option Value × am_S) (l1 : Int32) (l3 : Int32) (x : Int32 × St) (z : (Int32 × St) ⊕ ((Int32 × St))) (h : bfX8_takerFor_3 N l1 l3 x = some z) (hz : Sum.elim (PfX8_takerFor_3 (d + 1) res l1 l3 ) (QfX8_takerFor_3 (d + 1) res l1 l3 ) z) : PfX8_takerFor_3 (d + 1) res l1 l3 x := by
  unfold bfX8_takerFor_3 at h
  show ∀ (w2 : Option Value), am_Rn (am_C (d + 1)) (am_ct 141) (am_rk 141) res (3, [some (.ref 128), some (.int l1), w2, some (.int l3), some (.int x.1)], [], am_T0 x.2)
  intro w2
  refine am_Rn.op _ (4, [some (.ref 128), some (.int l1), w2, some (.int l3), some (.int x.1)], [.ref 128], am_T0 x.2) rfl rfl ?_
  refine am_Rn.op _ (5, [some (.ref 128), some (.int l1), w2, some (.int l3), some (.int x.1)], [.int l1, .ref 128], am_T0 x.2) rfl rfl ?_
  refine am_Rn.op _ (7, [some (.ref 128), some (.int l1), w2, some (.int l3), some (.int x.1)], [.int x.1, .int l1, .ref 128], am_T0 x.2) rfl rfl ?_
  obtain ⟨q1, hq1, h⟩ := l2_b h
  refine am_Rn.cl _ (some (.int q1.1)) (am_T0 q1.2) rfl rfl (rfX8_signOf (d + 0) N l1 x.1 x.2 q1 hq1) ?_
  show am_Rn _ _ _ _ (10, [some (.ref 128), some (.int l1), w2, some (.int l3), some (.int x.1)], [.int q1.1], am_T0 q1.2)
  obtain ⟨q2, hq2, h⟩ := l2_b h
  refine am_Rn.cl _ (some (.int q2.1)) (am_T0 q2.2) rfl rfl (rfX8_isLetter (d + 0) N q1.1 q1.2 q2 hq2) ?_
  show am_Rn _ _ _ _ (13, [some (.ref 128), some (.int l1), w2, some (.int l3), some (.int x.1)], [.int q2.1], am_T0 q2.2)
  refine am_Rn.op _ (if q2.1 = 0 then 53 else 16, [some (.ref 128), some (.int l1), w2, some (.int l3), some (.int x.1)], [], am_T0 q2.2) rfl rfl ?_
  rcases l2_i h with ⟨hc, h⟩ | ⟨hc, h⟩
  · refine am_Rn.ifT hc ?_
    refine am_Rn.op _ (54, [some (.ref 128), some (.int l1), w2, some (.int l3), some (.int x.1)], [.int (-1)], am_T0 q2.2) rfl rfl ?_
    cases h
    exact am_Rn.rt2 _ rfl rfl hz
  · refine am_Rn.ifF hc ?_
    refine am_Rn.op _ (17, [some (.ref 128), some (.int l1), w2, some (.int l3), some (.int x.1)], [.ref 128], am_T0 q2.2) rfl rfl ?_
    refine am_Rn.op _ (18, [some (.ref 128), some (.int l1), w2, some (.int l3), some (.int x.1)], [.int l3, .ref 128], am_T0 q2.2) rfl rfl ?_
    refine am_Rn.op _ (19, [some (.ref 128), some (.int l1), w2, some (.int l3), some (.int x.1)], [.ref 128, .int l3, .ref 128], am_T0 q2.2) rfl rfl ?_
    refine am_Rn.op _ (20, [some (.ref 128), some (.int l1), w2, some (.int l3), some (.int x.1)], [.int l1, .ref 128, .int l3, .ref 128], am_T0 q2.2) rfl rfl ?_
    refine am_Rn.op _ (22, [some (.ref 128), some (.int l1), w2, some (.int l3), some (.int x.1)], [.int x.1, .int l1, .ref 128, .int l3, .ref 128], am_T0 q2.2) rfl rfl ?_
    obtain ⟨q3, hq3, h⟩ := l2_b h
    refine am_Rn.cl _ (some (.int q3.1)) (am_T0 q3.2) rfl rfl (rfX8_signOf (d + 0) N l1 x.1 q2.2 q3 hq3) ?_
    show am_Rn _ _ _ _ (25, [some (.ref 128), some (.int l1), w2, some (.int l3), some (.int x.1)], [.int q3.1, .int l3, .ref 128], am_T0 q3.2)
    refine am_Rn.op _ (27, [some (.ref 128), some (.int l1), w2, some (.int l3), some (.int x.1)], [.int 65, .int q3.1, .int l3, .ref 128], am_T0 q3.2) rfl rfl ?_
    refine am_Rn.op _ (28, [some (.ref 128), some (.int l1), w2, some (.int l3), some (.int x.1)], [.int (q3.1 - 65), .int l3, .ref 128], am_T0 q3.2) rfl rfl ?_
    obtain ⟨q4, hq4, h⟩ := l2_b h
    refine am_Rn.cl _ (some (.int q4.1)) (am_T0 q4.2) rfl rfl (rfX8_isOf (d + 0) N l3 (q3.1 - 65) q3.2 q4 hq4) ?_
    show am_Rn _ _ _ _ (31, [some (.ref 128), some (.int l1), w2, some (.int l3), some (.int x.1)], [.int q4.1], am_T0 q4.2)
    refine am_Rn.op _ (if q4.1 = 0 then 37 else 34, [some (.ref 128), some (.int l1), w2, some (.int l3), some (.int x.1)], [], am_T0 q4.2) rfl rfl ?_
    rcases l2_i h with ⟨hc, h⟩ | ⟨hc, h⟩
    · refine am_Rn.ifT hc ?_
      refine am_Rn.op _ (38, [some (.ref 128), some (.int l1), w2, some (.int l3), some (.int x.1)], [.ref 128], am_T0 q4.2) rfl rfl ?_
      refine am_Rn.op _ (39, [some (.ref 128), some (.int l1), w2, some (.int l3), some (.int x.1)], [.int l1, .ref 128], am_T0 q4.2) rfl rfl ?_
      refine am_Rn.op _ (41, [some (.ref 128), some (.int l1), w2, some (.int l3), some (.int x.1)], [.int x.1, .int l1, .ref 128], am_T0 q4.2) rfl rfl ?_
      refine am_Rn.op _ (42, [some (.ref 128), some (.int l1), w2, some (.int l3), some (.int x.1)], [.int 1, .int x.1, .int l1, .ref 128], am_T0 q4.2) rfl rfl ?_
      refine am_Rn.op _ (43, [some (.ref 128), some (.int l1), w2, some (.int l3), some (.int x.1)], [.int (x.1 + 1), .int l1, .ref 128], am_T0 q4.2) rfl rfl ?_
      obtain ⟨q5, hq5, h⟩ := l2_b h
      refine am_Rn.cl _ (some (.int q5.1)) (am_T0 q5.2) rfl rfl (rfX8_shutOf (d + 0) N l1 (x.1 + 1) q4.2 q5 hq5) ?_
      show am_Rn _ _ _ _ (46, [some (.ref 128), some (.int l1), w2, some (.int l3), some (.int x.1)], [.int q5.1], am_T0 q5.2)
      refine am_Rn.op _ (47, [some (.ref 128), some (.int l1), w2, some (.int l3), some (.int x.1)], [.int 1, .int q5.1], am_T0 q5.2) rfl rfl ?_
      refine am_Rn.op _ (48, [some (.ref 128), some (.int l1), w2, some (.int l3), some (.int x.1)], [.int (q5.1 + 1)], am_T0 q5.2) rfl rfl ?_
      refine am_Rn.op _ (50, [some (.ref 128), some (.int l1), w2, some (.int l3), some (.int (q5.1 + 1))], [], am_T0 q5.2) rfl rfl ?_
      refine am_Rn.op _ (3, [some (.ref 128), some (.int l1), w2, some (.int l3), some (.int (q5.1 + 1))], [], am_T0 q5.2) rfl rfl ?_
      cases h
      exact hz _
    · refine am_Rn.ifF hc ?_
      refine am_Rn.op _ (36, [some (.ref 128), some (.int l1), w2, some (.int l3), some (.int x.1)], [.int x.1], am_T0 q4.2) rfl rfl ?_
      cases h
      exact am_Rn.rt2 _ rfl rfl hz
theorem rfX8_takerFor_3 (d N : Nat) (res : Option Value × am_S) (l1 : Int32) (l3 : Int32) (x : Int32 × St) (y : (Int32 × St)) (h : fX8_takerFor_3 N l1 l3 x = some y) (hq : QfX8_takerFor_3 (d + 1) res l1 l3 y) : PfX8_takerFor_3 (d + 1) res l1 l3 x := whl_ind _ _ (fun x z => rbfX8_takerFor_3 d N res l1 l3 x z) N x y h hq
def fX8_takerFor (N : Nat) (l1 : Int32) (l2 : Int32) (l3 : Int32) (S : St) : Option (Int32 × St) := (fX8_takerFor_3 N l1 l3 (l2, S)).bind (fun y6 => some (y6.1, y6.2))
set_option maxRecDepth 20000 in
theorem rfX8_takerFor (d N : Nat) (l1 : Int32) (l2 : Int32) (l3 : Int32) (S : St) (z : (Int32 × St)) (h : fX8_takerFor N l1 l2 l3 S = some z) : am_C (d + 2) 141 [.ref 128, .int l1, .int l2, .int l3] (am_T0 S) (some (.int z.1), am_T0 z.2) := by
  unfold fX8_takerFor at h
  show am_Rn (am_C (d + 1)) (am_ct 141) (am_rk 141) (some (.int z.1), am_T0 z.2) (0, [some (.ref 128), some (.int l1), some (.int l2), some (.int l3), none], [], am_T0 S)
  refine am_Rn.op _ (1, [some (.ref 128), some (.int l1), some (.int l2), some (.int l3), none], [.int l2], am_T0 S) rfl rfl ?_
  refine am_Rn.op _ (3, [some (.ref 128), some (.int l1), some (.int l2), some (.int l3), some (.int l2)], [], am_T0 S) rfl rfl ?_
  obtain ⟨y6, hy6, h⟩ := l2_b h
  refine rfX8_takerFor_3 d N _ l1 l3 (l2, S) y6 hy6 ?_ _
  cases h
  exact rfl
