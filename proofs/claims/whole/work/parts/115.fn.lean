-- X8_promise
def fX8_promise (N : Nat) (l1 : Int32) (l2 : Int32) (S : St) : Option (Int32 × St) := (fX8_isRoutine N l1 S).bind (fun q1 => (if q1.1 = 0 then some (0, q1.2) else (if l2 < 0 then some (0, q1.2) else (if l2 ≤ 63 then (if l1 < 0 ∨ 8 ≤ Int32.toNatClampNeg l1 then none else some (1, (st_i q1.2 130 (Int32.toNatClampNeg l1) l2))) else some (0, q1.2)))))
set_option maxRecDepth 20000 in
theorem rfX8_promise (d N : Nat) (l1 : Int32) (l2 : Int32) (S : St) (z : (Int32 × St)) (h : fX8_promise N l1 l2 S = some z) : am_C (d + 2) 163 [.ref 128, .int l1, .int l2] (am_T0 S) (some (.int z.1), am_T0 z.2) := by
  unfold fX8_promise at h
  show am_Rn (am_C (d + 1)) (am_ct 163) (am_rk 163) (some (.int z.1), am_T0 z.2) (0, [some (.ref 128), some (.int l1), some (.int l2)], [], am_T0 S)
  refine am_Rn.op _ (1, [some (.ref 128), some (.int l1), some (.int l2)], [.int l1], am_T0 S) rfl rfl ?_
  obtain ⟨q1, hq1, h⟩ := l2_b h
  refine am_Rn.cl _ (some (.int q1.1)) (am_T0 q1.2) rfl rfl (rfX8_isRoutine (d + 0) N l1 S q1 hq1) ?_
  show am_Rn _ _ _ _ (4, [some (.ref 128), some (.int l1), some (.int l2)], [.int q1.1], am_T0 q1.2)
  refine am_Rn.op _ (if q1.1 = 0 then 17 else 7, [some (.ref 128), some (.int l1), some (.int l2)], [], am_T0 q1.2) rfl rfl ?_
  rcases l2_i h with ⟨hc, h⟩ | ⟨hc, h⟩
  · refine am_Rn.ifT hc ?_
    refine am_Rn.op _ (18, [some (.ref 128), some (.int l1), some (.int l2)], [.int 0], am_T0 q1.2) rfl rfl ?_
    cases h
    exact am_Rn.rt _ rfl rfl
  · refine am_Rn.ifF hc ?_
    refine am_Rn.op _ (8, [some (.ref 128), some (.int l1), some (.int l2)], [.int l2], am_T0 q1.2) rfl rfl ?_
    refine am_Rn.op _ (if l2 < 0 then 17 else 11, [some (.ref 128), some (.int l1), some (.int l2)], [], am_T0 q1.2) rfl rfl ?_
    rcases l2_i h with ⟨hc, h⟩ | ⟨hc, h⟩
    · refine am_Rn.ifT hc ?_
      refine am_Rn.op _ (18, [some (.ref 128), some (.int l1), some (.int l2)], [.int 0], am_T0 q1.2) rfl rfl ?_
      cases h
      exact am_Rn.rt _ rfl rfl
    · refine am_Rn.ifF hc ?_
      refine am_Rn.op _ (12, [some (.ref 128), some (.int l1), some (.int l2)], [.int l2], am_T0 q1.2) rfl rfl ?_
      refine am_Rn.op _ (14, [some (.ref 128), some (.int l1), some (.int l2)], [.int 63, .int l2], am_T0 q1.2) rfl rfl ?_
      refine am_Rn.op _ (if l2 ≤ 63 then 19 else 17, [some (.ref 128), some (.int l1), some (.int l2)], [], am_T0 q1.2) rfl rfl ?_
      rcases l2_i h with ⟨hc, h⟩ | ⟨hc, h⟩
      · refine am_Rn.ifT hc ?_
        refine am_Rn.op _ (20, [some (.ref 128), some (.int l1), some (.int l2)], [.ref 128], am_T0 q1.2) rfl rfl ?_
        refine am_Rn.op _ (23, [some (.ref 128), some (.int l1), some (.int l2)], [.ref 130], am_T0 q1.2) rfl rfl ?_
        refine am_Rn.op _ (24, [some (.ref 128), some (.int l1), some (.int l2)], [.int l1, .ref 130], am_T0 q1.2) rfl rfl ?_
        refine am_Rn.op _ (25, [some (.ref 128), some (.int l1), some (.int l2)], [.int l2, .int l1, .ref 130], am_T0 q1.2) rfl rfl ?_
        obtain ⟨hb2, h⟩ := l2_n h
        refine am_Rn.iast (n := 8) rfl rfl hb2 ?_
        show am_Rn _ _ _ _ (26, [some (.ref 128), some (.int l1), some (.int l2)], [], am_T0 (st_i q1.2 130 (Int32.toNatClampNeg l1) l2))
        refine am_Rn.op _ (27, [some (.ref 128), some (.int l1), some (.int l2)], [.int 1], am_T0 (st_i q1.2 130 (Int32.toNatClampNeg l1) l2)) rfl rfl ?_
        cases h
        exact am_Rn.rt _ rfl rfl
      · refine am_Rn.ifF hc ?_
        refine am_Rn.op _ (18, [some (.ref 128), some (.int l1), some (.int l2)], [.int 0], am_T0 q1.2) rfl rfl ?_
        cases h
        exact am_Rn.rt _ rfl rfl
-- X8_broken
def PfX8_broken_18 (d : Nat) (res : Option Value × am_S) (l1 : Int32) (x : Int32 × Int32 × St) : Prop := ∀ (w4 w5 : Option Value), am_Rn (am_C d) (am_ct 164) (am_rk 164) res (18, [some (.ref 128), some (.int l1), some (.int x.1), some (.int x.2.1), w4, w5], [], am_T0 x.2.2)
def QfX8_broken_18 (d : Nat) (res : Option Value × am_S) (l1 : Int32) (y : (Int32 × St)) : Prop := res = (some (.int y.1), am_T0 y.2)
def PfX8_broken_30 (d : Nat) (res : Option Value × am_S) (l1 : Int32) (l2 : Int32) (l3 : Int32) (x : Int32 × Int32 × St) : Prop := am_Rn (am_C d) (am_ct 164) (am_rk 164) res (30, [some (.ref 128), some (.int l1), some (.int l2), some (.int l3), some (.int x.1), some (.int x.2.1)], [], am_T0 x.2.2)
def QfX8_broken_30 (d : Nat) (res : Option Value × am_S) (l1 : Int32) (l2 : Int32) (l3 : Int32) (y : Int32 × St) : Prop := ∀ (w5 : Option Value), am_Rn (am_C d) (am_ct 164) (am_rk 164) res (80, [some (.ref 128), some (.int l1), some (.int l2), some (.int l3), some (.int y.1), w5], [], am_T0 y.2)
def fX8_broken_93 (N : Nat) (l1 : Int32) (l2 : Int32) (l3 : Int32) (S : St) : Option ((Int32 × Int32 × St) ⊕ ((Int32 × St))) := some (.inl (l2, (l3 + 1), S))
set_option maxRecDepth 20000 in
theorem rfX8_broken_93 (d N : Nat) (res : Option Value × am_S) (l1 : Int32) (l2 : Int32) (l3 : Int32) (S : St) (z : (Int32 × Int32 × St) ⊕ ((Int32 × St))) (h : fX8_broken_93 N l1 l2 l3 S = some z) (hz : Sum.elim (PfX8_broken_18 (d + 12) res l1 ) (QfX8_broken_18 (d + 12) res l1 ) z) (w4 : Option Value) (w5 : Option Value) : am_Rn (am_C (d + 12)) (am_ct 164) (am_rk 164) res (93, [some (.ref 128), some (.int l1), some (.int l2), some (.int l3), w4, w5], [], am_T0 S) := by
  unfold fX8_broken_93 at h
  refine am_Rn.op _ (96, [some (.ref 128), some (.int l1), some (.int l2), some (.int (l3 + 1)), w4, w5], [], am_T0 S) rfl rfl ?_
  refine am_Rn.op _ (18, [some (.ref 128), some (.int l1), some (.int l2), some (.int (l3 + 1)), w4, w5], [], am_T0 S) rfl rfl ?_
  cases h
  exact hz _ _
def fX8_broken_72 (N : Nat) (l1 : Int32) (l2 : Int32) (l3 : Int32) (l5 : Int32) (s0 : Int32) (S : St) : Option ((Int32 × Int32 × St) ⊕ (Int32 × St)) := some (.inl (s0, (l5 + 1), S))
set_option maxRecDepth 20000 in
theorem rfX8_broken_72 (d N : Nat) (res : Option Value × am_S) (l1 : Int32) (l2 : Int32) (l3 : Int32) (l5 : Int32) (s0 : Int32) (S : St) (z : (Int32 × Int32 × St) ⊕ (Int32 × St)) (h : fX8_broken_72 N l1 l2 l3 l5 s0 S = some z) (hz : Sum.elim (PfX8_broken_30 (d + 12) res l1 l2 l3 ) (QfX8_broken_30 (d + 12) res l1 l2 l3 ) z) (w4 : Option Value) : am_Rn (am_C (d + 12)) (am_ct 164) (am_rk 164) res (72, [some (.ref 128), some (.int l1), some (.int l2), some (.int l3), w4, some (.int l5)], [.int s0], am_T0 S) := by
  unfold fX8_broken_72 at h
  refine am_Rn.op _ (74, [some (.ref 128), some (.int l1), some (.int l2), some (.int l3), some (.int s0), some (.int l5)], [], am_T0 S) rfl rfl ?_
  refine am_Rn.op _ (77, [some (.ref 128), some (.int l1), some (.int l2), some (.int l3), some (.int s0), some (.int (l5 + 1))], [], am_T0 S) rfl rfl ?_
  refine am_Rn.op _ (30, [some (.ref 128), some (.int l1), some (.int l2), some (.int l3), some (.int s0), some (.int (l5 + 1))], [], am_T0 S) rfl rfl ?_
  cases h
  exact hz 
def fX8_broken_71 (N : Nat) (l1 : Int32) (l2 : Int32) (l3 : Int32) (l5 : Int32) (S : St) : Option ((Int32 × Int32 × St) ⊕ (Int32 × St)) := fX8_broken_72 N l1 l2 l3 l5 0 S
set_option maxRecDepth 20000 in
theorem rfX8_broken_71 (d N : Nat) (res : Option Value × am_S) (l1 : Int32) (l2 : Int32) (l3 : Int32) (l5 : Int32) (S : St) (z : (Int32 × Int32 × St) ⊕ (Int32 × St)) (h : fX8_broken_71 N l1 l2 l3 l5 S = some z) (hz : Sum.elim (PfX8_broken_30 (d + 12) res l1 l2 l3 ) (QfX8_broken_30 (d + 12) res l1 l2 l3 ) z) (w4 : Option Value) : am_Rn (am_C (d + 12)) (am_ct 164) (am_rk 164) res (71, [some (.ref 128), some (.int l1), some (.int l2), some (.int l3), w4, some (.int l5)], [], am_T0 S) := by
  unfold fX8_broken_71 at h
  refine am_Rn.op _ (72, [some (.ref 128), some (.int l1), some (.int l2), some (.int l3), w4, some (.int l5)], [.int 0], am_T0 S) rfl rfl ?_
  exact rfX8_broken_72 d N _ l1 l2 l3 l5 0 S _ h hz _
def fX8_broken_67 (N : Nat) (l1 : Int32) (l2 : Int32) (l3 : Int32) (l5 : Int32) (S : St) : Option ((Int32 × Int32 × St) ⊕ (Int32 × St)) := fX8_broken_72 N l1 l2 l3 l5 1 S
set_option maxRecDepth 20000 in
theorem rfX8_broken_67 (d N : Nat) (res : Option Value × am_S) (l1 : Int32) (l2 : Int32) (l3 : Int32) (l5 : Int32) (S : St) (z : (Int32 × Int32 × St) ⊕ (Int32 × St)) (h : fX8_broken_67 N l1 l2 l3 l5 S = some z) (hz : Sum.elim (PfX8_broken_30 (d + 12) res l1 l2 l3 ) (QfX8_broken_30 (d + 12) res l1 l2 l3 ) z) (w4 : Option Value) : am_Rn (am_C (d + 12)) (am_ct 164) (am_rk 164) res (67, [some (.ref 128), some (.int l1), some (.int l2), some (.int l3), w4, some (.int l5)], [], am_T0 S) := by
  unfold fX8_broken_67 at h
  refine am_Rn.op _ (68, [some (.ref 128), some (.int l1), some (.int l2), some (.int l3), w4, some (.int l5)], [.int 1], am_T0 S) rfl rfl ?_
  refine am_Rn.op _ (72, [some (.ref 128), some (.int l1), some (.int l2), some (.int l3), w4, some (.int l5)], [.int 1], am_T0 S) rfl rfl ?_
  exact rfX8_broken_72 d N _ l1 l2 l3 l5 1 S _ h hz _
def bfX8_broken_30 (N : Nat) (l1 : Int32) (l2 : Int32) (l3 : Int32) (x : Int32 × Int32 × St) : Option ((Int32 × Int32 × St) ⊕ (Int32 × St)) := (if 6 ≤ x.2.1 then some (.inr (x.1, x.2.2)) else (if x.1 = 0 then (if l1 < 0 ∨ 8 ≤ Int32.toNatClampNeg l1 then none else (if (((x.2.2.1 130 (Int32.toNatClampNeg l1)) >>> (x.2.1 &&& 31)) &&& 1) = 1 then (fX8_isOf N l3 x.2.1 x.2.2).bind (fun q2 => (if q2.1 = 0 then fX8_broken_71 N l1 l2 l3 x.2.1 q2.2 else fX8_broken_67 N l1 l2 l3 x.2.1 q2.2)) else fX8_broken_71 N l1 l2 l3 x.2.1 x.2.2)) else fX8_broken_67 N l1 l2 l3 x.2.1 x.2.2))
def fX8_broken_30 (N : Nat) (l1 : Int32) (l2 : Int32) (l3 : Int32) (x : Int32 × Int32 × St) : Option (Int32 × St) := whl N (bfX8_broken_30 N l1 l2 l3 ) x
set_option maxRecDepth 20000 in
theorem rbfX8_broken_30 (d N : Nat) (res : Option Value × am_S) (l1 : Int32) (l2 : Int32) (l3 : Int32) (x : Int32 × Int32 × St) (z : (Int32 × Int32 × St) ⊕ (Int32 × St)) (h : bfX8_broken_30 N l1 l2 l3 x = some z) (hz : Sum.elim (PfX8_broken_30 (d + 12) res l1 l2 l3 ) (QfX8_broken_30 (d + 12) res l1 l2 l3 ) z) : PfX8_broken_30 (d + 12) res l1 l2 l3 x := by
  unfold bfX8_broken_30 at h
  show am_Rn (am_C (d + 12)) (am_ct 164) (am_rk 164) res (30, [some (.ref 128), some (.int l1), some (.int l2), some (.int l3), some (.int x.1), some (.int x.2.1)], [], am_T0 x.2.2)
  refine am_Rn.op _ (32, [some (.ref 128), some (.int l1), some (.int l2), some (.int l3), some (.int x.1), some (.int x.2.1)], [.int x.2.1], am_T0 x.2.2) rfl rfl ?_
  refine am_Rn.op _ (34, [some (.ref 128), some (.int l1), some (.int l2), some (.int l3), some (.int x.1), some (.int x.2.1)], [.int 6, .int x.2.1], am_T0 x.2.2) rfl rfl ?_
  refine am_Rn.op _ (if 6 ≤ x.2.1 then 80 else 37, [some (.ref 128), some (.int l1), some (.int l2), some (.int l3), some (.int x.1), some (.int x.2.1)], [], am_T0 x.2.2) rfl rfl ?_
  rcases l2_i h with ⟨hc, h⟩ | ⟨hc, h⟩
  · refine am_Rn.ifT hc ?_
    cases h
    exact hz _
  · refine am_Rn.ifF hc ?_
    refine am_Rn.op _ (39, [some (.ref 128), some (.int l1), some (.int l2), some (.int l3), some (.int x.1), some (.int x.2.1)], [.int x.1], am_T0 x.2.2) rfl rfl ?_
    refine am_Rn.op _ (if x.1 = 0 then 42 else 67, [some (.ref 128), some (.int l1), some (.int l2), some (.int l3), some (.int x.1), some (.int x.2.1)], [], am_T0 x.2.2) rfl rfl ?_
    rcases l2_i h with ⟨hc, h⟩ | ⟨hc, h⟩
    · refine am_Rn.ifT hc ?_
      refine am_Rn.op _ (43, [some (.ref 128), some (.int l1), some (.int l2), some (.int l3), some (.int x.1), some (.int x.2.1)], [.ref 128], am_T0 x.2.2) rfl rfl ?_
      refine am_Rn.op _ (46, [some (.ref 128), some (.int l1), some (.int l2), some (.int l3), some (.int x.1), some (.int x.2.1)], [.ref 130], am_T0 x.2.2) rfl rfl ?_
      refine am_Rn.op _ (47, [some (.ref 128), some (.int l1), some (.int l2), some (.int l3), some (.int x.1), some (.int x.2.1)], [.int l1, .ref 130], am_T0 x.2.2) rfl rfl ?_
      obtain ⟨hb1, h⟩ := l2_n h
      refine am_Rn.iald (n := 8) rfl rfl hb1 ?_
      show am_Rn _ _ _ _ (48, [some (.ref 128), some (.int l1), some (.int l2), some (.int l3), some (.int x.1), some (.int x.2.1)], [.int (x.2.2.1 130 (Int32.toNatClampNeg l1))], am_T0 x.2.2)
      refine am_Rn.op _ (50, [some (.ref 128), some (.int l1), some (.int l2), some (.int l3), some (.int x.1), some (.int x.2.1)], [.int x.2.1, .int (x.2.2.1 130 (Int32.toNatClampNeg l1))], am_T0 x.2.2) rfl rfl ?_
      refine am_Rn.op _ (51, [some (.ref 128), some (.int l1), some (.int l2), some (.int l3), some (.int x.1), some (.int x.2.1)], [.int ((x.2.2.1 130 (Int32.toNatClampNeg l1)) >>> (x.2.1 &&& 31))], am_T0 x.2.2) rfl rfl ?_
      refine am_Rn.op _ (52, [some (.ref 128), some (.int l1), some (.int l2), some (.int l3), some (.int x.1), some (.int x.2.1)], [.int 1, .int ((x.2.2.1 130 (Int32.toNatClampNeg l1)) >>> (x.2.1 &&& 31))], am_T0 x.2.2) rfl rfl ?_
      refine am_Rn.op _ (53, [some (.ref 128), some (.int l1), some (.int l2), some (.int l3), some (.int x.1), some (.int x.2.1)], [.int (((x.2.2.1 130 (Int32.toNatClampNeg l1)) >>> (x.2.1 &&& 31)) &&& 1)], am_T0 x.2.2) rfl rfl ?_
      refine am_Rn.op _ (54, [some (.ref 128), some (.int l1), some (.int l2), some (.int l3), some (.int x.1), some (.int x.2.1)], [.int 1, .int (((x.2.2.1 130 (Int32.toNatClampNeg l1)) >>> (x.2.1 &&& 31)) &&& 1)], am_T0 x.2.2) rfl rfl ?_
      refine am_Rn.op _ (if (((x.2.2.1 130 (Int32.toNatClampNeg l1)) >>> (x.2.1 &&& 31)) &&& 1) = 1 then 57 else 71, [some (.ref 128), some (.int l1), some (.int l2), some (.int l3), some (.int x.1), some (.int x.2.1)], [], am_T0 x.2.2) rfl rfl ?_
      rcases l2_i h with ⟨hc, h⟩ | ⟨hc, h⟩
      · refine am_Rn.ifT hc ?_
        refine am_Rn.op _ (58, [some (.ref 128), some (.int l1), some (.int l2), some (.int l3), some (.int x.1), some (.int x.2.1)], [.ref 128], am_T0 x.2.2) rfl rfl ?_
        refine am_Rn.op _ (59, [some (.ref 128), some (.int l1), some (.int l2), some (.int l3), some (.int x.1), some (.int x.2.1)], [.int l3, .ref 128], am_T0 x.2.2) rfl rfl ?_
        refine am_Rn.op _ (61, [some (.ref 128), some (.int l1), some (.int l2), some (.int l3), some (.int x.1), some (.int x.2.1)], [.int x.2.1, .int l3, .ref 128], am_T0 x.2.2) rfl rfl ?_
        obtain ⟨q2, hq2, h⟩ := l2_b h
        refine am_Rn.cl _ (some (.int q2.1)) (am_T0 q2.2) rfl rfl (rfX8_isOf (d + 11) N l3 x.2.1 x.2.2 q2 hq2) ?_
        show am_Rn _ _ _ _ (64, [some (.ref 128), some (.int l1), some (.int l2), some (.int l3), some (.int x.1), some (.int x.2.1)], [.int q2.1], am_T0 q2.2)
        refine am_Rn.op _ (if q2.1 = 0 then 71 else 67, [some (.ref 128), some (.int l1), some (.int l2), some (.int l3), some (.int x.1), some (.int x.2.1)], [], am_T0 q2.2) rfl rfl ?_
        rcases l2_i h with ⟨hc, h⟩ | ⟨hc, h⟩
        · refine am_Rn.ifT hc ?_
          exact rfX8_broken_71 d N _ l1 l2 l3 x.2.1 q2.2 _ h hz _
        · refine am_Rn.ifF hc ?_
          exact rfX8_broken_67 d N _ l1 l2 l3 x.2.1 q2.2 _ h hz _
      · refine am_Rn.ifF hc ?_
        exact rfX8_broken_71 d N _ l1 l2 l3 x.2.1 x.2.2 _ h hz _
    · refine am_Rn.ifF hc ?_
      exact rfX8_broken_67 d N _ l1 l2 l3 x.2.1 x.2.2 _ h hz _
theorem rfX8_broken_30 (d N : Nat) (res : Option Value × am_S) (l1 : Int32) (l2 : Int32) (l3 : Int32) (x : Int32 × Int32 × St) (y : Int32 × St) (h : fX8_broken_30 N l1 l2 l3 x = some y) (hq : QfX8_broken_30 (d + 12) res l1 l2 l3 y) : PfX8_broken_30 (d + 12) res l1 l2 l3 x := whl_ind _ _ (fun x z => rbfX8_broken_30 d N res l1 l2 l3 x z) N x y h hq
def bfX8_broken_18 (N : Nat) (l1 : Int32) (x : Int32 × Int32 × St) : Option ((Int32 × Int32 × St) ⊕ ((Int32 × St))) := (if 6 ≤ x.2.1 then some (.inr (x.1, x.2.2)) else (fX8_broken_30 N l1 x.1 x.2.1 (0, 0, x.2.2)).bind (fun y3 => (if y3.1 = 0 then fX8_broken_93 N l1 x.1 x.2.1 y3.2 else fX8_broken_93 N l1 (x.1 &&& ((1 <<< (x.2.1 &&& 31)) ^^^ (-1))) x.2.1 y3.2)))
def fX8_broken_18 (N : Nat) (l1 : Int32) (x : Int32 × Int32 × St) : Option ((Int32 × St)) := whl N (bfX8_broken_18 N l1 ) x
set_option maxRecDepth 20000 in
theorem rbfX8_broken_18 (d N : Nat) (res : Option Value × am_S) (l1 : Int32) (x : Int32 × Int32 × St) (z : (Int32 × Int32 × St) ⊕ ((Int32 × St))) (h : bfX8_broken_18 N l1 x = some z) (hz : Sum.elim (PfX8_broken_18 (d + 12) res l1 ) (QfX8_broken_18 (d + 12) res l1 ) z) : PfX8_broken_18 (d + 12) res l1 x := by
  unfold bfX8_broken_18 at h
  show ∀ (w4 w5 : Option Value), am_Rn (am_C (d + 12)) (am_ct 164) (am_rk 164) res (18, [some (.ref 128), some (.int l1), some (.int x.1), some (.int x.2.1), w4, w5], [], am_T0 x.2.2)
  intro w4 w5
  refine am_Rn.op _ (19, [some (.ref 128), some (.int l1), some (.int x.1), some (.int x.2.1), w4, w5], [.int x.2.1], am_T0 x.2.2) rfl rfl ?_
  refine am_Rn.op _ (21, [some (.ref 128), some (.int l1), some (.int x.1), some (.int x.2.1), w4, w5], [.int 6, .int x.2.1], am_T0 x.2.2) rfl rfl ?_
  refine am_Rn.op _ (if 6 ≤ x.2.1 then 99 else 24, [some (.ref 128), some (.int l1), some (.int x.1), some (.int x.2.1), w4, w5], [], am_T0 x.2.2) rfl rfl ?_
  rcases l2_i h with ⟨hc, h⟩ | ⟨hc, h⟩
  · refine am_Rn.ifT hc ?_
    refine am_Rn.op _ (100, [some (.ref 128), some (.int l1), some (.int x.1), some (.int x.2.1), w4, w5], [.int x.1], am_T0 x.2.2) rfl rfl ?_
    cases h
    exact am_Rn.rt2 _ rfl rfl hz
  · refine am_Rn.ifF hc ?_
    refine am_Rn.op _ (25, [some (.ref 128), some (.int l1), some (.int x.1), some (.int x.2.1), w4, w5], [.int 0], am_T0 x.2.2) rfl rfl ?_
    refine am_Rn.op _ (27, [some (.ref 128), some (.int l1), some (.int x.1), some (.int x.2.1), some (.int 0), w5], [], am_T0 x.2.2) rfl rfl ?_
    refine am_Rn.op _ (28, [some (.ref 128), some (.int l1), some (.int x.1), some (.int x.2.1), some (.int 0), w5], [.int 0], am_T0 x.2.2) rfl rfl ?_
    refine am_Rn.op _ (30, [some (.ref 128), some (.int l1), some (.int x.1), some (.int x.2.1), some (.int 0), some (.int 0)], [], am_T0 x.2.2) rfl rfl ?_
    obtain ⟨y3, hy3, h⟩ := l2_b h
    refine rfX8_broken_30 d N _ l1 x.1 x.2.1 (0, 0, x.2.2) y3 hy3 ?_ 
    intro w4
    show am_Rn _ _ _ _ (80, [some (.ref 128), some (.int l1), some (.int x.1), some (.int x.2.1), some (.int y3.1), w4], [], am_T0 y3.2)
    refine am_Rn.op _ (82, [some (.ref 128), some (.int l1), some (.int x.1), some (.int x.2.1), some (.int y3.1), w4], [.int y3.1], am_T0 y3.2) rfl rfl ?_
    refine am_Rn.op _ (if y3.1 = 0 then 93 else 85, [some (.ref 128), some (.int l1), some (.int x.1), some (.int x.2.1), some (.int y3.1), w4], [], am_T0 y3.2) rfl rfl ?_
    rcases l2_i h with ⟨hc, h⟩ | ⟨hc, h⟩
    · refine am_Rn.ifT hc ?_
      exact rfX8_broken_93 d N _ l1 x.1 x.2.1 y3.2 _ h hz _ _
    · refine am_Rn.ifF hc ?_
      refine am_Rn.op _ (86, [some (.ref 128), some (.int l1), some (.int x.1), some (.int x.2.1), some (.int y3.1), w4], [.int x.1], am_T0 y3.2) rfl rfl ?_
      refine am_Rn.op _ (87, [some (.ref 128), some (.int l1), some (.int x.1), some (.int x.2.1), some (.int y3.1), w4], [.int 1, .int x.1], am_T0 y3.2) rfl rfl ?_
      refine am_Rn.op _ (88, [some (.ref 128), some (.int l1), some (.int x.1), some (.int x.2.1), some (.int y3.1), w4], [.int x.2.1, .int 1, .int x.1], am_T0 y3.2) rfl rfl ?_
      refine am_Rn.op _ (89, [some (.ref 128), some (.int l1), some (.int x.1), some (.int x.2.1), some (.int y3.1), w4], [.int (1 <<< (x.2.1 &&& 31)), .int x.1], am_T0 y3.2) rfl rfl ?_
      refine am_Rn.op _ (90, [some (.ref 128), some (.int l1), some (.int x.1), some (.int x.2.1), some (.int y3.1), w4], [.int (-1), .int (1 <<< (x.2.1 &&& 31)), .int x.1], am_T0 y3.2) rfl rfl ?_
      refine am_Rn.op _ (91, [some (.ref 128), some (.int l1), some (.int x.1), some (.int x.2.1), some (.int y3.1), w4], [.int ((1 <<< (x.2.1 &&& 31)) ^^^ (-1)), .int x.1], am_T0 y3.2) rfl rfl ?_
      refine am_Rn.op _ (92, [some (.ref 128), some (.int l1), some (.int x.1), some (.int x.2.1), some (.int y3.1), w4], [.int (x.1 &&& ((1 <<< (x.2.1 &&& 31)) ^^^ (-1)))], am_T0 y3.2) rfl rfl ?_
      refine am_Rn.op _ (93, [some (.ref 128), some (.int l1), some (.int (x.1 &&& ((1 <<< (x.2.1 &&& 31)) ^^^ (-1)))), some (.int x.2.1), some (.int y3.1), w4], [], am_T0 y3.2) rfl rfl ?_
      exact rfX8_broken_93 d N _ l1 (x.1 &&& ((1 <<< (x.2.1 &&& 31)) ^^^ (-1))) x.2.1 y3.2 _ h hz _ _
theorem rfX8_broken_18 (d N : Nat) (res : Option Value × am_S) (l1 : Int32) (x : Int32 × Int32 × St) (y : (Int32 × St)) (h : fX8_broken_18 N l1 x = some y) (hq : QfX8_broken_18 (d + 12) res l1 y) : PfX8_broken_18 (d + 12) res l1 x := whl_ind _ _ (fun x z => rbfX8_broken_18 d N res l1 x z) N x y h hq
def fX8_broken (N : Nat) (l1 : Int32) (S : St) : Option (Int32 × St) := (fX8_isRoutine N l1 S).bind (fun q5 => (if q5.1 = 0 then some ((-1), q5.2) else (fX8_leaves N l1 0 q5.2).bind (fun q6 => (fX8_broken_18 N l1 (q6.1, 0, q6.2)).bind (fun y7 => some (y7.1, y7.2)))))
set_option maxRecDepth 20000 in
theorem rfX8_broken (d N : Nat) (l1 : Int32) (S : St) (z : (Int32 × St)) (h : fX8_broken N l1 S = some z) : am_C (d + 13) 164 [.ref 128, .int l1] (am_T0 S) (some (.int z.1), am_T0 z.2) := by
  unfold fX8_broken at h
  show am_Rn (am_C (d + 12)) (am_ct 164) (am_rk 164) (some (.int z.1), am_T0 z.2) (0, [some (.ref 128), some (.int l1), none, none, none, none], [], am_T0 S)
  refine am_Rn.op _ (1, [some (.ref 128), some (.int l1), none, none, none, none], [.int l1], am_T0 S) rfl rfl ?_
  obtain ⟨q5, hq5, h⟩ := l2_b h
  refine am_Rn.cl _ (some (.int q5.1)) (am_T0 q5.2) rfl rfl (rfX8_isRoutine (d + 11) N l1 S q5 hq5) ?_
  show am_Rn _ _ _ _ (4, [some (.ref 128), some (.int l1), none, none, none, none], [.int q5.1], am_T0 q5.2)
  refine am_Rn.op _ (if q5.1 = 0 then 7 else 9, [some (.ref 128), some (.int l1), none, none, none, none], [], am_T0 q5.2) rfl rfl ?_
  rcases l2_i h with ⟨hc, h⟩ | ⟨hc, h⟩
  · refine am_Rn.ifT hc ?_
    refine am_Rn.op _ (8, [some (.ref 128), some (.int l1), none, none, none, none], [.int (-1)], am_T0 q5.2) rfl rfl ?_
    cases h
    exact am_Rn.rt _ rfl rfl
  · refine am_Rn.ifF hc ?_
    refine am_Rn.op _ (10, [some (.ref 128), some (.int l1), none, none, none, none], [.ref 128], am_T0 q5.2) rfl rfl ?_
    refine am_Rn.op _ (11, [some (.ref 128), some (.int l1), none, none, none, none], [.int l1, .ref 128], am_T0 q5.2) rfl rfl ?_
    refine am_Rn.op _ (12, [some (.ref 128), some (.int l1), none, none, none, none], [.int 0, .int l1, .ref 128], am_T0 q5.2) rfl rfl ?_
    obtain ⟨q6, hq6, h⟩ := l2_b h
    refine am_Rn.cl _ (some (.int q6.1)) (am_T0 q6.2) rfl rfl (rfX8_leaves (d + 0) N l1 0 q5.2 q6 hq6) ?_
    show am_Rn _ _ _ _ (15, [some (.ref 128), some (.int l1), none, none, none, none], [.int q6.1], am_T0 q6.2)
    refine am_Rn.op _ (16, [some (.ref 128), some (.int l1), some (.int q6.1), none, none, none], [], am_T0 q6.2) rfl rfl ?_
    refine am_Rn.op _ (17, [some (.ref 128), some (.int l1), some (.int q6.1), none, none, none], [.int 0], am_T0 q6.2) rfl rfl ?_
    refine am_Rn.op _ (18, [some (.ref 128), some (.int l1), some (.int q6.1), some (.int 0), none, none], [], am_T0 q6.2) rfl rfl ?_
    obtain ⟨y7, hy7, h⟩ := l2_b h
    refine rfX8_broken_18 d N _ l1 (q6.1, 0, q6.2) y7 hy7 ?_ _ _
    cases h
    exact rfl
-- X8_idle
def PfX8_idle_26 (d : Nat) (res : Option Value × am_S) (l2 : Int32) (x : Int32 × Int32 × St) : Prop := ∀ (w1 w5 w6 : Option Value), am_Rn (am_C d) (am_ct 165) (am_rk 165) res (26, [some (.ref 128), w1, some (.int l2), some (.int x.1), some (.int x.2.1), w5, w6], [], am_T0 x.2.2)
def QfX8_idle_26 (d : Nat) (res : Option Value × am_S) (l2 : Int32) (y : (Int32 × St)) : Prop := res = (some (.int y.1), am_T0 y.2)
def PfX8_idle_39 (d : Nat) (res : Option Value × am_S) (l2 : Int32) (l3 : Int32) (l4 : Int32) (x : Int32 × Int32 × St) : Prop := ∀ (w1 : Option Value), am_Rn (am_C d) (am_ct 165) (am_rk 165) res (39, [some (.ref 128), w1, some (.int l2), some (.int l3), some (.int l4), some (.int x.1), some (.int x.2.1)], [], am_T0 x.2.2)
def QfX8_idle_39 (d : Nat) (res : Option Value × am_S) (l2 : Int32) (l3 : Int32) (l4 : Int32) (y : Int32 × St) : Prop := ∀ (w1 w6 : Option Value), am_Rn (am_C d) (am_ct 165) (am_rk 165) res (85, [some (.ref 128), w1, some (.int l2), some (.int l3), some (.int l4), some (.int y.1), w6], [], am_T0 y.2)
def fX8_idle_99 (N : Nat) (l2 : Int32) (l3 : Int32) (l4 : Int32) (S : St) : Option ((Int32 × Int32 × St) ⊕ ((Int32 × St))) := some (.inl (l3, (l4 + 1), S))
set_option maxRecDepth 20000 in
theorem rfX8_idle_99 (d N : Nat) (res : Option Value × am_S) (l2 : Int32) (l3 : Int32) (l4 : Int32) (S : St) (z : (Int32 × Int32 × St) ⊕ ((Int32 × St))) (h : fX8_idle_99 N l2 l3 l4 S = some z) (hz : Sum.elim (PfX8_idle_26 (d + 12) res l2 ) (QfX8_idle_26 (d + 12) res l2 ) z) (w1 : Option Value) (w5 : Option Value) (w6 : Option Value) : am_Rn (am_C (d + 12)) (am_ct 165) (am_rk 165) res (99, [some (.ref 128), w1, some (.int l2), some (.int l3), some (.int l4), w5, w6], [], am_T0 S) := by
  unfold fX8_idle_99 at h
  refine am_Rn.op _ (102, [some (.ref 128), w1, some (.int l2), some (.int l3), some (.int (l4 + 1)), w5, w6], [], am_T0 S) rfl rfl ?_
  refine am_Rn.op _ (26, [some (.ref 128), w1, some (.int l2), some (.int l3), some (.int (l4 + 1)), w5, w6], [], am_T0 S) rfl rfl ?_
  cases h
  exact hz _ _ _
def fX8_idle_77 (N : Nat) (l2 : Int32) (l3 : Int32) (l4 : Int32) (l6 : Int32) (s0 : Int32) (S : St) : Option ((Int32 × Int32 × St) ⊕ (Int32 × St)) := some (.inl (s0, (l6 + 1), S))
set_option maxRecDepth 20000 in
theorem rfX8_idle_77 (d N : Nat) (res : Option Value × am_S) (l2 : Int32) (l3 : Int32) (l4 : Int32) (l6 : Int32) (s0 : Int32) (S : St) (z : (Int32 × Int32 × St) ⊕ (Int32 × St)) (h : fX8_idle_77 N l2 l3 l4 l6 s0 S = some z) (hz : Sum.elim (PfX8_idle_39 (d + 12) res l2 l3 l4 ) (QfX8_idle_39 (d + 12) res l2 l3 l4 ) z) (w1 : Option Value) (w5 : Option Value) : am_Rn (am_C (d + 12)) (am_ct 165) (am_rk 165) res (77, [some (.ref 128), w1, some (.int l2), some (.int l3), some (.int l4), w5, some (.int l6)], [.int s0], am_T0 S) := by
  unfold fX8_idle_77 at h
  refine am_Rn.op _ (79, [some (.ref 128), w1, some (.int l2), some (.int l3), some (.int l4), some (.int s0), some (.int l6)], [], am_T0 S) rfl rfl ?_
  refine am_Rn.op _ (82, [some (.ref 128), w1, some (.int l2), some (.int l3), some (.int l4), some (.int s0), some (.int (l6 + 1))], [], am_T0 S) rfl rfl ?_
  refine am_Rn.op _ (39, [some (.ref 128), w1, some (.int l2), some (.int l3), some (.int l4), some (.int s0), some (.int (l6 + 1))], [], am_T0 S) rfl rfl ?_
  cases h
  exact hz _
def fX8_idle_76 (N : Nat) (l2 : Int32) (l3 : Int32) (l4 : Int32) (l6 : Int32) (S : St) : Option ((Int32 × Int32 × St) ⊕ (Int32 × St)) := fX8_idle_77 N l2 l3 l4 l6 0 S
set_option maxRecDepth 20000 in
theorem rfX8_idle_76 (d N : Nat) (res : Option Value × am_S) (l2 : Int32) (l3 : Int32) (l4 : Int32) (l6 : Int32) (S : St) (z : (Int32 × Int32 × St) ⊕ (Int32 × St)) (h : fX8_idle_76 N l2 l3 l4 l6 S = some z) (hz : Sum.elim (PfX8_idle_39 (d + 12) res l2 l3 l4 ) (QfX8_idle_39 (d + 12) res l2 l3 l4 ) z) (w1 : Option Value) (w5 : Option Value) : am_Rn (am_C (d + 12)) (am_ct 165) (am_rk 165) res (76, [some (.ref 128), w1, some (.int l2), some (.int l3), some (.int l4), w5, some (.int l6)], [], am_T0 S) := by
  unfold fX8_idle_76 at h
  refine am_Rn.op _ (77, [some (.ref 128), w1, some (.int l2), some (.int l3), some (.int l4), w5, some (.int l6)], [.int 0], am_T0 S) rfl rfl ?_
  exact rfX8_idle_77 d N _ l2 l3 l4 l6 0 S _ h hz _ _
def fX8_idle_72 (N : Nat) (l2 : Int32) (l3 : Int32) (l4 : Int32) (l6 : Int32) (S : St) : Option ((Int32 × Int32 × St) ⊕ (Int32 × St)) := fX8_idle_77 N l2 l3 l4 l6 1 S
set_option maxRecDepth 20000 in
theorem rfX8_idle_72 (d N : Nat) (res : Option Value × am_S) (l2 : Int32) (l3 : Int32) (l4 : Int32) (l6 : Int32) (S : St) (z : (Int32 × Int32 × St) ⊕ (Int32 × St)) (h : fX8_idle_72 N l2 l3 l4 l6 S = some z) (hz : Sum.elim (PfX8_idle_39 (d + 12) res l2 l3 l4 ) (QfX8_idle_39 (d + 12) res l2 l3 l4 ) z) (w1 : Option Value) (w5 : Option Value) : am_Rn (am_C (d + 12)) (am_ct 165) (am_rk 165) res (72, [some (.ref 128), w1, some (.int l2), some (.int l3), some (.int l4), w5, some (.int l6)], [], am_T0 S) := by
  unfold fX8_idle_72 at h
  refine am_Rn.op _ (73, [some (.ref 128), w1, some (.int l2), some (.int l3), some (.int l4), w5, some (.int l6)], [.int 1], am_T0 S) rfl rfl ?_
  refine am_Rn.op _ (77, [some (.ref 128), w1, some (.int l2), some (.int l3), some (.int l4), w5, some (.int l6)], [.int 1], am_T0 S) rfl rfl ?_
  exact rfX8_idle_77 d N _ l2 l3 l4 l6 1 S _ h hz _ _
def bfX8_idle_39 (N : Nat) (l2 : Int32) (l3 : Int32) (l4 : Int32) (x : Int32 × Int32 × St) : Option ((Int32 × Int32 × St) ⊕ (Int32 × St)) := (if 6 ≤ x.2.1 then some (.inr (x.1, x.2.2)) else (if x.1 = 0 then (if ((l2 >>> (x.2.1 &&& 31)) &&& 1) = 1 then (fX8_isOf N x.2.1 l4 x.2.2).bind (fun q1 => (if q1.1 = 0 then fX8_idle_76 N l2 l3 l4 x.2.1 q1.2 else fX8_idle_72 N l2 l3 l4 x.2.1 q1.2)) else fX8_idle_76 N l2 l3 l4 x.2.1 x.2.2) else fX8_idle_72 N l2 l3 l4 x.2.1 x.2.2))
def fX8_idle_39 (N : Nat) (l2 : Int32) (l3 : Int32) (l4 : Int32) (x : Int32 × Int32 × St) : Option (Int32 × St) := whl N (bfX8_idle_39 N l2 l3 l4 ) x
set_option maxRecDepth 20000 in
theorem rbfX8_idle_39 (d N : Nat) (res : Option Value × am_S) (l2 : Int32) (l3 : Int32) (l4 : Int32) (x : Int32 × Int32 × St) (z : (Int32 × Int32 × St) ⊕ (Int32 × St)) (h : bfX8_idle_39 N l2 l3 l4 x = some z) (hz : Sum.elim (PfX8_idle_39 (d + 12) res l2 l3 l4 ) (QfX8_idle_39 (d + 12) res l2 l3 l4 ) z) : PfX8_idle_39 (d + 12) res l2 l3 l4 x := by
  unfold bfX8_idle_39 at h
  show ∀ (w1 : Option Value), am_Rn (am_C (d + 12)) (am_ct 165) (am_rk 165) res (39, [some (.ref 128), w1, some (.int l2), some (.int l3), some (.int l4), some (.int x.1), some (.int x.2.1)], [], am_T0 x.2.2)
  intro w1
  refine am_Rn.op _ (41, [some (.ref 128), w1, some (.int l2), some (.int l3), some (.int l4), some (.int x.1), some (.int x.2.1)], [.int x.2.1], am_T0 x.2.2) rfl rfl ?_
  refine am_Rn.op _ (43, [some (.ref 128), w1, some (.int l2), some (.int l3), some (.int l4), some (.int x.1), some (.int x.2.1)], [.int 6, .int x.2.1], am_T0 x.2.2) rfl rfl ?_
  refine am_Rn.op _ (if 6 ≤ x.2.1 then 85 else 46, [some (.ref 128), w1, some (.int l2), some (.int l3), some (.int l4), some (.int x.1), some (.int x.2.1)], [], am_T0 x.2.2) rfl rfl ?_
  rcases l2_i h with ⟨hc, h⟩ | ⟨hc, h⟩
  · refine am_Rn.ifT hc ?_
    cases h
    exact hz _ _
  · refine am_Rn.ifF hc ?_
    refine am_Rn.op _ (48, [some (.ref 128), w1, some (.int l2), some (.int l3), some (.int l4), some (.int x.1), some (.int x.2.1)], [.int x.1], am_T0 x.2.2) rfl rfl ?_
    refine am_Rn.op _ (if x.1 = 0 then 51 else 72, [some (.ref 128), w1, some (.int l2), some (.int l3), some (.int l4), some (.int x.1), some (.int x.2.1)], [], am_T0 x.2.2) rfl rfl ?_
    rcases l2_i h with ⟨hc, h⟩ | ⟨hc, h⟩
    · refine am_Rn.ifT hc ?_
      refine am_Rn.op _ (52, [some (.ref 128), w1, some (.int l2), some (.int l3), some (.int l4), some (.int x.1), some (.int x.2.1)], [.int l2], am_T0 x.2.2) rfl rfl ?_
      refine am_Rn.op _ (54, [some (.ref 128), w1, some (.int l2), some (.int l3), some (.int l4), some (.int x.1), some (.int x.2.1)], [.int x.2.1, .int l2], am_T0 x.2.2) rfl rfl ?_
      refine am_Rn.op _ (55, [some (.ref 128), w1, some (.int l2), some (.int l3), some (.int l4), some (.int x.1), some (.int x.2.1)], [.int (l2 >>> (x.2.1 &&& 31))], am_T0 x.2.2) rfl rfl ?_
      refine am_Rn.op _ (56, [some (.ref 128), w1, some (.int l2), some (.int l3), some (.int l4), some (.int x.1), some (.int x.2.1)], [.int 1, .int (l2 >>> (x.2.1 &&& 31))], am_T0 x.2.2) rfl rfl ?_
      refine am_Rn.op _ (57, [some (.ref 128), w1, some (.int l2), some (.int l3), some (.int l4), some (.int x.1), some (.int x.2.1)], [.int ((l2 >>> (x.2.1 &&& 31)) &&& 1)], am_T0 x.2.2) rfl rfl ?_
      refine am_Rn.op _ (58, [some (.ref 128), w1, some (.int l2), some (.int l3), some (.int l4), some (.int x.1), some (.int x.2.1)], [.int 1, .int ((l2 >>> (x.2.1 &&& 31)) &&& 1)], am_T0 x.2.2) rfl rfl ?_
      refine am_Rn.op _ (if ((l2 >>> (x.2.1 &&& 31)) &&& 1) = 1 then 61 else 76, [some (.ref 128), w1, some (.int l2), some (.int l3), some (.int l4), some (.int x.1), some (.int x.2.1)], [], am_T0 x.2.2) rfl rfl ?_
      rcases l2_i h with ⟨hc, h⟩ | ⟨hc, h⟩
      · refine am_Rn.ifT hc ?_
        refine am_Rn.op _ (62, [some (.ref 128), w1, some (.int l2), some (.int l3), some (.int l4), some (.int x.1), some (.int x.2.1)], [.ref 128], am_T0 x.2.2) rfl rfl ?_
        refine am_Rn.op _ (64, [some (.ref 128), w1, some (.int l2), some (.int l3), some (.int l4), some (.int x.1), some (.int x.2.1)], [.int x.2.1, .ref 128], am_T0 x.2.2) rfl rfl ?_
        refine am_Rn.op _ (66, [some (.ref 128), w1, some (.int l2), some (.int l3), some (.int l4), some (.int x.1), some (.int x.2.1)], [.int l4, .int x.2.1, .ref 128], am_T0 x.2.2) rfl rfl ?_
        obtain ⟨q1, hq1, h⟩ := l2_b h
        refine am_Rn.cl _ (some (.int q1.1)) (am_T0 q1.2) rfl rfl (rfX8_isOf (d + 11) N x.2.1 l4 x.2.2 q1 hq1) ?_
        show am_Rn _ _ _ _ (69, [some (.ref 128), w1, some (.int l2), some (.int l3), some (.int l4), some (.int x.1), some (.int x.2.1)], [.int q1.1], am_T0 q1.2)
        refine am_Rn.op _ (if q1.1 = 0 then 76 else 72, [some (.ref 128), w1, some (.int l2), some (.int l3), some (.int l4), some (.int x.1), some (.int x.2.1)], [], am_T0 q1.2) rfl rfl ?_
        rcases l2_i h with ⟨hc, h⟩ | ⟨hc, h⟩
        · refine am_Rn.ifT hc ?_
          exact rfX8_idle_76 d N _ l2 l3 l4 x.2.1 q1.2 _ h hz _ _
        · refine am_Rn.ifF hc ?_
          exact rfX8_idle_72 d N _ l2 l3 l4 x.2.1 q1.2 _ h hz _ _
      · refine am_Rn.ifF hc ?_
        exact rfX8_idle_76 d N _ l2 l3 l4 x.2.1 x.2.2 _ h hz _ _
    · refine am_Rn.ifF hc ?_
      exact rfX8_idle_72 d N _ l2 l3 l4 x.2.1 x.2.2 _ h hz _ _
theorem rfX8_idle_39 (d N : Nat) (res : Option Value × am_S) (l2 : Int32) (l3 : Int32) (l4 : Int32) (x : Int32 × Int32 × St) (y : Int32 × St) (h : fX8_idle_39 N l2 l3 l4 x = some y) (hq : QfX8_idle_39 (d + 12) res l2 l3 l4 y) : PfX8_idle_39 (d + 12) res l2 l3 l4 x := whl_ind _ _ (fun x z => rbfX8_idle_39 d N res l2 l3 l4 x z) N x y h hq
def bfX8_idle_26 (N : Nat) (l2 : Int32) (x : Int32 × Int32 × St) : Option ((Int32 × Int32 × St) ⊕ ((Int32 × St))) := (if 6 ≤ x.2.1 then some (.inr (x.1, x.2.2)) else (fX8_idle_39 N l2 x.1 x.2.1 (0, 0, x.2.2)).bind (fun y2 => (if y2.1 = 0 then fX8_idle_99 N l2 x.1 x.2.1 y2.2 else fX8_idle_99 N l2 (x.1 &&& ((1 <<< (x.2.1 &&& 31)) ^^^ (-1))) x.2.1 y2.2)))
def fX8_idle_26 (N : Nat) (l2 : Int32) (x : Int32 × Int32 × St) : Option ((Int32 × St)) := whl N (bfX8_idle_26 N l2 ) x
set_option maxRecDepth 20000 in
theorem rbfX8_idle_26 (d N : Nat) (res : Option Value × am_S) (l2 : Int32) (x : Int32 × Int32 × St) (z : (Int32 × Int32 × St) ⊕ ((Int32 × St))) (h : bfX8_idle_26 N l2 x = some z) (hz : Sum.elim (PfX8_idle_26 (d + 12) res l2 ) (QfX8_idle_26 (d + 12) res l2 ) z) : PfX8_idle_26 (d + 12) res l2 x := by
  unfold bfX8_idle_26 at h
  show ∀ (w1 w5 w6 : Option Value), am_Rn (am_C (d + 12)) (am_ct 165) (am_rk 165) res (26, [some (.ref 128), w1, some (.int l2), some (.int x.1), some (.int x.2.1), w5, w6], [], am_T0 x.2.2)
  intro w1 w5 w6
  refine am_Rn.op _ (28, [some (.ref 128), w1, some (.int l2), some (.int x.1), some (.int x.2.1), w5, w6], [.int x.2.1], am_T0 x.2.2) rfl rfl ?_
  refine am_Rn.op _ (30, [some (.ref 128), w1, some (.int l2), some (.int x.1), some (.int x.2.1), w5, w6], [.int 6, .int x.2.1], am_T0 x.2.2) rfl rfl ?_
  refine am_Rn.op _ (if 6 ≤ x.2.1 then 105 else 33, [some (.ref 128), w1, some (.int l2), some (.int x.1), some (.int x.2.1), w5, w6], [], am_T0 x.2.2) rfl rfl ?_
  rcases l2_i h with ⟨hc, h⟩ | ⟨hc, h⟩
  · refine am_Rn.ifT hc ?_
    refine am_Rn.op _ (106, [some (.ref 128), w1, some (.int l2), some (.int x.1), some (.int x.2.1), w5, w6], [.int x.1], am_T0 x.2.2) rfl rfl ?_
    cases h
    exact am_Rn.rt2 _ rfl rfl hz
  · refine am_Rn.ifF hc ?_
    refine am_Rn.op _ (34, [some (.ref 128), w1, some (.int l2), some (.int x.1), some (.int x.2.1), w5, w6], [.int 0], am_T0 x.2.2) rfl rfl ?_
    refine am_Rn.op _ (36, [some (.ref 128), w1, some (.int l2), some (.int x.1), some (.int x.2.1), some (.int 0), w6], [], am_T0 x.2.2) rfl rfl ?_
    refine am_Rn.op _ (37, [some (.ref 128), w1, some (.int l2), some (.int x.1), some (.int x.2.1), some (.int 0), w6], [.int 0], am_T0 x.2.2) rfl rfl ?_
    refine am_Rn.op _ (39, [some (.ref 128), w1, some (.int l2), some (.int x.1), some (.int x.2.1), some (.int 0), some (.int 0)], [], am_T0 x.2.2) rfl rfl ?_
    obtain ⟨y2, hy2, h⟩ := l2_b h
    refine rfX8_idle_39 d N _ l2 x.1 x.2.1 (0, 0, x.2.2) y2 hy2 ?_ _
    intro w3 w4
    show am_Rn _ _ _ _ (85, [some (.ref 128), w3, some (.int l2), some (.int x.1), some (.int x.2.1), some (.int y2.1), w4], [], am_T0 y2.2)
    refine am_Rn.op _ (87, [some (.ref 128), w3, some (.int l2), some (.int x.1), some (.int x.2.1), some (.int y2.1), w4], [.int y2.1], am_T0 y2.2) rfl rfl ?_
    refine am_Rn.op _ (if y2.1 = 0 then 99 else 90, [some (.ref 128), w3, some (.int l2), some (.int x.1), some (.int x.2.1), some (.int y2.1), w4], [], am_T0 y2.2) rfl rfl ?_
    rcases l2_i h with ⟨hc, h⟩ | ⟨hc, h⟩
    · refine am_Rn.ifT hc ?_
      exact rfX8_idle_99 d N _ l2 x.1 x.2.1 y2.2 _ h hz _ _ _
    · refine am_Rn.ifF hc ?_
      refine am_Rn.op _ (91, [some (.ref 128), w3, some (.int l2), some (.int x.1), some (.int x.2.1), some (.int y2.1), w4], [.int x.1], am_T0 y2.2) rfl rfl ?_
      refine am_Rn.op _ (92, [some (.ref 128), w3, some (.int l2), some (.int x.1), some (.int x.2.1), some (.int y2.1), w4], [.int 1, .int x.1], am_T0 y2.2) rfl rfl ?_
      refine am_Rn.op _ (94, [some (.ref 128), w3, some (.int l2), some (.int x.1), some (.int x.2.1), some (.int y2.1), w4], [.int x.2.1, .int 1, .int x.1], am_T0 y2.2) rfl rfl ?_
      refine am_Rn.op _ (95, [some (.ref 128), w3, some (.int l2), some (.int x.1), some (.int x.2.1), some (.int y2.1), w4], [.int (1 <<< (x.2.1 &&& 31)), .int x.1], am_T0 y2.2) rfl rfl ?_
      refine am_Rn.op _ (96, [some (.ref 128), w3, some (.int l2), some (.int x.1), some (.int x.2.1), some (.int y2.1), w4], [.int (-1), .int (1 <<< (x.2.1 &&& 31)), .int x.1], am_T0 y2.2) rfl rfl ?_
      refine am_Rn.op _ (97, [some (.ref 128), w3, some (.int l2), some (.int x.1), some (.int x.2.1), some (.int y2.1), w4], [.int ((1 <<< (x.2.1 &&& 31)) ^^^ (-1)), .int x.1], am_T0 y2.2) rfl rfl ?_
      refine am_Rn.op _ (98, [some (.ref 128), w3, some (.int l2), some (.int x.1), some (.int x.2.1), some (.int y2.1), w4], [.int (x.1 &&& ((1 <<< (x.2.1 &&& 31)) ^^^ (-1)))], am_T0 y2.2) rfl rfl ?_
      refine am_Rn.op _ (99, [some (.ref 128), w3, some (.int l2), some (.int (x.1 &&& ((1 <<< (x.2.1 &&& 31)) ^^^ (-1)))), some (.int x.2.1), some (.int y2.1), w4], [], am_T0 y2.2) rfl rfl ?_
      exact rfX8_idle_99 d N _ l2 (x.1 &&& ((1 <<< (x.2.1 &&& 31)) ^^^ (-1))) x.2.1 y2.2 _ h hz _ _ _
theorem rfX8_idle_26 (d N : Nat) (res : Option Value × am_S) (l2 : Int32) (x : Int32 × Int32 × St) (y : (Int32 × St)) (h : fX8_idle_26 N l2 x = some y) (hq : QfX8_idle_26 (d + 12) res l2 y) : PfX8_idle_26 (d + 12) res l2 x := whl_ind _ _ (fun x z => rbfX8_idle_26 d N res l2 x z) N x y h hq
def fX8_idle (N : Nat) (l1 : Int32) (S : St) : Option (Int32 × St) := (fX8_isRoutine N l1 S).bind (fun q5 => (if q5.1 = 0 then some ((-1), q5.2) else (fX8_leaves N l1 0 q5.2).bind (fun q6 => (if l1 < 0 ∨ 8 ≤ Int32.toNatClampNeg l1 then none else (fX8_idle_26 N q6.1 ((q6.2.1 130 (Int32.toNatClampNeg l1)), 0, q6.2)).bind (fun y8 => some (y8.1, y8.2))))))
set_option maxRecDepth 20000 in
theorem rfX8_idle (d N : Nat) (l1 : Int32) (S : St) (z : (Int32 × St)) (h : fX8_idle N l1 S = some z) : am_C (d + 13) 165 [.ref 128, .int l1] (am_T0 S) (some (.int z.1), am_T0 z.2) := by
  unfold fX8_idle at h
  show am_Rn (am_C (d + 12)) (am_ct 165) (am_rk 165) (some (.int z.1), am_T0 z.2) (0, [some (.ref 128), some (.int l1), none, none, none, none, none], [], am_T0 S)
  refine am_Rn.op _ (1, [some (.ref 128), some (.int l1), none, none, none, none, none], [.int l1], am_T0 S) rfl rfl ?_
  obtain ⟨q5, hq5, h⟩ := l2_b h
  refine am_Rn.cl _ (some (.int q5.1)) (am_T0 q5.2) rfl rfl (rfX8_isRoutine (d + 11) N l1 S q5 hq5) ?_
  show am_Rn _ _ _ _ (4, [some (.ref 128), some (.int l1), none, none, none, none, none], [.int q5.1], am_T0 q5.2)
  refine am_Rn.op _ (if q5.1 = 0 then 7 else 9, [some (.ref 128), some (.int l1), none, none, none, none, none], [], am_T0 q5.2) rfl rfl ?_
  rcases l2_i h with ⟨hc, h⟩ | ⟨hc, h⟩
  · refine am_Rn.ifT hc ?_
    refine am_Rn.op _ (8, [some (.ref 128), some (.int l1), none, none, none, none, none], [.int (-1)], am_T0 q5.2) rfl rfl ?_
    cases h
    exact am_Rn.rt _ rfl rfl
  · refine am_Rn.ifF hc ?_
    refine am_Rn.op _ (10, [some (.ref 128), some (.int l1), none, none, none, none, none], [.ref 128], am_T0 q5.2) rfl rfl ?_
    refine am_Rn.op _ (11, [some (.ref 128), some (.int l1), none, none, none, none, none], [.int l1, .ref 128], am_T0 q5.2) rfl rfl ?_
    refine am_Rn.op _ (12, [some (.ref 128), some (.int l1), none, none, none, none, none], [.int 0, .int l1, .ref 128], am_T0 q5.2) rfl rfl ?_
    obtain ⟨q6, hq6, h⟩ := l2_b h
    refine am_Rn.cl _ (some (.int q6.1)) (am_T0 q6.2) rfl rfl (rfX8_leaves (d + 0) N l1 0 q5.2 q6 hq6) ?_
    show am_Rn _ _ _ _ (15, [some (.ref 128), some (.int l1), none, none, none, none, none], [.int q6.1], am_T0 q6.2)
    refine am_Rn.op _ (16, [some (.ref 128), some (.int l1), some (.int q6.1), none, none, none, none], [], am_T0 q6.2) rfl rfl ?_
    refine am_Rn.op _ (17, [some (.ref 128), some (.int l1), some (.int q6.1), none, none, none, none], [.ref 128], am_T0 q6.2) rfl rfl ?_
    refine am_Rn.op _ (20, [some (.ref 128), some (.int l1), some (.int q6.1), none, none, none, none], [.ref 130], am_T0 q6.2) rfl rfl ?_
    refine am_Rn.op _ (21, [some (.ref 128), some (.int l1), some (.int q6.1), none, none, none, none], [.int l1, .ref 130], am_T0 q6.2) rfl rfl ?_
    obtain ⟨hb7, h⟩ := l2_n h
    refine am_Rn.iald (n := 8) rfl rfl hb7 ?_
    show am_Rn _ _ _ _ (22, [some (.ref 128), some (.int l1), some (.int q6.1), none, none, none, none], [.int (q6.2.1 130 (Int32.toNatClampNeg l1))], am_T0 q6.2)
    refine am_Rn.op _ (23, [some (.ref 128), some (.int l1), some (.int q6.1), some (.int (q6.2.1 130 (Int32.toNatClampNeg l1))), none, none, none], [], am_T0 q6.2) rfl rfl ?_
    refine am_Rn.op _ (24, [some (.ref 128), some (.int l1), some (.int q6.1), some (.int (q6.2.1 130 (Int32.toNatClampNeg l1))), none, none, none], [.int 0], am_T0 q6.2) rfl rfl ?_
    refine am_Rn.op _ (26, [some (.ref 128), some (.int l1), some (.int q6.1), some (.int (q6.2.1 130 (Int32.toNatClampNeg l1))), some (.int 0), none, none], [], am_T0 q6.2) rfl rfl ?_
    obtain ⟨y8, hy8, h⟩ := l2_b h
    refine rfX8_idle_26 d N _ q6.1 ((q6.2.1 130 (Int32.toNatClampNeg l1)), 0, q6.2) y8 hy8 ?_ _ _ _
    cases h
    exact rfl
-- X8_callsOf
def PfX8_callsOf_4 (d : Nat) (res : Option Value × am_S) (l1 : Int32) (x : Int32 × Int32 × St) : Prop := am_Rn (am_C d) (am_ct 166) (am_rk 166) res (4, [some (.ref 128), some (.int l1), some (.int x.1), some (.int x.2.1)], [], am_T0 x.2.2)
def QfX8_callsOf_4 (d : Nat) (res : Option Value × am_S) (l1 : Int32) (y : (Int32 × St)) : Prop := res = (some (.int y.1), am_T0 y.2)
def fX8_callsOf_43 (N : Nat) (l1 : Int32) (l2 : Int32) (l3 : Int32) (S : St) : Option ((Int32 × Int32 × St) ⊕ ((Int32 × St))) := some (.inl (l2, (l3 + 1), S))
set_option maxRecDepth 20000 in
theorem rfX8_callsOf_43 (d N : Nat) (res : Option Value × am_S) (l1 : Int32) (l2 : Int32) (l3 : Int32) (S : St) (z : (Int32 × Int32 × St) ⊕ ((Int32 × St))) (h : fX8_callsOf_43 N l1 l2 l3 S = some z) (hz : Sum.elim (PfX8_callsOf_4 (d + 1) res l1 ) (QfX8_callsOf_4 (d + 1) res l1 ) z) : am_Rn (am_C (d + 1)) (am_ct 166) (am_rk 166) res (43, [some (.ref 128), some (.int l1), some (.int l2), some (.int l3)], [], am_T0 S) := by
  unfold fX8_callsOf_43 at h
  refine am_Rn.op _ (46, [some (.ref 128), some (.int l1), some (.int l2), some (.int (l3 + 1))], [], am_T0 S) rfl rfl ?_
  refine am_Rn.op _ (4, [some (.ref 128), some (.int l1), some (.int l2), some (.int (l3 + 1))], [], am_T0 S) rfl rfl ?_
  cases h
  exact hz 
def bfX8_callsOf_4 (N : Nat) (l1 : Int32) (x : Int32 × Int32 × St) : Option ((Int32 × Int32 × St) ⊕ ((Int32 × St))) := (if l1 < 0 ∨ 8 ≤ Int32.toNatClampNeg l1 then none else (if (x.2.2.1 133 (Int32.toNatClampNeg l1)) ≤ (x.2.1 + 1) then some (.inr (x.1, x.2.2)) else (fX8_signOf N l1 x.2.1 x.2.2).bind (fun q2 => (if q2.1 = 64 then (fX8_signOf N l1 (x.2.1 + 1) q2.2).bind (fun q3 => fX8_callsOf_43 N l1 (x.1 ||| (1 <<< ((q3.1 - 97) &&& 31))) x.2.1 q3.2) else fX8_callsOf_43 N l1 x.1 x.2.1 q2.2))))
def fX8_callsOf_4 (N : Nat) (l1 : Int32) (x : Int32 × Int32 × St) : Option ((Int32 × St)) := whl N (bfX8_callsOf_4 N l1 ) x
set_option maxRecDepth 20000 in
theorem rbfX8_callsOf_4 (d N : Nat) (res : Option Value × am_S) (l1 : Int32) (x : Int32 × Int32 × St) (z : (Int32 × Int32 × St) ⊕ ((Int32 × St))) (h : bfX8_callsOf_4 N l1 x = some z) (hz : Sum.elim (PfX8_callsOf_4 (d + 1) res l1 ) (QfX8_callsOf_4 (d + 1) res l1 ) z) : PfX8_callsOf_4 (d + 1) res l1 x := by
  unfold bfX8_callsOf_4 at h
  show am_Rn (am_C (d + 1)) (am_ct 166) (am_rk 166) res (4, [some (.ref 128), some (.int l1), some (.int x.1), some (.int x.2.1)], [], am_T0 x.2.2)
  refine am_Rn.op _ (5, [some (.ref 128), some (.int l1), some (.int x.1), some (.int x.2.1)], [.int x.2.1], am_T0 x.2.2) rfl rfl ?_
  refine am_Rn.op _ (6, [some (.ref 128), some (.int l1), some (.int x.1), some (.int x.2.1)], [.int 1, .int x.2.1], am_T0 x.2.2) rfl rfl ?_
  refine am_Rn.op _ (7, [some (.ref 128), some (.int l1), some (.int x.1), some (.int x.2.1)], [.int (x.2.1 + 1)], am_T0 x.2.2) rfl rfl ?_
  refine am_Rn.op _ (8, [some (.ref 128), some (.int l1), some (.int x.1), some (.int x.2.1)], [.ref 128, .int (x.2.1 + 1)], am_T0 x.2.2) rfl rfl ?_
  refine am_Rn.op _ (11, [some (.ref 128), some (.int l1), some (.int x.1), some (.int x.2.1)], [.ref 133, .int (x.2.1 + 1)], am_T0 x.2.2) rfl rfl ?_
  refine am_Rn.op _ (12, [some (.ref 128), some (.int l1), some (.int x.1), some (.int x.2.1)], [.int l1, .ref 133, .int (x.2.1 + 1)], am_T0 x.2.2) rfl rfl ?_
  obtain ⟨hb1, h⟩ := l2_n h
  refine am_Rn.iald (n := 8) rfl rfl hb1 ?_
  show am_Rn _ _ _ _ (13, [some (.ref 128), some (.int l1), some (.int x.1), some (.int x.2.1)], [.int (x.2.2.1 133 (Int32.toNatClampNeg l1)), .int (x.2.1 + 1)], am_T0 x.2.2)
  refine am_Rn.op _ (if (x.2.2.1 133 (Int32.toNatClampNeg l1)) ≤ (x.2.1 + 1) then 49 else 16, [some (.ref 128), some (.int l1), some (.int x.1), some (.int x.2.1)], [], am_T0 x.2.2) rfl rfl ?_
  rcases l2_i h with ⟨hc, h⟩ | ⟨hc, h⟩
  · refine am_Rn.ifT hc ?_
    refine am_Rn.op _ (50, [some (.ref 128), some (.int l1), some (.int x.1), some (.int x.2.1)], [.int x.1], am_T0 x.2.2) rfl rfl ?_
    cases h
    exact am_Rn.rt2 _ rfl rfl hz
  · refine am_Rn.ifF hc ?_
    refine am_Rn.op _ (17, [some (.ref 128), some (.int l1), some (.int x.1), some (.int x.2.1)], [.ref 128], am_T0 x.2.2) rfl rfl ?_
    refine am_Rn.op _ (18, [some (.ref 128), some (.int l1), some (.int x.1), some (.int x.2.1)], [.int l1, .ref 128], am_T0 x.2.2) rfl rfl ?_
    refine am_Rn.op _ (19, [some (.ref 128), some (.int l1), some (.int x.1), some (.int x.2.1)], [.int x.2.1, .int l1, .ref 128], am_T0 x.2.2) rfl rfl ?_
    obtain ⟨q2, hq2, h⟩ := l2_b h
    refine am_Rn.cl _ (some (.int q2.1)) (am_T0 q2.2) rfl rfl (rfX8_signOf (d + 0) N l1 x.2.1 x.2.2 q2 hq2) ?_
    show am_Rn _ _ _ _ (22, [some (.ref 128), some (.int l1), some (.int x.1), some (.int x.2.1)], [.int q2.1], am_T0 q2.2)
    refine am_Rn.op _ (24, [some (.ref 128), some (.int l1), some (.int x.1), some (.int x.2.1)], [.int 64, .int q2.1], am_T0 q2.2) rfl rfl ?_
    refine am_Rn.op _ (if q2.1 = 64 then 27 else 43, [some (.ref 128), some (.int l1), some (.int x.1), some (.int x.2.1)], [], am_T0 q2.2) rfl rfl ?_
    rcases l2_i h with ⟨hc, h⟩ | ⟨hc, h⟩
    · refine am_Rn.ifT hc ?_
      refine am_Rn.op _ (28, [some (.ref 128), some (.int l1), some (.int x.1), some (.int x.2.1)], [.int x.1], am_T0 q2.2) rfl rfl ?_
      refine am_Rn.op _ (29, [some (.ref 128), some (.int l1), some (.int x.1), some (.int x.2.1)], [.int 1, .int x.1], am_T0 q2.2) rfl rfl ?_
      refine am_Rn.op _ (30, [some (.ref 128), some (.int l1), some (.int x.1), some (.int x.2.1)], [.ref 128, .int 1, .int x.1], am_T0 q2.2) rfl rfl ?_
      refine am_Rn.op _ (31, [some (.ref 128), some (.int l1), some (.int x.1), some (.int x.2.1)], [.int l1, .ref 128, .int 1, .int x.1], am_T0 q2.2) rfl rfl ?_
      refine am_Rn.op _ (32, [some (.ref 128), some (.int l1), some (.int x.1), some (.int x.2.1)], [.int x.2.1, .int l1, .ref 128, .int 1, .int x.1], am_T0 q2.2) rfl rfl ?_
      refine am_Rn.op _ (33, [some (.ref 128), some (.int l1), some (.int x.1), some (.int x.2.1)], [.int 1, .int x.2.1, .int l1, .ref 128, .int 1, .int x.1], am_T0 q2.2) rfl rfl ?_
      refine am_Rn.op _ (34, [some (.ref 128), some (.int l1), some (.int x.1), some (.int x.2.1)], [.int (x.2.1 + 1), .int l1, .ref 128, .int 1, .int x.1], am_T0 q2.2) rfl rfl ?_
      obtain ⟨q3, hq3, h⟩ := l2_b h
      refine am_Rn.cl _ (some (.int q3.1)) (am_T0 q3.2) rfl rfl (rfX8_signOf (d + 0) N l1 (x.2.1 + 1) q2.2 q3 hq3) ?_
      show am_Rn _ _ _ _ (37, [some (.ref 128), some (.int l1), some (.int x.1), some (.int x.2.1)], [.int q3.1, .int 1, .int x.1], am_T0 q3.2)
      refine am_Rn.op _ (39, [some (.ref 128), some (.int l1), some (.int x.1), some (.int x.2.1)], [.int 97, .int q3.1, .int 1, .int x.1], am_T0 q3.2) rfl rfl ?_
      refine am_Rn.op _ (40, [some (.ref 128), some (.int l1), some (.int x.1), some (.int x.2.1)], [.int (q3.1 - 97), .int 1, .int x.1], am_T0 q3.2) rfl rfl ?_
      refine am_Rn.op _ (41, [some (.ref 128), some (.int l1), some (.int x.1), some (.int x.2.1)], [.int (1 <<< ((q3.1 - 97) &&& 31)), .int x.1], am_T0 q3.2) rfl rfl ?_
      refine am_Rn.op _ (42, [some (.ref 128), some (.int l1), some (.int x.1), some (.int x.2.1)], [.int (x.1 ||| (1 <<< ((q3.1 - 97) &&& 31)))], am_T0 q3.2) rfl rfl ?_
      refine am_Rn.op _ (43, [some (.ref 128), some (.int l1), some (.int (x.1 ||| (1 <<< ((q3.1 - 97) &&& 31)))), some (.int x.2.1)], [], am_T0 q3.2) rfl rfl ?_
      exact rfX8_callsOf_43 d N _ l1 (x.1 ||| (1 <<< ((q3.1 - 97) &&& 31))) x.2.1 q3.2 _ h hz 
    · refine am_Rn.ifF hc ?_
      exact rfX8_callsOf_43 d N _ l1 x.1 x.2.1 q2.2 _ h hz 
theorem rfX8_callsOf_4 (d N : Nat) (res : Option Value × am_S) (l1 : Int32) (x : Int32 × Int32 × St) (y : (Int32 × St)) (h : fX8_callsOf_4 N l1 x = some y) (hq : QfX8_callsOf_4 (d + 1) res l1 y) : PfX8_callsOf_4 (d + 1) res l1 x := whl_ind _ _ (fun x z => rbfX8_callsOf_4 d N res l1 x z) N x y h hq
def fX8_callsOf (N : Nat) (l1 : Int32) (S : St) : Option (Int32 × St) := (fX8_callsOf_4 N l1 (0, 0, S)).bind (fun y4 => some (y4.1, y4.2))
set_option maxRecDepth 20000 in
theorem rfX8_callsOf (d N : Nat) (l1 : Int32) (S : St) (z : (Int32 × St)) (h : fX8_callsOf N l1 S = some z) : am_C (d + 2) 166 [.ref 128, .int l1] (am_T0 S) (some (.int z.1), am_T0 z.2) := by
  unfold fX8_callsOf at h
  show am_Rn (am_C (d + 1)) (am_ct 166) (am_rk 166) (some (.int z.1), am_T0 z.2) (0, [some (.ref 128), some (.int l1), none, none], [], am_T0 S)
  refine am_Rn.op _ (1, [some (.ref 128), some (.int l1), none, none], [.int 0], am_T0 S) rfl rfl ?_
  refine am_Rn.op _ (2, [some (.ref 128), some (.int l1), some (.int 0), none], [], am_T0 S) rfl rfl ?_
  refine am_Rn.op _ (3, [some (.ref 128), some (.int l1), some (.int 0), none], [.int 0], am_T0 S) rfl rfl ?_
  refine am_Rn.op _ (4, [some (.ref 128), some (.int l1), some (.int 0), some (.int 0)], [], am_T0 S) rfl rfl ?_
  obtain ⟨y4, hy4, h⟩ := l2_b h
  refine rfX8_callsOf_4 d N _ l1 (0, 0, S) y4 hy4 ?_ 
  cases h
  exact rfl
-- X8_look
def PfX8_look_62 (d : Nat) (res : Option Value × am_S) (x : Int32 × Int32 × St) : Prop := ∀ (w1 w2 w5 : Option Value), am_Rn (am_C d) (am_ct 167) (am_rk 167) res (62, [some (.ref 128), w1, w2, some (.int x.1), some (.int x.2.1), w5], [], am_T0 x.2.2)
def QfX8_look_62 (d : Nat) (res : Option Value × am_S) (y : (Int32 × St)) : Prop := res = (some (.int y.1), am_T0 y.2)
def PfX8_look_72 (d : Nat) (res : Option Value × am_S) (l4 : Int32) (x : Int32 × Int32 × St) : Prop := ∀ (w1 w2 : Option Value), am_Rn (am_C d) (am_ct 167) (am_rk 167) res (72, [some (.ref 128), w1, w2, some (.int x.1), some (.int l4), some (.int x.2.1)], [], am_T0 x.2.2)
def QfX8_look_72 (d : Nat) (res : Option Value × am_S) (l4 : Int32) (y : Int32 × St) : Prop := ∀ (w1 w2 w5 : Option Value), am_Rn (am_C d) (am_ct 167) (am_rk 167) res (104, [some (.ref 128), w1, w2, some (.int y.1), some (.int l4), w5], [], am_T0 y.2)
def fX8_look_156 (N : Nat) (s0 : Int32) (S : St) : Option (Int32 × St) := some (s0, S)
set_option maxRecDepth 20000 in
theorem rfX8_look_156 (d N : Nat) (s0 : Int32) (S : St) (z : (Int32 × St)) (h : fX8_look_156 N s0 S = some z) (w0 : Option Value) (w1 : Option Value) (w2 : Option Value) (w3 : Option Value) (w4 : Option Value) (w5 : Option Value) : am_Rn (am_C (d + 2)) (am_ct 167) (am_rk 167) (some (.int z.1), am_T0 z.2) (156, [w0, w1, w2, w3, w4, w5], [.int s0], am_T0 S) := by
  unfold fX8_look_156 at h
  cases h
  exact am_Rn.rt _ rfl rfl
def fX8_look_98 (N : Nat) (l3 : Int32) (l4 : Int32) (l5 : Int32) (S : St) : Option ((Int32 × Int32 × St) ⊕ (Int32 × St)) := some (.inl (l3, (l5 + 1), S))
set_option maxRecDepth 20000 in
theorem rfX8_look_98 (d N : Nat) (res : Option Value × am_S) (l3 : Int32) (l4 : Int32) (l5 : Int32) (S : St) (z : (Int32 × Int32 × St) ⊕ (Int32 × St)) (h : fX8_look_98 N l3 l4 l5 S = some z) (hz : Sum.elim (PfX8_look_72 (d + 2) res l4 ) (QfX8_look_72 (d + 2) res l4 ) z) (w1 : Option Value) (w2 : Option Value) : am_Rn (am_C (d + 2)) (am_ct 167) (am_rk 167) res (98, [some (.ref 128), w1, w2, some (.int l3), some (.int l4), some (.int l5)], [], am_T0 S) := by
  unfold fX8_look_98 at h
  refine am_Rn.op _ (101, [some (.ref 128), w1, w2, some (.int l3), some (.int l4), some (.int (l5 + 1))], [], am_T0 S) rfl rfl ?_
  refine am_Rn.op _ (72, [some (.ref 128), w1, w2, some (.int l3), some (.int l4), some (.int (l5 + 1))], [], am_T0 S) rfl rfl ?_
  cases h
  exact hz _ _
def bfX8_look_72 (N : Nat) (l4 : Int32) (x : Int32 × Int32 × St) : Option ((Int32 × Int32 × St) ⊕ (Int32 × St)) := (if 8 ≤ x.2.1 then some (.inr (x.1, x.2.2)) else (if ((x.1 >>> (x.2.1 &&& 31)) &&& 1) = 1 then (fX8_callsOf N x.2.1 x.2.2).bind (fun q1 => fX8_look_98 N (x.1 ||| q1.1) l4 x.2.1 q1.2) else fX8_look_98 N x.1 l4 x.2.1 x.2.2))
def fX8_look_72 (N : Nat) (l4 : Int32) (x : Int32 × Int32 × St) : Option (Int32 × St) := whl N (bfX8_look_72 N l4 ) x
set_option maxRecDepth 20000 in
theorem rbfX8_look_72 (d N : Nat) (res : Option Value × am_S) (l4 : Int32) (x : Int32 × Int32 × St) (z : (Int32 × Int32 × St) ⊕ (Int32 × St)) (h : bfX8_look_72 N l4 x = some z) (hz : Sum.elim (PfX8_look_72 (d + 2) res l4 ) (QfX8_look_72 (d + 2) res l4 ) z) : PfX8_look_72 (d + 2) res l4 x := by
  unfold bfX8_look_72 at h
  show ∀ (w1 w2 : Option Value), am_Rn (am_C (d + 2)) (am_ct 167) (am_rk 167) res (72, [some (.ref 128), w1, w2, some (.int x.1), some (.int l4), some (.int x.2.1)], [], am_T0 x.2.2)
  intro w1 w2
  refine am_Rn.op _ (74, [some (.ref 128), w1, w2, some (.int x.1), some (.int l4), some (.int x.2.1)], [.int x.2.1], am_T0 x.2.2) rfl rfl ?_
  refine am_Rn.op _ (76, [some (.ref 128), w1, w2, some (.int x.1), some (.int l4), some (.int x.2.1)], [.int 8, .int x.2.1], am_T0 x.2.2) rfl rfl ?_
  refine am_Rn.op _ (if 8 ≤ x.2.1 then 104 else 79, [some (.ref 128), w1, w2, some (.int x.1), some (.int l4), some (.int x.2.1)], [], am_T0 x.2.2) rfl rfl ?_
  rcases l2_i h with ⟨hc, h⟩ | ⟨hc, h⟩
  · refine am_Rn.ifT hc ?_
    cases h
    exact hz _ _ _
  · refine am_Rn.ifF hc ?_
    refine am_Rn.op _ (80, [some (.ref 128), w1, w2, some (.int x.1), some (.int l4), some (.int x.2.1)], [.int x.1], am_T0 x.2.2) rfl rfl ?_
    refine am_Rn.op _ (82, [some (.ref 128), w1, w2, some (.int x.1), some (.int l4), some (.int x.2.1)], [.int x.2.1, .int x.1], am_T0 x.2.2) rfl rfl ?_
    refine am_Rn.op _ (83, [some (.ref 128), w1, w2, some (.int x.1), some (.int l4), some (.int x.2.1)], [.int (x.1 >>> (x.2.1 &&& 31))], am_T0 x.2.2) rfl rfl ?_
    refine am_Rn.op _ (84, [some (.ref 128), w1, w2, some (.int x.1), some (.int l4), some (.int x.2.1)], [.int 1, .int (x.1 >>> (x.2.1 &&& 31))], am_T0 x.2.2) rfl rfl ?_
    refine am_Rn.op _ (85, [some (.ref 128), w1, w2, some (.int x.1), some (.int l4), some (.int x.2.1)], [.int ((x.1 >>> (x.2.1 &&& 31)) &&& 1)], am_T0 x.2.2) rfl rfl ?_
    refine am_Rn.op _ (86, [some (.ref 128), w1, w2, some (.int x.1), some (.int l4), some (.int x.2.1)], [.int 1, .int ((x.1 >>> (x.2.1 &&& 31)) &&& 1)], am_T0 x.2.2) rfl rfl ?_
    refine am_Rn.op _ (if ((x.1 >>> (x.2.1 &&& 31)) &&& 1) = 1 then 89 else 98, [some (.ref 128), w1, w2, some (.int x.1), some (.int l4), some (.int x.2.1)], [], am_T0 x.2.2) rfl rfl ?_
    rcases l2_i h with ⟨hc, h⟩ | ⟨hc, h⟩
    · refine am_Rn.ifT hc ?_
      refine am_Rn.op _ (90, [some (.ref 128), w1, w2, some (.int x.1), some (.int l4), some (.int x.2.1)], [.int x.1], am_T0 x.2.2) rfl rfl ?_
      refine am_Rn.op _ (91, [some (.ref 128), w1, w2, some (.int x.1), some (.int l4), some (.int x.2.1)], [.ref 128, .int x.1], am_T0 x.2.2) rfl rfl ?_
      refine am_Rn.op _ (93, [some (.ref 128), w1, w2, some (.int x.1), some (.int l4), some (.int x.2.1)], [.int x.2.1, .ref 128, .int x.1], am_T0 x.2.2) rfl rfl ?_
      obtain ⟨q1, hq1, h⟩ := l2_b h
      refine am_Rn.cl _ (some (.int q1.1)) (am_T0 q1.2) rfl rfl (rfX8_callsOf (d + 0) N x.2.1 x.2.2 q1 hq1) ?_
      show am_Rn _ _ _ _ (96, [some (.ref 128), w1, w2, some (.int x.1), some (.int l4), some (.int x.2.1)], [.int q1.1, .int x.1], am_T0 q1.2)
      refine am_Rn.op _ (97, [some (.ref 128), w1, w2, some (.int x.1), some (.int l4), some (.int x.2.1)], [.int (x.1 ||| q1.1)], am_T0 q1.2) rfl rfl ?_
      refine am_Rn.op _ (98, [some (.ref 128), w1, w2, some (.int (x.1 ||| q1.1)), some (.int l4), some (.int x.2.1)], [], am_T0 q1.2) rfl rfl ?_
      exact rfX8_look_98 d N _ (x.1 ||| q1.1) l4 x.2.1 q1.2 _ h hz _ _
    · refine am_Rn.ifF hc ?_
      exact rfX8_look_98 d N _ x.1 l4 x.2.1 x.2.2 _ h hz _ _
theorem rfX8_look_72 (d N : Nat) (res : Option Value × am_S) (l4 : Int32) (x : Int32 × Int32 × St) (y : Int32 × St) (h : fX8_look_72 N l4 x = some y) (hq : QfX8_look_72 (d + 2) res l4 y) : PfX8_look_72 (d + 2) res l4 x := whl_ind _ _ (fun x z => rbfX8_look_72 d N res l4 x z) N x y h hq
def bfX8_look_62 (N : Nat) (x : Int32 × Int32 × St) : Option ((Int32 × Int32 × St) ⊕ ((Int32 × St))) := (if 8 ≤ x.2.1 then some (.inr (x.1, x.2.2)) else (fX8_look_72 N x.2.1 (x.1, 0, x.2.2)).bind (fun y2 => some (.inl (y2.1, (x.2.1 + 1), y2.2))))
def fX8_look_62 (N : Nat) (x : Int32 × Int32 × St) : Option ((Int32 × St)) := whl N (bfX8_look_62 N ) x
set_option maxRecDepth 20000 in
theorem rbfX8_look_62 (d N : Nat) (res : Option Value × am_S) (x : Int32 × Int32 × St) (z : (Int32 × Int32 × St) ⊕ ((Int32 × St))) (h : bfX8_look_62 N x = some z) (hz : Sum.elim (PfX8_look_62 (d + 2) res ) (QfX8_look_62 (d + 2) res ) z) : PfX8_look_62 (d + 2) res x := by
  unfold bfX8_look_62 at h
  show ∀ (w1 w2 w5 : Option Value), am_Rn (am_C (d + 2)) (am_ct 167) (am_rk 167) res (62, [some (.ref 128), w1, w2, some (.int x.1), some (.int x.2.1), w5], [], am_T0 x.2.2)
  intro w1 w2 w5
  refine am_Rn.op _ (64, [some (.ref 128), w1, w2, some (.int x.1), some (.int x.2.1), w5], [.int x.2.1], am_T0 x.2.2) rfl rfl ?_
  refine am_Rn.op _ (66, [some (.ref 128), w1, w2, some (.int x.1), some (.int x.2.1), w5], [.int 8, .int x.2.1], am_T0 x.2.2) rfl rfl ?_
  refine am_Rn.op _ (if 8 ≤ x.2.1 then 110 else 69, [some (.ref 128), w1, w2, some (.int x.1), some (.int x.2.1), w5], [], am_T0 x.2.2) rfl rfl ?_
  rcases l2_i h with ⟨hc, h⟩ | ⟨hc, h⟩
  · refine am_Rn.ifT hc ?_
    refine am_Rn.op _ (111, [some (.ref 128), w1, w2, some (.int x.1), some (.int x.2.1), w5], [.int x.1], am_T0 x.2.2) rfl rfl ?_
    cases h
    exact am_Rn.rt2 _ rfl rfl hz
  · refine am_Rn.ifF hc ?_
    refine am_Rn.op _ (70, [some (.ref 128), w1, w2, some (.int x.1), some (.int x.2.1), w5], [.int 0], am_T0 x.2.2) rfl rfl ?_
    refine am_Rn.op _ (72, [some (.ref 128), w1, w2, some (.int x.1), some (.int x.2.1), some (.int 0)], [], am_T0 x.2.2) rfl rfl ?_
    obtain ⟨y2, hy2, h⟩ := l2_b h
    refine rfX8_look_72 d N _ x.2.1 (x.1, 0, x.2.2) y2 hy2 ?_ _ _
    intro w3 w4 w5
    show am_Rn _ _ _ _ (104, [some (.ref 128), w3, w4, some (.int y2.1), some (.int x.2.1), w5], [], am_T0 y2.2)
    refine am_Rn.op _ (107, [some (.ref 128), w3, w4, some (.int y2.1), some (.int (x.2.1 + 1)), w5], [], am_T0 y2.2) rfl rfl ?_
    refine am_Rn.op _ (62, [some (.ref 128), w3, w4, some (.int y2.1), some (.int (x.2.1 + 1)), w5], [], am_T0 y2.2) rfl rfl ?_
    cases h
    exact hz _ _ _
theorem rfX8_look_62 (d N : Nat) (res : Option Value × am_S) (x : Int32 × Int32 × St) (y : (Int32 × St)) (h : fX8_look_62 N x = some y) (hq : QfX8_look_62 (d + 2) res y) : PfX8_look_62 (d + 2) res x := whl_ind _ _ (fun x z => rbfX8_look_62 d N res x z) N x y h hq
def fX8_look (N : Nat) (l1 : Int32) (l2 : Int32) (S : St) : Option (Int32 × St) := (fX8_isRoutine N l1 S).bind (fun q6 => (if q6.1 = 0 then some ((-1), q6.2) else (if l2 = 0 then (if l1 < 0 ∨ 8 ≤ Int32.toNatClampNeg l1 then none else some ((q6.2.1 133 (Int32.toNatClampNeg l1)), q6.2)) else (if l2 = 1 then (fX8_callsOf N l1 q6.2).bind (fun q8 => some (q8.1, q8.2)) else (if l2 = 2 then (fX8_callsOf N l1 q6.2).bind (fun q9 => (fX8_look_62 N (q9.1, 0, q9.2)).bind (fun y10 => some (y10.1, y10.2))) else (if l2 = 3 then (if l1 < 0 ∨ 8 ≤ Int32.toNatClampNeg l1 then none else some ((q6.2.1 130 (Int32.toNatClampNeg l1)), q6.2)) else (if l2 < 100 then fX8_look_156 N (-1) q6.2 else (if l1 < 0 ∨ 8 ≤ Int32.toNatClampNeg l1 then none else (if (100 + (q6.2.1 133 (Int32.toNatClampNeg l1))) ≤ l2 then fX8_look_156 N (-1) q6.2 else (if (((60 * l1) + l2) - 100) < 0 ∨ 480 ≤ Int32.toNatClampNeg (((60 * l1) + l2) - 100) then none else fX8_look_156 N (q6.2.1 132 (Int32.toNatClampNeg (((60 * l1) + l2) - 100))) q6.2))))))))))
set_option maxRecDepth 20000 in
theorem rfX8_look (d N : Nat) (l1 : Int32) (l2 : Int32) (S : St) (z : (Int32 × St)) (h : fX8_look N l1 l2 S = some z) : am_C (d + 3) 167 [.ref 128, .int l1, .int l2] (am_T0 S) (some (.int z.1), am_T0 z.2) := by
  unfold fX8_look at h
  show am_Rn (am_C (d + 2)) (am_ct 167) (am_rk 167) (some (.int z.1), am_T0 z.2) (0, [some (.ref 128), some (.int l1), some (.int l2), none, none, none], [], am_T0 S)
  refine am_Rn.op _ (1, [some (.ref 128), some (.int l1), some (.int l2), none, none, none], [.int l1], am_T0 S) rfl rfl ?_
  obtain ⟨q6, hq6, h⟩ := l2_b h
  refine am_Rn.cl _ (some (.int q6.1)) (am_T0 q6.2) rfl rfl (rfX8_isRoutine (d + 1) N l1 S q6 hq6) ?_
  show am_Rn _ _ _ _ (4, [some (.ref 128), some (.int l1), some (.int l2), none, none, none], [.int q6.1], am_T0 q6.2)
  refine am_Rn.op _ (if q6.1 = 0 then 7 else 9, [some (.ref 128), some (.int l1), some (.int l2), none, none, none], [], am_T0 q6.2) rfl rfl ?_
  rcases l2_i h with ⟨hc, h⟩ | ⟨hc, h⟩
  · refine am_Rn.ifT hc ?_
    refine am_Rn.op _ (8, [some (.ref 128), some (.int l1), some (.int l2), none, none, none], [.int (-1)], am_T0 q6.2) rfl rfl ?_
    cases h
    exact am_Rn.rt _ rfl rfl
  · refine am_Rn.ifF hc ?_
    refine am_Rn.op _ (10, [some (.ref 128), some (.int l1), some (.int l2), none, none, none], [.int l2], am_T0 q6.2) rfl rfl ?_
    refine am_Rn.op _ ((if l2 = 0 then 40 else (if l2 = 1 then 47 else (if l2 = 2 then 53 else (if l2 = 3 then 112 else 119)))), [some (.ref 128), some (.int l1), some (.int l2), none, none, none], [], am_T0 q6.2) rfl rfl ?_
    rcases l2_i h with ⟨hc, h⟩ | ⟨hc, h⟩
    · refine am_Rn.ifT hc ?_
      refine am_Rn.op _ (41, [some (.ref 128), some (.int l1), some (.int l2), none, none, none], [.ref 128], am_T0 q6.2) rfl rfl ?_
      refine am_Rn.op _ (44, [some (.ref 128), some (.int l1), some (.int l2), none, none, none], [.ref 133], am_T0 q6.2) rfl rfl ?_
      refine am_Rn.op _ (45, [some (.ref 128), some (.int l1), some (.int l2), none, none, none], [.int l1, .ref 133], am_T0 q6.2) rfl rfl ?_
      obtain ⟨hb7, h⟩ := l2_n h
      refine am_Rn.iald (n := 8) rfl rfl hb7 ?_
      show am_Rn _ _ _ _ (46, [some (.ref 128), some (.int l1), some (.int l2), none, none, none], [.int (q6.2.1 133 (Int32.toNatClampNeg l1))], am_T0 q6.2)
      cases h
      exact am_Rn.rt _ rfl rfl
    · refine am_Rn.ifF hc ?_
      rcases l2_i h with ⟨hc, h⟩ | ⟨hc, h⟩
      · refine am_Rn.ifT hc ?_
        refine am_Rn.op _ (48, [some (.ref 128), some (.int l1), some (.int l2), none, none, none], [.ref 128], am_T0 q6.2) rfl rfl ?_
        refine am_Rn.op _ (49, [some (.ref 128), some (.int l1), some (.int l2), none, none, none], [.int l1, .ref 128], am_T0 q6.2) rfl rfl ?_
        obtain ⟨q8, hq8, h⟩ := l2_b h
        refine am_Rn.cl _ (some (.int q8.1)) (am_T0 q8.2) rfl rfl (rfX8_callsOf (d + 0) N l1 q6.2 q8 hq8) ?_
        show am_Rn _ _ _ _ (52, [some (.ref 128), some (.int l1), some (.int l2), none, none, none], [.int q8.1], am_T0 q8.2)
        cases h
        exact am_Rn.rt _ rfl rfl
      · refine am_Rn.ifF hc ?_
        rcases l2_i h with ⟨hc, h⟩ | ⟨hc, h⟩
        · refine am_Rn.ifT hc ?_
          refine am_Rn.op _ (54, [some (.ref 128), some (.int l1), some (.int l2), none, none, none], [.ref 128], am_T0 q6.2) rfl rfl ?_
          refine am_Rn.op _ (55, [some (.ref 128), some (.int l1), some (.int l2), none, none, none], [.int l1, .ref 128], am_T0 q6.2) rfl rfl ?_
          obtain ⟨q9, hq9, h⟩ := l2_b h
          refine am_Rn.cl _ (some (.int q9.1)) (am_T0 q9.2) rfl rfl (rfX8_callsOf (d + 0) N l1 q6.2 q9 hq9) ?_
          show am_Rn _ _ _ _ (58, [some (.ref 128), some (.int l1), some (.int l2), none, none, none], [.int q9.1], am_T0 q9.2)
          refine am_Rn.op _ (59, [some (.ref 128), some (.int l1), some (.int l2), some (.int q9.1), none, none], [], am_T0 q9.2) rfl rfl ?_
          refine am_Rn.op _ (60, [some (.ref 128), some (.int l1), some (.int l2), some (.int q9.1), none, none], [.int 0], am_T0 q9.2) rfl rfl ?_
          refine am_Rn.op _ (62, [some (.ref 128), some (.int l1), some (.int l2), some (.int q9.1), some (.int 0), none], [], am_T0 q9.2) rfl rfl ?_
          obtain ⟨y10, hy10, h⟩ := l2_b h
          refine rfX8_look_62 d N _  (q9.1, 0, q9.2) y10 hy10 ?_ _ _ _
          cases h
          exact rfl
        · refine am_Rn.ifF hc ?_
          rcases l2_i h with ⟨hc, h⟩ | ⟨hc, h⟩
          · refine am_Rn.ifT hc ?_
            refine am_Rn.op _ (113, [some (.ref 128), some (.int l1), some (.int l2), none, none, none], [.ref 128], am_T0 q6.2) rfl rfl ?_
            refine am_Rn.op _ (116, [some (.ref 128), some (.int l1), some (.int l2), none, none, none], [.ref 130], am_T0 q6.2) rfl rfl ?_
            refine am_Rn.op _ (117, [some (.ref 128), some (.int l1), some (.int l2), none, none, none], [.int l1, .ref 130], am_T0 q6.2) rfl rfl ?_
            obtain ⟨hb11, h⟩ := l2_n h
            refine am_Rn.iald (n := 8) rfl rfl hb11 ?_
            show am_Rn _ _ _ _ (118, [some (.ref 128), some (.int l1), some (.int l2), none, none, none], [.int (q6.2.1 130 (Int32.toNatClampNeg l1))], am_T0 q6.2)
            cases h
            exact am_Rn.rt _ rfl rfl
          · refine am_Rn.ifF hc ?_
            refine am_Rn.op _ (120, [some (.ref 128), some (.int l1), some (.int l2), none, none, none], [.int l2], am_T0 q6.2) rfl rfl ?_
            refine am_Rn.op _ (122, [some (.ref 128), some (.int l1), some (.int l2), none, none, none], [.int 100, .int l2], am_T0 q6.2) rfl rfl ?_
            refine am_Rn.op _ (if l2 < 100 then 155 else 125, [some (.ref 128), some (.int l1), some (.int l2), none, none, none], [], am_T0 q6.2) rfl rfl ?_
            rcases l2_i h with ⟨hc, h⟩ | ⟨hc, h⟩
            · refine am_Rn.ifT hc ?_
              refine am_Rn.op _ (156, [some (.ref 128), some (.int l1), some (.int l2), none, none, none], [.int (-1)], am_T0 q6.2) rfl rfl ?_
              exact rfX8_look_156 d N (-1) q6.2 _ h _ _ _ _ _ _
            · refine am_Rn.ifF hc ?_
              refine am_Rn.op _ (126, [some (.ref 128), some (.int l1), some (.int l2), none, none, none], [.int l2], am_T0 q6.2) rfl rfl ?_
              refine am_Rn.op _ (128, [some (.ref 128), some (.int l1), some (.int l2), none, none, none], [.int 100, .int l2], am_T0 q6.2) rfl rfl ?_
              refine am_Rn.op _ (129, [some (.ref 128), some (.int l1), some (.int l2), none, none, none], [.ref 128, .int 100, .int l2], am_T0 q6.2) rfl rfl ?_
              refine am_Rn.op _ (132, [some (.ref 128), some (.int l1), some (.int l2), none, none, none], [.ref 133, .int 100, .int l2], am_T0 q6.2) rfl rfl ?_
              refine am_Rn.op _ (133, [some (.ref 128), some (.int l1), some (.int l2), none, none, none], [.int l1, .ref 133, .int 100, .int l2], am_T0 q6.2) rfl rfl ?_
              obtain ⟨hb12, h⟩ := l2_n h
              refine am_Rn.iald (n := 8) rfl rfl hb12 ?_
              show am_Rn _ _ _ _ (134, [some (.ref 128), some (.int l1), some (.int l2), none, none, none], [.int (q6.2.1 133 (Int32.toNatClampNeg l1)), .int 100, .int l2], am_T0 q6.2)
              refine am_Rn.op _ (135, [some (.ref 128), some (.int l1), some (.int l2), none, none, none], [.int (100 + (q6.2.1 133 (Int32.toNatClampNeg l1))), .int l2], am_T0 q6.2) rfl rfl ?_
              refine am_Rn.op _ (if (100 + (q6.2.1 133 (Int32.toNatClampNeg l1))) ≤ l2 then 155 else 138, [some (.ref 128), some (.int l1), some (.int l2), none, none, none], [], am_T0 q6.2) rfl rfl ?_
              rcases l2_i h with ⟨hc, h⟩ | ⟨hc, h⟩
              · refine am_Rn.ifT hc ?_
                refine am_Rn.op _ (156, [some (.ref 128), some (.int l1), some (.int l2), none, none, none], [.int (-1)], am_T0 q6.2) rfl rfl ?_
                exact rfX8_look_156 d N (-1) q6.2 _ h _ _ _ _ _ _
              · refine am_Rn.ifF hc ?_
                refine am_Rn.op _ (139, [some (.ref 128), some (.int l1), some (.int l2), none, none, none], [.ref 128], am_T0 q6.2) rfl rfl ?_
                refine am_Rn.op _ (142, [some (.ref 128), some (.int l1), some (.int l2), none, none, none], [.ref 132], am_T0 q6.2) rfl rfl ?_
                refine am_Rn.op _ (144, [some (.ref 128), some (.int l1), some (.int l2), none, none, none], [.int 60, .ref 132], am_T0 q6.2) rfl rfl ?_
                refine am_Rn.op _ (145, [some (.ref 128), some (.int l1), some (.int l2), none, none, none], [.int l1, .int 60, .ref 132], am_T0 q6.2) rfl rfl ?_
                refine am_Rn.op _ (146, [some (.ref 128), some (.int l1), some (.int l2), none, none, none], [.int (60 * l1), .ref 132], am_T0 q6.2) rfl rfl ?_
                refine am_Rn.op _ (147, [some (.ref 128), some (.int l1), some (.int l2), none, none, none], [.int l2, .int (60 * l1), .ref 132], am_T0 q6.2) rfl rfl ?_
                refine am_Rn.op _ (148, [some (.ref 128), some (.int l1), some (.int l2), none, none, none], [.int ((60 * l1) + l2), .ref 132], am_T0 q6.2) rfl rfl ?_
                refine am_Rn.op _ (150, [some (.ref 128), some (.int l1), some (.int l2), none, none, none], [.int 100, .int ((60 * l1) + l2), .ref 132], am_T0 q6.2) rfl rfl ?_
                refine am_Rn.op _ (151, [some (.ref 128), some (.int l1), some (.int l2), none, none, none], [.int (((60 * l1) + l2) - 100), .ref 132], am_T0 q6.2) rfl rfl ?_
                obtain ⟨hb13, h⟩ := l2_n h
                refine am_Rn.bald1 (n := 480) rfl rfl hb13 ?_
                show am_Rn _ _ _ _ (152, [some (.ref 128), some (.int l1), some (.int l2), none, none, none], [.int (q6.2.1 132 (Int32.toNatClampNeg (((60 * l1) + l2) - 100)))], am_T0 q6.2)
                refine am_Rn.op _ (156, [some (.ref 128), some (.int l1), some (.int l2), none, none, none], [.int (q6.2.1 132 (Int32.toNatClampNeg (((60 * l1) + l2) - 100)))], am_T0 q6.2) rfl rfl ?_
                exact rfX8_look_156 d N (q6.2.1 132 (Int32.toNatClampNeg (((60 * l1) + l2) - 100))) q6.2 _ h _ _ _ _ _ _
-- X8_fault
def fX8_fault_36 (N : Nat) (s0 : Int32) (S : St) : Option (Int32 × St) := some (s0, S)
set_option maxRecDepth 20000 in
theorem rfX8_fault_36 (d N : Nat) (s0 : Int32) (S : St) (z : (Int32 × St)) (h : fX8_fault_36 N s0 S = some z) (w0 : Option Value) (w1 : Option Value) : am_Rn (am_C (d + 0)) (am_ct 168) (am_rk 168) (some (.int z.1), am_T0 z.2) (36, [w0, w1], [.int s0], am_T0 S) := by
  unfold fX8_fault_36 at h
  cases h
  exact am_Rn.rt _ rfl rfl
def fX8_fault (N : Nat) (l1 : Int32) (S : St) : Option (Int32 × St) := (if l1 = 0 then fX8_fault_36 N (S.1 128 5) S else (if l1 = 1 then fX8_fault_36 N (S.1 128 6) S else (if l1 = 2 then fX8_fault_36 N (S.1 128 4) S else fX8_fault_36 N (-1) S)))
set_option maxRecDepth 20000 in
theorem rfX8_fault (d N : Nat) (l1 : Int32) (S : St) (z : (Int32 × St)) (h : fX8_fault N l1 S = some z) : am_C (d + 1) 168 [.ref 128, .int l1] (am_T0 S) (some (.int z.1), am_T0 z.2) := by
  unfold fX8_fault at h
  show am_Rn (am_C (d + 0)) (am_ct 168) (am_rk 168) (some (.int z.1), am_T0 z.2) (0, [some (.ref 128), some (.int l1)], [], am_T0 S)
  refine am_Rn.op _ (1, [some (.ref 128), some (.int l1)], [.int l1], am_T0 S) rfl rfl ?_
  refine am_Rn.op _ (if l1 = 0 then 4 else 11, [some (.ref 128), some (.int l1)], [], am_T0 S) rfl rfl ?_
  rcases l2_i h with ⟨hc, h⟩ | ⟨hc, h⟩
  · refine am_Rn.ifT hc ?_
    refine am_Rn.op _ (5, [some (.ref 128), some (.int l1)], [.ref 128], am_T0 S) rfl rfl ?_
    refine am_Rn.op _ (8, [some (.ref 128), some (.int l1)], [.int (S.1 128 5)], am_T0 S) rfl rfl ?_
    refine am_Rn.op _ (36, [some (.ref 128), some (.int l1)], [.int (S.1 128 5)], am_T0 S) rfl rfl ?_
    exact rfX8_fault_36 d N (S.1 128 5) S _ h _ _
  · refine am_Rn.ifF hc ?_
    refine am_Rn.op _ (12, [some (.ref 128), some (.int l1)], [.int l1], am_T0 S) rfl rfl ?_
    refine am_Rn.op _ (13, [some (.ref 128), some (.int l1)], [.int 1, .int l1], am_T0 S) rfl rfl ?_
    refine am_Rn.op _ (if l1 = 1 then 16 else 23, [some (.ref 128), some (.int l1)], [], am_T0 S) rfl rfl ?_
    rcases l2_i h with ⟨hc, h⟩ | ⟨hc, h⟩
    · refine am_Rn.ifT hc ?_
      refine am_Rn.op _ (17, [some (.ref 128), some (.int l1)], [.ref 128], am_T0 S) rfl rfl ?_
      refine am_Rn.op _ (20, [some (.ref 128), some (.int l1)], [.int (S.1 128 6)], am_T0 S) rfl rfl ?_
      refine am_Rn.op _ (36, [some (.ref 128), some (.int l1)], [.int (S.1 128 6)], am_T0 S) rfl rfl ?_
      exact rfX8_fault_36 d N (S.1 128 6) S _ h _ _
    · refine am_Rn.ifF hc ?_
      refine am_Rn.op _ (24, [some (.ref 128), some (.int l1)], [.int l1], am_T0 S) rfl rfl ?_
      refine am_Rn.op _ (25, [some (.ref 128), some (.int l1)], [.int 2, .int l1], am_T0 S) rfl rfl ?_
      refine am_Rn.op _ (if l1 = 2 then 28 else 35, [some (.ref 128), some (.int l1)], [], am_T0 S) rfl rfl ?_
      rcases l2_i h with ⟨hc, h⟩ | ⟨hc, h⟩
      · refine am_Rn.ifT hc ?_
        refine am_Rn.op _ (29, [some (.ref 128), some (.int l1)], [.ref 128], am_T0 S) rfl rfl ?_
        refine am_Rn.op _ (32, [some (.ref 128), some (.int l1)], [.int (S.1 128 4)], am_T0 S) rfl rfl ?_
        refine am_Rn.op _ (36, [some (.ref 128), some (.int l1)], [.int (S.1 128 4)], am_T0 S) rfl rfl ?_
        exact rfX8_fault_36 d N (S.1 128 4) S _ h _ _
      · refine am_Rn.ifF hc ?_
        refine am_Rn.op _ (36, [some (.ref 128), some (.int l1)], [.int (-1)], am_T0 S) rfl rfl ?_
        exact rfX8_fault_36 d N (-1) S _ h _ _
