-- X8_makes
def PfX8_makes_3 (d : Nat) (res : Option Value × am_S) (l1 : Int32) (l2 : Int32) (l3 : Int32) (l4 : Int32) (x : Int32 × St) : Prop := ∀ (w6 w7 w8 w9 : Option Value), am_Rn (am_C d) (am_ct 147) (am_rk 147) res (3, [some (.ref 128), some (.int l1), some (.int l2), some (.int l3), some (.int l4), some (.int x.1), w6, w7, w8, w9], [], am_T0 x.2)
def QfX8_makes_3 (d : Nat) (res : Option Value × am_S) (l1 : Int32) (l2 : Int32) (l3 : Int32) (l4 : Int32) (y : St) : Prop := res = (none, am_T0 y)
def PfX8_makes_13 (d : Nat) (res : Option Value × am_S) (l1 : Int32) (l2 : Int32) (l3 : Int32) (l4 : Int32) (l5 : Int32) (x : Int32 × St) : Prop := ∀ (w7 w8 w9 : Option Value), am_Rn (am_C d) (am_ct 147) (am_rk 147) res (13, [some (.ref 128), some (.int l1), some (.int l2), some (.int l3), some (.int l4), some (.int l5), some (.int x.1), w7, w8, w9], [], am_T0 x.2)
def QfX8_makes_13 (d : Nat) (res : Option Value × am_S) (l1 : Int32) (l2 : Int32) (l3 : Int32) (l4 : Int32) (l5 : Int32) (y : St) : Prop := ∀ (w6 w7 w8 w9 : Option Value), am_Rn (am_C d) (am_ct 147) (am_rk 147) res (225, [some (.ref 128), some (.int l1), some (.int l2), some (.int l3), some (.int l4), some (.int l5), w6, w7, w8, w9], [], am_T0 y)
def PfX8_makes_34 (d : Nat) (res : Option Value × am_S) (l1 : Int32) (l2 : Int32) (l3 : Int32) (l4 : Int32) (l5 : Int32) (l6 : Int32) (x : Int32 × St) : Prop := ∀ (w8 w9 : Option Value), am_Rn (am_C d) (am_ct 147) (am_rk 147) res (34, [some (.ref 128), some (.int l1), some (.int l2), some (.int l3), some (.int l4), some (.int l5), some (.int l6), some (.int x.1), w8, w9], [], am_T0 x.2)
def QfX8_makes_34 (d : Nat) (res : Option Value × am_S) (l1 : Int32) (l2 : Int32) (l3 : Int32) (l4 : Int32) (l5 : Int32) (l6 : Int32) (y : St) : Prop := ∀ (w7 w8 w9 : Option Value), am_Rn (am_C d) (am_ct 147) (am_rk 147) res (66, [some (.ref 128), some (.int l1), some (.int l2), some (.int l3), some (.int l4), some (.int l5), some (.int l6), w7, w8, w9], [], am_T0 y)
def PfX8_makes_69 (d : Nat) (res : Option Value × am_S) (l1 : Int32) (l2 : Int32) (l3 : Int32) (l4 : Int32) (l5 : Int32) (l6 : Int32) (x : Int32 × St) : Prop := ∀ (w8 w9 : Option Value), am_Rn (am_C d) (am_ct 147) (am_rk 147) res (69, [some (.ref 128), some (.int l1), some (.int l2), some (.int l3), some (.int l4), some (.int l5), some (.int l6), some (.int x.1), w8, w9], [], am_T0 x.2)
def QfX8_makes_69 (d : Nat) (res : Option Value × am_S) (l1 : Int32) (l2 : Int32) (l3 : Int32) (l4 : Int32) (l5 : Int32) (l6 : Int32) (y : St) : Prop := ∀ (w7 w8 w9 : Option Value), am_Rn (am_C d) (am_ct 147) (am_rk 147) res (99, [some (.ref 128), some (.int l1), some (.int l2), some (.int l3), some (.int l4), some (.int l5), some (.int l6), w7, w8, w9], [], am_T0 y)
def PfX8_makes_102 (d : Nat) (res : Option Value × am_S) (l1 : Int32) (l2 : Int32) (l3 : Int32) (l4 : Int32) (l5 : Int32) (l6 : Int32) (x : Int32 × St) : Prop := ∀ (w7 w9 : Option Value), am_Rn (am_C d) (am_ct 147) (am_rk 147) res (102, [some (.ref 128), some (.int l1), some (.int l2), some (.int l3), some (.int l4), some (.int l5), some (.int l6), w7, some (.int x.1), w9], [], am_T0 x.2)
def QfX8_makes_102 (d : Nat) (res : Option Value × am_S) (l1 : Int32) (l2 : Int32) (l3 : Int32) (l4 : Int32) (l5 : Int32) (l6 : Int32) (y : St) : Prop := ∀ (w7 w8 w9 : Option Value), am_Rn (am_C d) (am_ct 147) (am_rk 147) res (128, [some (.ref 128), some (.int l1), some (.int l2), some (.int l3), some (.int l4), some (.int l5), some (.int l6), w7, w8, w9], [], am_T0 y)
def PfX8_makes_152 (d : Nat) (res : Option Value × am_S) (l1 : Int32) (l2 : Int32) (l3 : Int32) (l4 : Int32) (l5 : Int32) (l6 : Int32) (x : Int32 × St) : Prop := ∀ (w7 w9 : Option Value), am_Rn (am_C d) (am_ct 147) (am_rk 147) res (152, [some (.ref 128), some (.int l1), some (.int l2), some (.int l3), some (.int l4), some (.int l5), some (.int l6), w7, some (.int x.1), w9], [], am_T0 x.2)
def QfX8_makes_152 (d : Nat) (res : Option Value × am_S) (l1 : Int32) (l2 : Int32) (l3 : Int32) (l4 : Int32) (l5 : Int32) (l6 : Int32) (y : St) : Prop := ∀ (w7 w8 w9 : Option Value), am_Rn (am_C d) (am_ct 147) (am_rk 147) res (219, [some (.ref 128), some (.int l1), some (.int l2), some (.int l3), some (.int l4), some (.int l5), some (.int l6), w7, w8, w9], [], am_T0 y)
def PfX8_makes_162 (d : Nat) (res : Option Value × am_S) (l1 : Int32) (l2 : Int32) (l3 : Int32) (l4 : Int32) (l5 : Int32) (l6 : Int32) (l8 : Int32) (x : Int32 × St) : Prop := ∀ (w7 : Option Value), am_Rn (am_C d) (am_ct 147) (am_rk 147) res (162, [some (.ref 128), some (.int l1), some (.int l2), some (.int l3), some (.int l4), some (.int l5), some (.int l6), w7, some (.int l8), some (.int x.1)], [], am_T0 x.2)
def QfX8_makes_162 (d : Nat) (res : Option Value × am_S) (l1 : Int32) (l2 : Int32) (l3 : Int32) (l4 : Int32) (l5 : Int32) (l6 : Int32) (l8 : Int32) (y : St) : Prop := ∀ (w7 w9 : Option Value), am_Rn (am_C d) (am_ct 147) (am_rk 147) res (213, [some (.ref 128), some (.int l1), some (.int l2), some (.int l3), some (.int l4), some (.int l5), some (.int l6), w7, some (.int l8), w9], [], am_T0 y)
def bfX8_makes_162 (N : Nat) (l1 : Int32) (l2 : Int32) (l3 : Int32) (l4 : Int32) (l5 : Int32) (l6 : Int32) (l8 : Int32) (x : Int32 × St) : Option ((Int32 × St) ⊕ (St)) := (if 4 ≤ x.1 then some (.inr (x.2)) else (fX8_cell N l5 l6 l8 x.1 x.2).bind (fun q1 => (if ((l8 * 4) + x.1) < 0 ∨ 32 ≤ Int32.toNatClampNeg ((l8 * 4) + x.1) then none else (if ((((61 * l1) + l2) * 896) + q1.1) < 0 ∨ 437248 ≤ Int32.toNatClampNeg ((((61 * l1) + l2) * 896) + q1.1) then none else some (.inl ((x.1 + 1), (st_i q1.2 139 (Int32.toNatClampNeg ((((61 * l1) + l2) * 896) + q1.1)) (q1.2.1 147 (Int32.toNatClampNeg ((l8 * 4) + x.1))))))))))
def fX8_makes_162 (N : Nat) (l1 : Int32) (l2 : Int32) (l3 : Int32) (l4 : Int32) (l5 : Int32) (l6 : Int32) (l8 : Int32) (x : Int32 × St) : Option (St) := whl N (bfX8_makes_162 N l1 l2 l3 l4 l5 l6 l8 ) x
set_option maxRecDepth 20000 in
theorem rbfX8_makes_162 (d N : Nat) (res : Option Value × am_S) (l1 : Int32) (l2 : Int32) (l3 : Int32) (l4 : Int32) (l5 : Int32) (l6 : Int32) (l8 : Int32) (x : Int32 × St) (z : (Int32 × St) ⊕ (St)) (h : bfX8_makes_162 N l1 l2 l3 l4 l5 l6 l8 x = some z) (hz : Sum.elim (PfX8_makes_162 (d + 6) res l1 l2 l3 l4 l5 l6 l8 ) (QfX8_makes_162 (d + 6) res l1 l2 l3 l4 l5 l6 l8 ) z) : PfX8_makes_162 (d + 6) res l1 l2 l3 l4 l5 l6 l8 x := by
  unfold bfX8_makes_162 at h
  show ∀ (w7 : Option Value), am_Rn (am_C (d + 6)) (am_ct 147) (am_rk 147) res (162, [some (.ref 128), some (.int l1), some (.int l2), some (.int l3), some (.int l4), some (.int l5), some (.int l6), w7, some (.int l8), some (.int x.1)], [], am_T0 x.2)
  intro w7
  refine am_Rn.op _ (164, [some (.ref 128), some (.int l1), some (.int l2), some (.int l3), some (.int l4), some (.int l5), some (.int l6), w7, some (.int l8), some (.int x.1)], [.int x.1], am_T0 x.2) rfl rfl ?_
  refine am_Rn.op _ (165, [some (.ref 128), some (.int l1), some (.int l2), some (.int l3), some (.int l4), some (.int l5), some (.int l6), w7, some (.int l8), some (.int x.1)], [.int 4, .int x.1], am_T0 x.2) rfl rfl ?_
  refine am_Rn.op _ (if 4 ≤ x.1 then 213 else 168, [some (.ref 128), some (.int l1), some (.int l2), some (.int l3), some (.int l4), some (.int l5), some (.int l6), w7, some (.int l8), some (.int x.1)], [], am_T0 x.2) rfl rfl ?_
  rcases l2_i h with ⟨hc, h⟩ | ⟨hc, h⟩
  · refine am_Rn.ifT hc ?_
    cases h
    exact hz _ _
  · refine am_Rn.ifF hc ?_
    refine am_Rn.op _ (169, [some (.ref 128), some (.int l1), some (.int l2), some (.int l3), some (.int l4), some (.int l5), some (.int l6), w7, some (.int l8), some (.int x.1)], [.ref 128], am_T0 x.2) rfl rfl ?_
    refine am_Rn.op _ (172, [some (.ref 128), some (.int l1), some (.int l2), some (.int l3), some (.int l4), some (.int l5), some (.int l6), w7, some (.int l8), some (.int x.1)], [.ref 139], am_T0 x.2) rfl rfl ?_
    refine am_Rn.op _ (174, [some (.ref 128), some (.int l1), some (.int l2), some (.int l3), some (.int l4), some (.int l5), some (.int l6), w7, some (.int l8), some (.int x.1)], [.int 61, .ref 139], am_T0 x.2) rfl rfl ?_
    refine am_Rn.op _ (175, [some (.ref 128), some (.int l1), some (.int l2), some (.int l3), some (.int l4), some (.int l5), some (.int l6), w7, some (.int l8), some (.int x.1)], [.int l1, .int 61, .ref 139], am_T0 x.2) rfl rfl ?_
    refine am_Rn.op _ (176, [some (.ref 128), some (.int l1), some (.int l2), some (.int l3), some (.int l4), some (.int l5), some (.int l6), w7, some (.int l8), some (.int x.1)], [.int (61 * l1), .ref 139], am_T0 x.2) rfl rfl ?_
    refine am_Rn.op _ (177, [some (.ref 128), some (.int l1), some (.int l2), some (.int l3), some (.int l4), some (.int l5), some (.int l6), w7, some (.int l8), some (.int x.1)], [.int l2, .int (61 * l1), .ref 139], am_T0 x.2) rfl rfl ?_
    refine am_Rn.op _ (178, [some (.ref 128), some (.int l1), some (.int l2), some (.int l3), some (.int l4), some (.int l5), some (.int l6), w7, some (.int l8), some (.int x.1)], [.int ((61 * l1) + l2), .ref 139], am_T0 x.2) rfl rfl ?_
    refine am_Rn.op _ (181, [some (.ref 128), some (.int l1), some (.int l2), some (.int l3), some (.int l4), some (.int l5), some (.int l6), w7, some (.int l8), some (.int x.1)], [.int 896, .int ((61 * l1) + l2), .ref 139], am_T0 x.2) rfl rfl ?_
    refine am_Rn.op _ (182, [some (.ref 128), some (.int l1), some (.int l2), some (.int l3), some (.int l4), some (.int l5), some (.int l6), w7, some (.int l8), some (.int x.1)], [.int (((61 * l1) + l2) * 896), .ref 139], am_T0 x.2) rfl rfl ?_
    refine am_Rn.op _ (184, [some (.ref 128), some (.int l1), some (.int l2), some (.int l3), some (.int l4), some (.int l5), some (.int l6), w7, some (.int l8), some (.int x.1)], [.int l5, .int (((61 * l1) + l2) * 896), .ref 139], am_T0 x.2) rfl rfl ?_
    refine am_Rn.op _ (186, [some (.ref 128), some (.int l1), some (.int l2), some (.int l3), some (.int l4), some (.int l5), some (.int l6), w7, some (.int l8), some (.int x.1)], [.int l6, .int l5, .int (((61 * l1) + l2) * 896), .ref 139], am_T0 x.2) rfl rfl ?_
    refine am_Rn.op _ (188, [some (.ref 128), some (.int l1), some (.int l2), some (.int l3), some (.int l4), some (.int l5), some (.int l6), w7, some (.int l8), some (.int x.1)], [.int l8, .int l6, .int l5, .int (((61 * l1) + l2) * 896), .ref 139], am_T0 x.2) rfl rfl ?_
    refine am_Rn.op _ (190, [some (.ref 128), some (.int l1), some (.int l2), some (.int l3), some (.int l4), some (.int l5), some (.int l6), w7, some (.int l8), some (.int x.1)], [.int x.1, .int l8, .int l6, .int l5, .int (((61 * l1) + l2) * 896), .ref 139], am_T0 x.2) rfl rfl ?_
    obtain ⟨q1, hq1, h⟩ := l2_b h
    refine am_Rn.cl _ (some (.int q1.1)) (am_T0 q1.2) rfl rfl (rfX8_cell (d + 5) N l5 l6 l8 x.1 x.2 q1 hq1) ?_
    show am_Rn _ _ _ _ (193, [some (.ref 128), some (.int l1), some (.int l2), some (.int l3), some (.int l4), some (.int l5), some (.int l6), w7, some (.int l8), some (.int x.1)], [.int q1.1, .int (((61 * l1) + l2) * 896), .ref 139], am_T0 q1.2)
    refine am_Rn.op _ (194, [some (.ref 128), some (.int l1), some (.int l2), some (.int l3), some (.int l4), some (.int l5), some (.int l6), w7, some (.int l8), some (.int x.1)], [.int ((((61 * l1) + l2) * 896) + q1.1), .ref 139], am_T0 q1.2) rfl rfl ?_
    refine am_Rn.op _ (195, [some (.ref 128), some (.int l1), some (.int l2), some (.int l3), some (.int l4), some (.int l5), some (.int l6), w7, some (.int l8), some (.int x.1)], [.ref 128, .int ((((61 * l1) + l2) * 896) + q1.1), .ref 139], am_T0 q1.2) rfl rfl ?_
    refine am_Rn.op _ (198, [some (.ref 128), some (.int l1), some (.int l2), some (.int l3), some (.int l4), some (.int l5), some (.int l6), w7, some (.int l8), some (.int x.1)], [.ref 147, .int ((((61 * l1) + l2) * 896) + q1.1), .ref 139], am_T0 q1.2) rfl rfl ?_
    refine am_Rn.op _ (200, [some (.ref 128), some (.int l1), some (.int l2), some (.int l3), some (.int l4), some (.int l5), some (.int l6), w7, some (.int l8), some (.int x.1)], [.int l8, .ref 147, .int ((((61 * l1) + l2) * 896) + q1.1), .ref 139], am_T0 q1.2) rfl rfl ?_
    refine am_Rn.op _ (201, [some (.ref 128), some (.int l1), some (.int l2), some (.int l3), some (.int l4), some (.int l5), some (.int l6), w7, some (.int l8), some (.int x.1)], [.int 4, .int l8, .ref 147, .int ((((61 * l1) + l2) * 896) + q1.1), .ref 139], am_T0 q1.2) rfl rfl ?_
    refine am_Rn.op _ (202, [some (.ref 128), some (.int l1), some (.int l2), some (.int l3), some (.int l4), some (.int l5), some (.int l6), w7, some (.int l8), some (.int x.1)], [.int (l8 * 4), .ref 147, .int ((((61 * l1) + l2) * 896) + q1.1), .ref 139], am_T0 q1.2) rfl rfl ?_
    refine am_Rn.op _ (204, [some (.ref 128), some (.int l1), some (.int l2), some (.int l3), some (.int l4), some (.int l5), some (.int l6), w7, some (.int l8), some (.int x.1)], [.int x.1, .int (l8 * 4), .ref 147, .int ((((61 * l1) + l2) * 896) + q1.1), .ref 139], am_T0 q1.2) rfl rfl ?_
    refine am_Rn.op _ (205, [some (.ref 128), some (.int l1), some (.int l2), some (.int l3), some (.int l4), some (.int l5), some (.int l6), w7, some (.int l8), some (.int x.1)], [.int ((l8 * 4) + x.1), .ref 147, .int ((((61 * l1) + l2) * 896) + q1.1), .ref 139], am_T0 q1.2) rfl rfl ?_
    obtain ⟨hb2, h⟩ := l2_n h
    refine am_Rn.iald (n := 32) rfl rfl hb2 ?_
    show am_Rn _ _ _ _ (206, [some (.ref 128), some (.int l1), some (.int l2), some (.int l3), some (.int l4), some (.int l5), some (.int l6), w7, some (.int l8), some (.int x.1)], [.int (q1.2.1 147 (Int32.toNatClampNeg ((l8 * 4) + x.1))), .int ((((61 * l1) + l2) * 896) + q1.1), .ref 139], am_T0 q1.2)
    obtain ⟨hb3, h⟩ := l2_n h
    refine am_Rn.iast (n := 437248) rfl rfl hb3 ?_
    show am_Rn _ _ _ _ (207, [some (.ref 128), some (.int l1), some (.int l2), some (.int l3), some (.int l4), some (.int l5), some (.int l6), w7, some (.int l8), some (.int x.1)], [], am_T0 (st_i q1.2 139 (Int32.toNatClampNeg ((((61 * l1) + l2) * 896) + q1.1)) (q1.2.1 147 (Int32.toNatClampNeg ((l8 * 4) + x.1)))))
    refine am_Rn.op _ (210, [some (.ref 128), some (.int l1), some (.int l2), some (.int l3), some (.int l4), some (.int l5), some (.int l6), w7, some (.int l8), some (.int (x.1 + 1))], [], am_T0 (st_i q1.2 139 (Int32.toNatClampNeg ((((61 * l1) + l2) * 896) + q1.1)) (q1.2.1 147 (Int32.toNatClampNeg ((l8 * 4) + x.1))))) rfl rfl ?_
    refine am_Rn.op _ (162, [some (.ref 128), some (.int l1), some (.int l2), some (.int l3), some (.int l4), some (.int l5), some (.int l6), w7, some (.int l8), some (.int (x.1 + 1))], [], am_T0 (st_i q1.2 139 (Int32.toNatClampNeg ((((61 * l1) + l2) * 896) + q1.1)) (q1.2.1 147 (Int32.toNatClampNeg ((l8 * 4) + x.1))))) rfl rfl ?_
    cases h
    exact hz _
theorem rfX8_makes_162 (d N : Nat) (res : Option Value × am_S) (l1 : Int32) (l2 : Int32) (l3 : Int32) (l4 : Int32) (l5 : Int32) (l6 : Int32) (l8 : Int32) (x : Int32 × St) (y : St) (h : fX8_makes_162 N l1 l2 l3 l4 l5 l6 l8 x = some y) (hq : QfX8_makes_162 (d + 6) res l1 l2 l3 l4 l5 l6 l8 y) : PfX8_makes_162 (d + 6) res l1 l2 l3 l4 l5 l6 l8 x := whl_ind _ _ (fun x z => rbfX8_makes_162 d N res l1 l2 l3 l4 l5 l6 l8 x z) N x y h hq
def bfX8_makes_152 (N : Nat) (l1 : Int32) (l2 : Int32) (l3 : Int32) (l4 : Int32) (l5 : Int32) (l6 : Int32) (x : Int32 × St) : Option ((Int32 × St) ⊕ (St)) := (if 8 ≤ x.1 then some (.inr (x.2)) else (fX8_makes_162 N l1 l2 l3 l4 l5 l6 x.1 (0, x.2)).bind (fun y4 => some (.inl ((x.1 + 1), y4))))
def fX8_makes_152 (N : Nat) (l1 : Int32) (l2 : Int32) (l3 : Int32) (l4 : Int32) (l5 : Int32) (l6 : Int32) (x : Int32 × St) : Option (St) := whl N (bfX8_makes_152 N l1 l2 l3 l4 l5 l6 ) x
set_option maxRecDepth 20000 in
theorem rbfX8_makes_152 (d N : Nat) (res : Option Value × am_S) (l1 : Int32) (l2 : Int32) (l3 : Int32) (l4 : Int32) (l5 : Int32) (l6 : Int32) (x : Int32 × St) (z : (Int32 × St) ⊕ (St)) (h : bfX8_makes_152 N l1 l2 l3 l4 l5 l6 x = some z) (hz : Sum.elim (PfX8_makes_152 (d + 6) res l1 l2 l3 l4 l5 l6 ) (QfX8_makes_152 (d + 6) res l1 l2 l3 l4 l5 l6 ) z) : PfX8_makes_152 (d + 6) res l1 l2 l3 l4 l5 l6 x := by
  unfold bfX8_makes_152 at h
  show ∀ (w7 w9 : Option Value), am_Rn (am_C (d + 6)) (am_ct 147) (am_rk 147) res (152, [some (.ref 128), some (.int l1), some (.int l2), some (.int l3), some (.int l4), some (.int l5), some (.int l6), w7, some (.int x.1), w9], [], am_T0 x.2)
  intro w7 w9
  refine am_Rn.op _ (154, [some (.ref 128), some (.int l1), some (.int l2), some (.int l3), some (.int l4), some (.int l5), some (.int l6), w7, some (.int x.1), w9], [.int x.1], am_T0 x.2) rfl rfl ?_
  refine am_Rn.op _ (156, [some (.ref 128), some (.int l1), some (.int l2), some (.int l3), some (.int l4), some (.int l5), some (.int l6), w7, some (.int x.1), w9], [.int 8, .int x.1], am_T0 x.2) rfl rfl ?_
  refine am_Rn.op _ (if 8 ≤ x.1 then 219 else 159, [some (.ref 128), some (.int l1), some (.int l2), some (.int l3), some (.int l4), some (.int l5), some (.int l6), w7, some (.int x.1), w9], [], am_T0 x.2) rfl rfl ?_
  rcases l2_i h with ⟨hc, h⟩ | ⟨hc, h⟩
  · refine am_Rn.ifT hc ?_
    cases h
    exact hz _ _ _
  · refine am_Rn.ifF hc ?_
    refine am_Rn.op _ (160, [some (.ref 128), some (.int l1), some (.int l2), some (.int l3), some (.int l4), some (.int l5), some (.int l6), w7, some (.int x.1), w9], [.int 0], am_T0 x.2) rfl rfl ?_
    refine am_Rn.op _ (162, [some (.ref 128), some (.int l1), some (.int l2), some (.int l3), some (.int l4), some (.int l5), some (.int l6), w7, some (.int x.1), some (.int 0)], [], am_T0 x.2) rfl rfl ?_
    obtain ⟨y4, hy4, h⟩ := l2_b h
    refine rfX8_makes_162 d N _ l1 l2 l3 l4 l5 l6 x.1 (0, x.2) y4 hy4 ?_ _
    intro w5 w6
    show am_Rn _ _ _ _ (213, [some (.ref 128), some (.int l1), some (.int l2), some (.int l3), some (.int l4), some (.int l5), some (.int l6), w5, some (.int x.1), w6], [], am_T0 y4)
    refine am_Rn.op _ (216, [some (.ref 128), some (.int l1), some (.int l2), some (.int l3), some (.int l4), some (.int l5), some (.int l6), w5, some (.int (x.1 + 1)), w6], [], am_T0 y4) rfl rfl ?_
    refine am_Rn.op _ (152, [some (.ref 128), some (.int l1), some (.int l2), some (.int l3), some (.int l4), some (.int l5), some (.int l6), w5, some (.int (x.1 + 1)), w6], [], am_T0 y4) rfl rfl ?_
    cases h
    exact hz _ _
theorem rfX8_makes_152 (d N : Nat) (res : Option Value × am_S) (l1 : Int32) (l2 : Int32) (l3 : Int32) (l4 : Int32) (l5 : Int32) (l6 : Int32) (x : Int32 × St) (y : St) (h : fX8_makes_152 N l1 l2 l3 l4 l5 l6 x = some y) (hq : QfX8_makes_152 (d + 6) res l1 l2 l3 l4 l5 l6 y) : PfX8_makes_152 (d + 6) res l1 l2 l3 l4 l5 l6 x := whl_ind _ _ (fun x z => rbfX8_makes_152 d N res l1 l2 l3 l4 l5 l6 x z) N x y h hq
def bfX8_makes_102 (N : Nat) (l1 : Int32) (l2 : Int32) (l3 : Int32) (l4 : Int32) (l5 : Int32) (l6 : Int32) (x : Int32 × St) : Option ((Int32 × St) ⊕ (St)) := (if 4 ≤ x.1 then some (.inr (x.2)) else (if x.1 < 0 ∨ 4 ≤ Int32.toNatClampNeg x.1 then none else (if x.1 < 0 ∨ 32 ≤ Int32.toNatClampNeg x.1 then none else some (.inl ((x.1 + 1), (st_i x.2 147 (Int32.toNatClampNeg x.1) (x.2.1 145 (Int32.toNatClampNeg x.1))))))))
def fX8_makes_102 (N : Nat) (l1 : Int32) (l2 : Int32) (l3 : Int32) (l4 : Int32) (l5 : Int32) (l6 : Int32) (x : Int32 × St) : Option (St) := whl N (bfX8_makes_102 N l1 l2 l3 l4 l5 l6 ) x
set_option maxRecDepth 20000 in
theorem rbfX8_makes_102 (d N : Nat) (res : Option Value × am_S) (l1 : Int32) (l2 : Int32) (l3 : Int32) (l4 : Int32) (l5 : Int32) (l6 : Int32) (x : Int32 × St) (z : (Int32 × St) ⊕ (St)) (h : bfX8_makes_102 N l1 l2 l3 l4 l5 l6 x = some z) (hz : Sum.elim (PfX8_makes_102 (d + 6) res l1 l2 l3 l4 l5 l6 ) (QfX8_makes_102 (d + 6) res l1 l2 l3 l4 l5 l6 ) z) : PfX8_makes_102 (d + 6) res l1 l2 l3 l4 l5 l6 x := by
  unfold bfX8_makes_102 at h
  show ∀ (w7 w9 : Option Value), am_Rn (am_C (d + 6)) (am_ct 147) (am_rk 147) res (102, [some (.ref 128), some (.int l1), some (.int l2), some (.int l3), some (.int l4), some (.int l5), some (.int l6), w7, some (.int x.1), w9], [], am_T0 x.2)
  intro w7 w9
  refine am_Rn.op _ (104, [some (.ref 128), some (.int l1), some (.int l2), some (.int l3), some (.int l4), some (.int l5), some (.int l6), w7, some (.int x.1), w9], [.int x.1], am_T0 x.2) rfl rfl ?_
  refine am_Rn.op _ (105, [some (.ref 128), some (.int l1), some (.int l2), some (.int l3), some (.int l4), some (.int l5), some (.int l6), w7, some (.int x.1), w9], [.int 4, .int x.1], am_T0 x.2) rfl rfl ?_
  refine am_Rn.op _ (if 4 ≤ x.1 then 128 else 108, [some (.ref 128), some (.int l1), some (.int l2), some (.int l3), some (.int l4), some (.int l5), some (.int l6), w7, some (.int x.1), w9], [], am_T0 x.2) rfl rfl ?_
  rcases l2_i h with ⟨hc, h⟩ | ⟨hc, h⟩
  · refine am_Rn.ifT hc ?_
    cases h
    exact hz _ _ _
  · refine am_Rn.ifF hc ?_
    refine am_Rn.op _ (109, [some (.ref 128), some (.int l1), some (.int l2), some (.int l3), some (.int l4), some (.int l5), some (.int l6), w7, some (.int x.1), w9], [.ref 128], am_T0 x.2) rfl rfl ?_
    refine am_Rn.op _ (112, [some (.ref 128), some (.int l1), some (.int l2), some (.int l3), some (.int l4), some (.int l5), some (.int l6), w7, some (.int x.1), w9], [.ref 147], am_T0 x.2) rfl rfl ?_
    refine am_Rn.op _ (114, [some (.ref 128), some (.int l1), some (.int l2), some (.int l3), some (.int l4), some (.int l5), some (.int l6), w7, some (.int x.1), w9], [.int x.1, .ref 147], am_T0 x.2) rfl rfl ?_
    refine am_Rn.op _ (115, [some (.ref 128), some (.int l1), some (.int l2), some (.int l3), some (.int l4), some (.int l5), some (.int l6), w7, some (.int x.1), w9], [.ref 128, .int x.1, .ref 147], am_T0 x.2) rfl rfl ?_
    refine am_Rn.op _ (118, [some (.ref 128), some (.int l1), some (.int l2), some (.int l3), some (.int l4), some (.int l5), some (.int l6), w7, some (.int x.1), w9], [.ref 145, .int x.1, .ref 147], am_T0 x.2) rfl rfl ?_
    refine am_Rn.op _ (120, [some (.ref 128), some (.int l1), some (.int l2), some (.int l3), some (.int l4), some (.int l5), some (.int l6), w7, some (.int x.1), w9], [.int x.1, .ref 145, .int x.1, .ref 147], am_T0 x.2) rfl rfl ?_
    obtain ⟨hb7, h⟩ := l2_n h
    refine am_Rn.iald (n := 4) rfl rfl hb7 ?_
    show am_Rn _ _ _ _ (121, [some (.ref 128), some (.int l1), some (.int l2), some (.int l3), some (.int l4), some (.int l5), some (.int l6), w7, some (.int x.1), w9], [.int (x.2.1 145 (Int32.toNatClampNeg x.1)), .int x.1, .ref 147], am_T0 x.2)
    obtain ⟨hb8, h⟩ := l2_n h
    refine am_Rn.iast (n := 32) rfl rfl hb8 ?_
    show am_Rn _ _ _ _ (122, [some (.ref 128), some (.int l1), some (.int l2), some (.int l3), some (.int l4), some (.int l5), some (.int l6), w7, some (.int x.1), w9], [], am_T0 (st_i x.2 147 (Int32.toNatClampNeg x.1) (x.2.1 145 (Int32.toNatClampNeg x.1))))
    refine am_Rn.op _ (125, [some (.ref 128), some (.int l1), some (.int l2), some (.int l3), some (.int l4), some (.int l5), some (.int l6), w7, some (.int (x.1 + 1)), w9], [], am_T0 (st_i x.2 147 (Int32.toNatClampNeg x.1) (x.2.1 145 (Int32.toNatClampNeg x.1)))) rfl rfl ?_
    refine am_Rn.op _ (102, [some (.ref 128), some (.int l1), some (.int l2), some (.int l3), some (.int l4), some (.int l5), some (.int l6), w7, some (.int (x.1 + 1)), w9], [], am_T0 (st_i x.2 147 (Int32.toNatClampNeg x.1) (x.2.1 145 (Int32.toNatClampNeg x.1)))) rfl rfl ?_
    cases h
    exact hz _ _
theorem rfX8_makes_102 (d N : Nat) (res : Option Value × am_S) (l1 : Int32) (l2 : Int32) (l3 : Int32) (l4 : Int32) (l5 : Int32) (l6 : Int32) (x : Int32 × St) (y : St) (h : fX8_makes_102 N l1 l2 l3 l4 l5 l6 x = some y) (hq : QfX8_makes_102 (d + 6) res l1 l2 l3 l4 l5 l6 y) : PfX8_makes_102 (d + 6) res l1 l2 l3 l4 l5 l6 x := whl_ind _ _ (fun x z => rbfX8_makes_102 d N res l1 l2 l3 l4 l5 l6 x z) N x y h hq
def bfX8_makes_69 (N : Nat) (l1 : Int32) (l2 : Int32) (l3 : Int32) (l4 : Int32) (l5 : Int32) (l6 : Int32) (x : Int32 × St) : Option ((Int32 × St) ⊕ (St)) := (if l4 ≤ x.1 then some (.inr (x.2)) else (fX8_passes N l1 x.1 l5 x.2).bind (fun q9 => (fX8_statement N l1 x.1 0 0 q9).bind (fun q10 => some (.inl (q10.1, q10.2)))))
def fX8_makes_69 (N : Nat) (l1 : Int32) (l2 : Int32) (l3 : Int32) (l4 : Int32) (l5 : Int32) (l6 : Int32) (x : Int32 × St) : Option (St) := whl N (bfX8_makes_69 N l1 l2 l3 l4 l5 l6 ) x
set_option maxRecDepth 20000 in
theorem rbfX8_makes_69 (d N : Nat) (res : Option Value × am_S) (l1 : Int32) (l2 : Int32) (l3 : Int32) (l4 : Int32) (l5 : Int32) (l6 : Int32) (x : Int32 × St) (z : (Int32 × St) ⊕ (St)) (h : bfX8_makes_69 N l1 l2 l3 l4 l5 l6 x = some z) (hz : Sum.elim (PfX8_makes_69 (d + 6) res l1 l2 l3 l4 l5 l6 ) (QfX8_makes_69 (d + 6) res l1 l2 l3 l4 l5 l6 ) z) : PfX8_makes_69 (d + 6) res l1 l2 l3 l4 l5 l6 x := by
  unfold bfX8_makes_69 at h
  show ∀ (w8 w9 : Option Value), am_Rn (am_C (d + 6)) (am_ct 147) (am_rk 147) res (69, [some (.ref 128), some (.int l1), some (.int l2), some (.int l3), some (.int l4), some (.int l5), some (.int l6), some (.int x.1), w8, w9], [], am_T0 x.2)
  intro w8 w9
  refine am_Rn.op _ (71, [some (.ref 128), some (.int l1), some (.int l2), some (.int l3), some (.int l4), some (.int l5), some (.int l6), some (.int x.1), w8, w9], [.int x.1], am_T0 x.2) rfl rfl ?_
  refine am_Rn.op _ (73, [some (.ref 128), some (.int l1), some (.int l2), some (.int l3), some (.int l4), some (.int l5), some (.int l6), some (.int x.1), w8, w9], [.int l4, .int x.1], am_T0 x.2) rfl rfl ?_
  refine am_Rn.op _ (if l4 ≤ x.1 then 99 else 76, [some (.ref 128), some (.int l1), some (.int l2), some (.int l3), some (.int l4), some (.int l5), some (.int l6), some (.int x.1), w8, w9], [], am_T0 x.2) rfl rfl ?_
  rcases l2_i h with ⟨hc, h⟩ | ⟨hc, h⟩
  · refine am_Rn.ifT hc ?_
    cases h
    exact hz _ _ _
  · refine am_Rn.ifF hc ?_
    refine am_Rn.op _ (77, [some (.ref 128), some (.int l1), some (.int l2), some (.int l3), some (.int l4), some (.int l5), some (.int l6), some (.int x.1), w8, w9], [.ref 128], am_T0 x.2) rfl rfl ?_
    refine am_Rn.op _ (78, [some (.ref 128), some (.int l1), some (.int l2), some (.int l3), some (.int l4), some (.int l5), some (.int l6), some (.int x.1), w8, w9], [.int l1, .ref 128], am_T0 x.2) rfl rfl ?_
    refine am_Rn.op _ (80, [some (.ref 128), some (.int l1), some (.int l2), some (.int l3), some (.int l4), some (.int l5), some (.int l6), some (.int x.1), w8, w9], [.int x.1, .int l1, .ref 128], am_T0 x.2) rfl rfl ?_
    refine am_Rn.op _ (82, [some (.ref 128), some (.int l1), some (.int l2), some (.int l3), some (.int l4), some (.int l5), some (.int l6), some (.int x.1), w8, w9], [.int l5, .int x.1, .int l1, .ref 128], am_T0 x.2) rfl rfl ?_
    obtain ⟨q9, hq9, h⟩ := l2_b h
    refine am_Rn.cl _ none (am_T0 q9) rfl rfl (rfX8_passes (d + 0) N l1 x.1 l5 x.2 q9 hq9) ?_
    show am_Rn _ _ _ _ (85, [some (.ref 128), some (.int l1), some (.int l2), some (.int l3), some (.int l4), some (.int l5), some (.int l6), some (.int x.1), w8, w9], [], am_T0 q9)
    refine am_Rn.op _ (86, [some (.ref 128), some (.int l1), some (.int l2), some (.int l3), some (.int l4), some (.int l5), some (.int l6), some (.int x.1), w8, w9], [.ref 128], am_T0 q9) rfl rfl ?_
    refine am_Rn.op _ (87, [some (.ref 128), some (.int l1), some (.int l2), some (.int l3), some (.int l4), some (.int l5), some (.int l6), some (.int x.1), w8, w9], [.int l1, .ref 128], am_T0 q9) rfl rfl ?_
    refine am_Rn.op _ (89, [some (.ref 128), some (.int l1), some (.int l2), some (.int l3), some (.int l4), some (.int l5), some (.int l6), some (.int x.1), w8, w9], [.int x.1, .int l1, .ref 128], am_T0 q9) rfl rfl ?_
    refine am_Rn.op _ (90, [some (.ref 128), some (.int l1), some (.int l2), some (.int l3), some (.int l4), some (.int l5), some (.int l6), some (.int x.1), w8, w9], [.int 0, .int x.1, .int l1, .ref 128], am_T0 q9) rfl rfl ?_
    refine am_Rn.op _ (91, [some (.ref 128), some (.int l1), some (.int l2), some (.int l3), some (.int l4), some (.int l5), some (.int l6), some (.int x.1), w8, w9], [.int 0, .int 0, .int x.1, .int l1, .ref 128], am_T0 q9) rfl rfl ?_
    obtain ⟨q10, hq10, h⟩ := l2_b h
    refine am_Rn.cl _ (some (.int q10.1)) (am_T0 q10.2) rfl rfl (rfX8_statement (d + 1) N l1 x.1 0 0 q9 q10 hq10) ?_
    show am_Rn _ _ _ _ (94, [some (.ref 128), some (.int l1), some (.int l2), some (.int l3), some (.int l4), some (.int l5), some (.int l6), some (.int x.1), w8, w9], [.int q10.1], am_T0 q10.2)
    refine am_Rn.op _ (96, [some (.ref 128), some (.int l1), some (.int l2), some (.int l3), some (.int l4), some (.int l5), some (.int l6), some (.int q10.1), w8, w9], [], am_T0 q10.2) rfl rfl ?_
    refine am_Rn.op _ (69, [some (.ref 128), some (.int l1), some (.int l2), some (.int l3), some (.int l4), some (.int l5), some (.int l6), some (.int q10.1), w8, w9], [], am_T0 q10.2) rfl rfl ?_
    cases h
    exact hz _ _
theorem rfX8_makes_69 (d N : Nat) (res : Option Value × am_S) (l1 : Int32) (l2 : Int32) (l3 : Int32) (l4 : Int32) (l5 : Int32) (l6 : Int32) (x : Int32 × St) (y : St) (h : fX8_makes_69 N l1 l2 l3 l4 l5 l6 x = some y) (hq : QfX8_makes_69 (d + 6) res l1 l2 l3 l4 l5 l6 y) : PfX8_makes_69 (d + 6) res l1 l2 l3 l4 l5 l6 x := whl_ind _ _ (fun x z => rbfX8_makes_69 d N res l1 l2 l3 l4 l5 l6 x z) N x y h hq
def fX8_makes_59 (N : Nat) (l1 : Int32) (l2 : Int32) (l3 : Int32) (l4 : Int32) (l5 : Int32) (l6 : Int32) (l7 : Int32) (s1 : Int32) (s2 : Int32) (S : St) : Option ((Int32 × St) ⊕ (St)) := (if s1 < 0 ∨ 4 ≤ Int32.toNatClampNeg s1 then none else some (.inl ((l7 + 1), (st_i S 145 (Int32.toNatClampNeg s1) s2))))
set_option maxRecDepth 20000 in
theorem rfX8_makes_59 (d N : Nat) (res : Option Value × am_S) (l1 : Int32) (l2 : Int32) (l3 : Int32) (l4 : Int32) (l5 : Int32) (l6 : Int32) (l7 : Int32) (s1 : Int32) (s2 : Int32) (S : St) (z : (Int32 × St) ⊕ (St)) (h : fX8_makes_59 N l1 l2 l3 l4 l5 l6 l7 s1 s2 S = some z) (hz : Sum.elim (PfX8_makes_34 (d + 6) res l1 l2 l3 l4 l5 l6 ) (QfX8_makes_34 (d + 6) res l1 l2 l3 l4 l5 l6 ) z) (w8 : Option Value) (w9 : Option Value) : am_Rn (am_C (d + 6)) (am_ct 147) (am_rk 147) res (59, [some (.ref 128), some (.int l1), some (.int l2), some (.int l3), some (.int l4), some (.int l5), some (.int l6), some (.int l7), w8, w9], [.int s2, .int s1, .ref 145], am_T0 S) := by
  unfold fX8_makes_59 at h
  obtain ⟨hb11, h⟩ := l2_n h
  refine am_Rn.iast (n := 4) rfl rfl hb11 ?_
  show am_Rn _ _ _ _ (60, [some (.ref 128), some (.int l1), some (.int l2), some (.int l3), some (.int l4), some (.int l5), some (.int l6), some (.int l7), w8, w9], [], am_T0 (st_i S 145 (Int32.toNatClampNeg s1) s2))
  refine am_Rn.op _ (63, [some (.ref 128), some (.int l1), some (.int l2), some (.int l3), some (.int l4), some (.int l5), some (.int l6), some (.int (l7 + 1)), w8, w9], [], am_T0 (st_i S 145 (Int32.toNatClampNeg s1) s2)) rfl rfl ?_
  refine am_Rn.op _ (34, [some (.ref 128), some (.int l1), some (.int l2), some (.int l3), some (.int l4), some (.int l5), some (.int l6), some (.int (l7 + 1)), w8, w9], [], am_T0 (st_i S 145 (Int32.toNatClampNeg s1) s2)) rfl rfl ?_
  cases h
  exact hz _ _
def bfX8_makes_34 (N : Nat) (l1 : Int32) (l2 : Int32) (l3 : Int32) (l4 : Int32) (l5 : Int32) (l6 : Int32) (x : Int32 × St) : Option ((Int32 × St) ⊕ (St)) := (if 4 ≤ x.1 then some (.inr (x.2)) else (if x.1 = l6 then fX8_makes_59 N l1 l2 l3 l4 l5 l6 x.1 x.1 0 x.2 else fX8_makes_59 N l1 l2 l3 l4 l5 l6 x.1 x.1 100000 x.2))
def fX8_makes_34 (N : Nat) (l1 : Int32) (l2 : Int32) (l3 : Int32) (l4 : Int32) (l5 : Int32) (l6 : Int32) (x : Int32 × St) : Option (St) := whl N (bfX8_makes_34 N l1 l2 l3 l4 l5 l6 ) x
set_option maxRecDepth 20000 in
theorem rbfX8_makes_34 (d N : Nat) (res : Option Value × am_S) (l1 : Int32) (l2 : Int32) (l3 : Int32) (l4 : Int32) (l5 : Int32) (l6 : Int32) (x : Int32 × St) (z : (Int32 × St) ⊕ (St)) (h : bfX8_makes_34 N l1 l2 l3 l4 l5 l6 x = some z) (hz : Sum.elim (PfX8_makes_34 (d + 6) res l1 l2 l3 l4 l5 l6 ) (QfX8_makes_34 (d + 6) res l1 l2 l3 l4 l5 l6 ) z) : PfX8_makes_34 (d + 6) res l1 l2 l3 l4 l5 l6 x := by
  unfold bfX8_makes_34 at h
  show ∀ (w8 w9 : Option Value), am_Rn (am_C (d + 6)) (am_ct 147) (am_rk 147) res (34, [some (.ref 128), some (.int l1), some (.int l2), some (.int l3), some (.int l4), some (.int l5), some (.int l6), some (.int x.1), w8, w9], [], am_T0 x.2)
  intro w8 w9
  refine am_Rn.op _ (36, [some (.ref 128), some (.int l1), some (.int l2), some (.int l3), some (.int l4), some (.int l5), some (.int l6), some (.int x.1), w8, w9], [.int x.1], am_T0 x.2) rfl rfl ?_
  refine am_Rn.op _ (37, [some (.ref 128), some (.int l1), some (.int l2), some (.int l3), some (.int l4), some (.int l5), some (.int l6), some (.int x.1), w8, w9], [.int 4, .int x.1], am_T0 x.2) rfl rfl ?_
  refine am_Rn.op _ (if 4 ≤ x.1 then 66 else 40, [some (.ref 128), some (.int l1), some (.int l2), some (.int l3), some (.int l4), some (.int l5), some (.int l6), some (.int x.1), w8, w9], [], am_T0 x.2) rfl rfl ?_
  rcases l2_i h with ⟨hc, h⟩ | ⟨hc, h⟩
  · refine am_Rn.ifT hc ?_
    cases h
    exact hz _ _ _
  · refine am_Rn.ifF hc ?_
    refine am_Rn.op _ (41, [some (.ref 128), some (.int l1), some (.int l2), some (.int l3), some (.int l4), some (.int l5), some (.int l6), some (.int x.1), w8, w9], [.ref 128], am_T0 x.2) rfl rfl ?_
    refine am_Rn.op _ (44, [some (.ref 128), some (.int l1), some (.int l2), some (.int l3), some (.int l4), some (.int l5), some (.int l6), some (.int x.1), w8, w9], [.ref 145], am_T0 x.2) rfl rfl ?_
    refine am_Rn.op _ (46, [some (.ref 128), some (.int l1), some (.int l2), some (.int l3), some (.int l4), some (.int l5), some (.int l6), some (.int x.1), w8, w9], [.int x.1, .ref 145], am_T0 x.2) rfl rfl ?_
    refine am_Rn.op _ (48, [some (.ref 128), some (.int l1), some (.int l2), some (.int l3), some (.int l4), some (.int l5), some (.int l6), some (.int x.1), w8, w9], [.int x.1, .int x.1, .ref 145], am_T0 x.2) rfl rfl ?_
    refine am_Rn.op _ (50, [some (.ref 128), some (.int l1), some (.int l2), some (.int l3), some (.int l4), some (.int l5), some (.int l6), some (.int x.1), w8, w9], [.int l6, .int x.1, .int x.1, .ref 145], am_T0 x.2) rfl rfl ?_
    refine am_Rn.op _ (if x.1 = l6 then 53 else 57, [some (.ref 128), some (.int l1), some (.int l2), some (.int l3), some (.int l4), some (.int l5), some (.int l6), some (.int x.1), w8, w9], [.int x.1, .ref 145], am_T0 x.2) rfl rfl ?_
    rcases l2_i h with ⟨hc, h⟩ | ⟨hc, h⟩
    · refine am_Rn.ifT hc ?_
      refine am_Rn.op _ (54, [some (.ref 128), some (.int l1), some (.int l2), some (.int l3), some (.int l4), some (.int l5), some (.int l6), some (.int x.1), w8, w9], [.int 0, .int x.1, .ref 145], am_T0 x.2) rfl rfl ?_
      refine am_Rn.op _ (59, [some (.ref 128), some (.int l1), some (.int l2), some (.int l3), some (.int l4), some (.int l5), some (.int l6), some (.int x.1), w8, w9], [.int 0, .int x.1, .ref 145], am_T0 x.2) rfl rfl ?_
      exact rfX8_makes_59 d N _ l1 l2 l3 l4 l5 l6 x.1 x.1 0 x.2 _ h hz _ _
    · refine am_Rn.ifF hc ?_
      refine am_Rn.op _ (59, [some (.ref 128), some (.int l1), some (.int l2), some (.int l3), some (.int l4), some (.int l5), some (.int l6), some (.int x.1), w8, w9], [.int 100000, .int x.1, .ref 145], am_T0 x.2) rfl rfl ?_
      exact rfX8_makes_59 d N _ l1 l2 l3 l4 l5 l6 x.1 x.1 100000 x.2 _ h hz _ _
theorem rfX8_makes_34 (d N : Nat) (res : Option Value × am_S) (l1 : Int32) (l2 : Int32) (l3 : Int32) (l4 : Int32) (l5 : Int32) (l6 : Int32) (x : Int32 × St) (y : St) (h : fX8_makes_34 N l1 l2 l3 l4 l5 l6 x = some y) (hq : QfX8_makes_34 (d + 6) res l1 l2 l3 l4 l5 l6 y) : PfX8_makes_34 (d + 6) res l1 l2 l3 l4 l5 l6 x := whl_ind _ _ (fun x z => rbfX8_makes_34 d N res l1 l2 l3 l4 l5 l6 x z) N x y h hq
def bfX8_makes_13 (N : Nat) (l1 : Int32) (l2 : Int32) (l3 : Int32) (l4 : Int32) (l5 : Int32) (x : Int32 × St) : Option ((Int32 × St) ⊕ (St)) := (if 4 ≤ x.1 then some (.inr (x.2)) else (fX8_clears N 147 x.2).bind (fun q12 => (fX8_makes_34 N l1 l2 l3 l4 l5 x.1 (0, (st_i q12 128 28 0))).bind (fun y13 => (fX8_makes_69 N l1 l2 l3 l4 l5 x.1 (l3, y13)).bind (fun y17 => (fX8_makes_102 N l1 l2 l3 l4 l5 x.1 (0, y17)).bind (fun y21 => (if ((((l2 * 7) + l5) * 4) + x.1) < 0 ∨ 1708 ≤ Int32.toNatClampNeg ((((l2 * 7) + l5) * 4) + x.1) then none else (fX8_makes_152 N l1 l2 l3 l4 l5 x.1 (0, (st_i y21 140 (Int32.toNatClampNeg ((((l2 * 7) + l5) * 4) + x.1)) ((y21.1 128 28) &&& 1)))).bind (fun y26 => some (.inl ((x.1 + 1), y26)))))))))
def fX8_makes_13 (N : Nat) (l1 : Int32) (l2 : Int32) (l3 : Int32) (l4 : Int32) (l5 : Int32) (x : Int32 × St) : Option (St) := whl N (bfX8_makes_13 N l1 l2 l3 l4 l5 ) x
set_option maxRecDepth 20000 in
theorem rbfX8_makes_13 (d N : Nat) (res : Option Value × am_S) (l1 : Int32) (l2 : Int32) (l3 : Int32) (l4 : Int32) (l5 : Int32) (x : Int32 × St) (z : (Int32 × St) ⊕ (St)) (h : bfX8_makes_13 N l1 l2 l3 l4 l5 x = some z) (hz : Sum.elim (PfX8_makes_13 (d + 6) res l1 l2 l3 l4 l5 ) (QfX8_makes_13 (d + 6) res l1 l2 l3 l4 l5 ) z) : PfX8_makes_13 (d + 6) res l1 l2 l3 l4 l5 x := by
  unfold bfX8_makes_13 at h
  show ∀ (w7 w8 w9 : Option Value), am_Rn (am_C (d + 6)) (am_ct 147) (am_rk 147) res (13, [some (.ref 128), some (.int l1), some (.int l2), some (.int l3), some (.int l4), some (.int l5), some (.int x.1), w7, w8, w9], [], am_T0 x.2)
  intro w7 w8 w9
  refine am_Rn.op _ (15, [some (.ref 128), some (.int l1), some (.int l2), some (.int l3), some (.int l4), some (.int l5), some (.int x.1), w7, w8, w9], [.int x.1], am_T0 x.2) rfl rfl ?_
  refine am_Rn.op _ (16, [some (.ref 128), some (.int l1), some (.int l2), some (.int l3), some (.int l4), some (.int l5), some (.int x.1), w7, w8, w9], [.int 4, .int x.1], am_T0 x.2) rfl rfl ?_
  refine am_Rn.op _ (if 4 ≤ x.1 then 225 else 19, [some (.ref 128), some (.int l1), some (.int l2), some (.int l3), some (.int l4), some (.int l5), some (.int x.1), w7, w8, w9], [], am_T0 x.2) rfl rfl ?_
  rcases l2_i h with ⟨hc, h⟩ | ⟨hc, h⟩
  · refine am_Rn.ifT hc ?_
    cases h
    exact hz _ _ _ _
  · refine am_Rn.ifF hc ?_
    refine am_Rn.op _ (20, [some (.ref 128), some (.int l1), some (.int l2), some (.int l3), some (.int l4), some (.int l5), some (.int x.1), w7, w8, w9], [.ref 128], am_T0 x.2) rfl rfl ?_
    refine am_Rn.op _ (23, [some (.ref 128), some (.int l1), some (.int l2), some (.int l3), some (.int l4), some (.int l5), some (.int x.1), w7, w8, w9], [.ref 147], am_T0 x.2) rfl rfl ?_
    obtain ⟨q12, hq12, h⟩ := l2_b h
    refine am_Rn.cl _ none (am_T0 q12) rfl rfl (rfX8_clears (d + 5) N 147 rfl x.2 q12 hq12) ?_
    show am_Rn _ _ _ _ (26, [some (.ref 128), some (.int l1), some (.int l2), some (.int l3), some (.int l4), some (.int l5), some (.int x.1), w7, w8, w9], [], am_T0 q12)
    refine am_Rn.op _ (27, [some (.ref 128), some (.int l1), some (.int l2), some (.int l3), some (.int l4), some (.int l5), some (.int x.1), w7, w8, w9], [.ref 128], am_T0 q12) rfl rfl ?_
    refine am_Rn.op _ (28, [some (.ref 128), some (.int l1), some (.int l2), some (.int l3), some (.int l4), some (.int l5), some (.int x.1), w7, w8, w9], [.int 0, .ref 128], am_T0 q12) rfl rfl ?_
    refine am_Rn.op _ (31, [some (.ref 128), some (.int l1), some (.int l2), some (.int l3), some (.int l4), some (.int l5), some (.int x.1), w7, w8, w9], [], am_T0 (st_i q12 128 28 0)) rfl rfl ?_
    refine am_Rn.op _ (32, [some (.ref 128), some (.int l1), some (.int l2), some (.int l3), some (.int l4), some (.int l5), some (.int x.1), w7, w8, w9], [.int 0], am_T0 (st_i q12 128 28 0)) rfl rfl ?_
    refine am_Rn.op _ (34, [some (.ref 128), some (.int l1), some (.int l2), some (.int l3), some (.int l4), some (.int l5), some (.int x.1), some (.int 0), w8, w9], [], am_T0 (st_i q12 128 28 0)) rfl rfl ?_
    obtain ⟨y13, hy13, h⟩ := l2_b h
    refine rfX8_makes_34 d N _ l1 l2 l3 l4 l5 x.1 (0, (st_i q12 128 28 0)) y13 hy13 ?_ _ _
    intro w14 w15 w16
    show am_Rn _ _ _ _ (66, [some (.ref 128), some (.int l1), some (.int l2), some (.int l3), some (.int l4), some (.int l5), some (.int x.1), w14, w15, w16], [], am_T0 y13)
    refine am_Rn.op _ (67, [some (.ref 128), some (.int l1), some (.int l2), some (.int l3), some (.int l4), some (.int l5), some (.int x.1), w14, w15, w16], [.int l3], am_T0 y13) rfl rfl ?_
    refine am_Rn.op _ (69, [some (.ref 128), some (.int l1), some (.int l2), some (.int l3), some (.int l4), some (.int l5), some (.int x.1), some (.int l3), w15, w16], [], am_T0 y13) rfl rfl ?_
    obtain ⟨y17, hy17, h⟩ := l2_b h
    refine rfX8_makes_69 d N _ l1 l2 l3 l4 l5 x.1 (l3, y13) y17 hy17 ?_ _ _
    intro w18 w19 w20
    show am_Rn _ _ _ _ (99, [some (.ref 128), some (.int l1), some (.int l2), some (.int l3), some (.int l4), some (.int l5), some (.int x.1), w18, w19, w20], [], am_T0 y17)
    refine am_Rn.op _ (100, [some (.ref 128), some (.int l1), some (.int l2), some (.int l3), some (.int l4), some (.int l5), some (.int x.1), w18, w19, w20], [.int 0], am_T0 y17) rfl rfl ?_
    refine am_Rn.op _ (102, [some (.ref 128), some (.int l1), some (.int l2), some (.int l3), some (.int l4), some (.int l5), some (.int x.1), w18, some (.int 0), w20], [], am_T0 y17) rfl rfl ?_
    obtain ⟨y21, hy21, h⟩ := l2_b h
    refine rfX8_makes_102 d N _ l1 l2 l3 l4 l5 x.1 (0, y17) y21 hy21 ?_ _ _
    intro w22 w23 w24
    show am_Rn _ _ _ _ (128, [some (.ref 128), some (.int l1), some (.int l2), some (.int l3), some (.int l4), some (.int l5), some (.int x.1), w22, w23, w24], [], am_T0 y21)
    refine am_Rn.op _ (129, [some (.ref 128), some (.int l1), some (.int l2), some (.int l3), some (.int l4), some (.int l5), some (.int x.1), w22, w23, w24], [.ref 128], am_T0 y21) rfl rfl ?_
    refine am_Rn.op _ (132, [some (.ref 128), some (.int l1), some (.int l2), some (.int l3), some (.int l4), some (.int l5), some (.int x.1), w22, w23, w24], [.ref 140], am_T0 y21) rfl rfl ?_
    refine am_Rn.op _ (133, [some (.ref 128), some (.int l1), some (.int l2), some (.int l3), some (.int l4), some (.int l5), some (.int x.1), w22, w23, w24], [.int l2, .ref 140], am_T0 y21) rfl rfl ?_
    refine am_Rn.op _ (135, [some (.ref 128), some (.int l1), some (.int l2), some (.int l3), some (.int l4), some (.int l5), some (.int x.1), w22, w23, w24], [.int 7, .int l2, .ref 140], am_T0 y21) rfl rfl ?_
    refine am_Rn.op _ (136, [some (.ref 128), some (.int l1), some (.int l2), some (.int l3), some (.int l4), some (.int l5), some (.int x.1), w22, w23, w24], [.int (l2 * 7), .ref 140], am_T0 y21) rfl rfl ?_
    refine am_Rn.op _ (138, [some (.ref 128), some (.int l1), some (.int l2), some (.int l3), some (.int l4), some (.int l5), some (.int x.1), w22, w23, w24], [.int l5, .int (l2 * 7), .ref 140], am_T0 y21) rfl rfl ?_
    refine am_Rn.op _ (139, [some (.ref 128), some (.int l1), some (.int l2), some (.int l3), some (.int l4), some (.int l5), some (.int x.1), w22, w23, w24], [.int ((l2 * 7) + l5), .ref 140], am_T0 y21) rfl rfl ?_
    refine am_Rn.op _ (140, [some (.ref 128), some (.int l1), some (.int l2), some (.int l3), some (.int l4), some (.int l5), some (.int x.1), w22, w23, w24], [.int 4, .int ((l2 * 7) + l5), .ref 140], am_T0 y21) rfl rfl ?_
    refine am_Rn.op _ (141, [some (.ref 128), some (.int l1), some (.int l2), some (.int l3), some (.int l4), some (.int l5), some (.int x.1), w22, w23, w24], [.int (((l2 * 7) + l5) * 4), .ref 140], am_T0 y21) rfl rfl ?_
    refine am_Rn.op _ (143, [some (.ref 128), some (.int l1), some (.int l2), some (.int l3), some (.int l4), some (.int l5), some (.int x.1), w22, w23, w24], [.int x.1, .int (((l2 * 7) + l5) * 4), .ref 140], am_T0 y21) rfl rfl ?_
    refine am_Rn.op _ (144, [some (.ref 128), some (.int l1), some (.int l2), some (.int l3), some (.int l4), some (.int l5), some (.int x.1), w22, w23, w24], [.int ((((l2 * 7) + l5) * 4) + x.1), .ref 140], am_T0 y21) rfl rfl ?_
    refine am_Rn.op _ (145, [some (.ref 128), some (.int l1), some (.int l2), some (.int l3), some (.int l4), some (.int l5), some (.int x.1), w22, w23, w24], [.ref 128, .int ((((l2 * 7) + l5) * 4) + x.1), .ref 140], am_T0 y21) rfl rfl ?_
    refine am_Rn.op _ (148, [some (.ref 128), some (.int l1), some (.int l2), some (.int l3), some (.int l4), some (.int l5), some (.int x.1), w22, w23, w24], [.int (y21.1 128 28), .int ((((l2 * 7) + l5) * 4) + x.1), .ref 140], am_T0 y21) rfl rfl ?_
    obtain ⟨hb25, h⟩ := l2_n h
    refine am_Rn.bast2 (n := 1708) rfl rfl hb25 ?_
    show am_Rn _ _ _ _ (149, [some (.ref 128), some (.int l1), some (.int l2), some (.int l3), some (.int l4), some (.int l5), some (.int x.1), w22, w23, w24], [], am_T0 (st_i y21 140 (Int32.toNatClampNeg ((((l2 * 7) + l5) * 4) + x.1)) ((y21.1 128 28) &&& 1)))
    refine am_Rn.op _ (150, [some (.ref 128), some (.int l1), some (.int l2), some (.int l3), some (.int l4), some (.int l5), some (.int x.1), w22, w23, w24], [.int 0], am_T0 (st_i y21 140 (Int32.toNatClampNeg ((((l2 * 7) + l5) * 4) + x.1)) ((y21.1 128 28) &&& 1))) rfl rfl ?_
    refine am_Rn.op _ (152, [some (.ref 128), some (.int l1), some (.int l2), some (.int l3), some (.int l4), some (.int l5), some (.int x.1), w22, some (.int 0), w24], [], am_T0 (st_i y21 140 (Int32.toNatClampNeg ((((l2 * 7) + l5) * 4) + x.1)) ((y21.1 128 28) &&& 1))) rfl rfl ?_
    obtain ⟨y26, hy26, h⟩ := l2_b h
    refine rfX8_makes_152 d N _ l1 l2 l3 l4 l5 x.1 (0, (st_i y21 140 (Int32.toNatClampNeg ((((l2 * 7) + l5) * 4) + x.1)) ((y21.1 128 28) &&& 1))) y26 hy26 ?_ _ _
    intro w27 w28 w29
    show am_Rn _ _ _ _ (219, [some (.ref 128), some (.int l1), some (.int l2), some (.int l3), some (.int l4), some (.int l5), some (.int x.1), w27, w28, w29], [], am_T0 y26)
    refine am_Rn.op _ (222, [some (.ref 128), some (.int l1), some (.int l2), some (.int l3), some (.int l4), some (.int l5), some (.int (x.1 + 1)), w27, w28, w29], [], am_T0 y26) rfl rfl ?_
    refine am_Rn.op _ (13, [some (.ref 128), some (.int l1), some (.int l2), some (.int l3), some (.int l4), some (.int l5), some (.int (x.1 + 1)), w27, w28, w29], [], am_T0 y26) rfl rfl ?_
    cases h
    exact hz _ _ _
theorem rfX8_makes_13 (d N : Nat) (res : Option Value × am_S) (l1 : Int32) (l2 : Int32) (l3 : Int32) (l4 : Int32) (l5 : Int32) (x : Int32 × St) (y : St) (h : fX8_makes_13 N l1 l2 l3 l4 l5 x = some y) (hq : QfX8_makes_13 (d + 6) res l1 l2 l3 l4 l5 y) : PfX8_makes_13 (d + 6) res l1 l2 l3 l4 l5 x := whl_ind _ _ (fun x z => rbfX8_makes_13 d N res l1 l2 l3 l4 l5 x z) N x y h hq
def bfX8_makes_3 (N : Nat) (l1 : Int32) (l2 : Int32) (l3 : Int32) (l4 : Int32) (x : Int32 × St) : Option ((Int32 × St) ⊕ (St)) := (if 6 < x.1 then some (.inr x.2) else (fX8_makes_13 N l1 l2 l3 l4 x.1 (0, x.2)).bind (fun y30 => some (.inl ((x.1 + 1), y30))))
def fX8_makes_3 (N : Nat) (l1 : Int32) (l2 : Int32) (l3 : Int32) (l4 : Int32) (x : Int32 × St) : Option (St) := whl N (bfX8_makes_3 N l1 l2 l3 l4 ) x
set_option maxRecDepth 20000 in
theorem rbfX8_makes_3 (d N : Nat) (res : Option Value × am_S) (l1 : Int32) (l2 : Int32) (l3 : Int32) (l4 : Int32) (x : Int32 × St) (z : (Int32 × St) ⊕ (St)) (h : bfX8_makes_3 N l1 l2 l3 l4 x = some z) (hz : Sum.elim (PfX8_makes_3 (d + 6) res l1 l2 l3 l4 ) (QfX8_makes_3 (d + 6) res l1 l2 l3 l4 ) z) : PfX8_makes_3 (d + 6) res l1 l2 l3 l4 x := by
  unfold bfX8_makes_3 at h
  show ∀ (w6 w7 w8 w9 : Option Value), am_Rn (am_C (d + 6)) (am_ct 147) (am_rk 147) res (3, [some (.ref 128), some (.int l1), some (.int l2), some (.int l3), some (.int l4), some (.int x.1), w6, w7, w8, w9], [], am_T0 x.2)
  intro w6 w7 w8 w9
  refine am_Rn.op _ (5, [some (.ref 128), some (.int l1), some (.int l2), some (.int l3), some (.int l4), some (.int x.1), w6, w7, w8, w9], [.int x.1], am_T0 x.2) rfl rfl ?_
  refine am_Rn.op _ (7, [some (.ref 128), some (.int l1), some (.int l2), some (.int l3), some (.int l4), some (.int x.1), w6, w7, w8, w9], [.int 6, .int x.1], am_T0 x.2) rfl rfl ?_
  refine am_Rn.op _ (if 6 < x.1 then 231 else 10, [some (.ref 128), some (.int l1), some (.int l2), some (.int l3), some (.int l4), some (.int x.1), w6, w7, w8, w9], [], am_T0 x.2) rfl rfl ?_
  rcases l2_i h with ⟨hc, h⟩ | ⟨hc, h⟩
  · refine am_Rn.ifT hc ?_
    cases h
    exact am_Rn.rt2 _ rfl rfl hz
  · refine am_Rn.ifF hc ?_
    refine am_Rn.op _ (11, [some (.ref 128), some (.int l1), some (.int l2), some (.int l3), some (.int l4), some (.int x.1), w6, w7, w8, w9], [.int 0], am_T0 x.2) rfl rfl ?_
    refine am_Rn.op _ (13, [some (.ref 128), some (.int l1), some (.int l2), some (.int l3), some (.int l4), some (.int x.1), some (.int 0), w7, w8, w9], [], am_T0 x.2) rfl rfl ?_
    obtain ⟨y30, hy30, h⟩ := l2_b h
    refine rfX8_makes_13 d N _ l1 l2 l3 l4 x.1 (0, x.2) y30 hy30 ?_ _ _ _
    intro w31 w32 w33 w34
    show am_Rn _ _ _ _ (225, [some (.ref 128), some (.int l1), some (.int l2), some (.int l3), some (.int l4), some (.int x.1), w31, w32, w33, w34], [], am_T0 y30)
    refine am_Rn.op _ (228, [some (.ref 128), some (.int l1), some (.int l2), some (.int l3), some (.int l4), some (.int (x.1 + 1)), w31, w32, w33, w34], [], am_T0 y30) rfl rfl ?_
    refine am_Rn.op _ (3, [some (.ref 128), some (.int l1), some (.int l2), some (.int l3), some (.int l4), some (.int (x.1 + 1)), w31, w32, w33, w34], [], am_T0 y30) rfl rfl ?_
    cases h
    exact hz _ _ _ _
theorem rfX8_makes_3 (d N : Nat) (res : Option Value × am_S) (l1 : Int32) (l2 : Int32) (l3 : Int32) (l4 : Int32) (x : Int32 × St) (y : St) (h : fX8_makes_3 N l1 l2 l3 l4 x = some y) (hq : QfX8_makes_3 (d + 6) res l1 l2 l3 l4 y) : PfX8_makes_3 (d + 6) res l1 l2 l3 l4 x := whl_ind _ _ (fun x z => rbfX8_makes_3 d N res l1 l2 l3 l4 x z) N x y h hq
def fX8_makes (N : Nat) (l1 : Int32) (l2 : Int32) (l3 : Int32) (l4 : Int32) (S : St) : Option St := (fX8_makes_3 N l1 l2 l3 l4 (0, S)).bind (fun y35 => some y35)
set_option maxRecDepth 20000 in
theorem rfX8_makes (d N : Nat) (l1 : Int32) (l2 : Int32) (l3 : Int32) (l4 : Int32) (S : St) (z : St) (h : fX8_makes N l1 l2 l3 l4 S = some z) : am_C (d + 7) 147 [.ref 128, .int l1, .int l2, .int l3, .int l4] (am_T0 S) (none, am_T0 z) := by
  unfold fX8_makes at h
  show am_Rn (am_C (d + 6)) (am_ct 147) (am_rk 147) (none, am_T0 z) (0, [some (.ref 128), some (.int l1), some (.int l2), some (.int l3), some (.int l4), none, none, none, none, none], [], am_T0 S)
  refine am_Rn.op _ (1, [some (.ref 128), some (.int l1), some (.int l2), some (.int l3), some (.int l4), none, none, none, none, none], [.int 0], am_T0 S) rfl rfl ?_
  refine am_Rn.op _ (3, [some (.ref 128), some (.int l1), some (.int l2), some (.int l3), some (.int l4), some (.int 0), none, none, none, none], [], am_T0 S) rfl rfl ?_
  obtain ⟨y35, hy35, h⟩ := l2_b h
  refine rfX8_makes_3 d N _ l1 l2 l3 l4 (0, S) y35 hy35 ?_ _ _ _ _
  cases h
  exact rfl
-- X8_goesThrough
def PfX8_goesThrough_9 (d : Nat) (res : Option Value × am_S) (l1 : Int32) (x : Int32 × St) : Prop := am_Rn (am_C d) (am_ct 148) (am_rk 148) res (9, [some (.ref 128), some (.int l1), some (.int x.1)], [], am_T0 x.2)
def QfX8_goesThrough_9 (d : Nat) (res : Option Value × am_S) (l1 : Int32) (y : St) : Prop := res = (none, am_T0 y)
def fX8_goesThrough_41 (N : Nat) (l1 : Int32) (l2 : Int32) (S : St) : Option ((Int32 × St) ⊕ (St)) := some (.inl ((l2 + (-1)), S))
set_option maxRecDepth 20000 in
theorem rfX8_goesThrough_41 (d N : Nat) (res : Option Value × am_S) (l1 : Int32) (l2 : Int32) (S : St) (z : (Int32 × St) ⊕ (St)) (h : fX8_goesThrough_41 N l1 l2 S = some z) (hz : Sum.elim (PfX8_goesThrough_9 (d + 7) res l1 ) (QfX8_goesThrough_9 (d + 7) res l1 ) z) : am_Rn (am_C (d + 7)) (am_ct 148) (am_rk 148) res (41, [some (.ref 128), some (.int l1), some (.int l2)], [], am_T0 S) := by
  unfold fX8_goesThrough_41 at h
  refine am_Rn.op _ (44, [some (.ref 128), some (.int l1), some (.int (l2 + (-1)))], [], am_T0 S) rfl rfl ?_
  refine am_Rn.op _ (9, [some (.ref 128), some (.int l1), some (.int (l2 + (-1)))], [], am_T0 S) rfl rfl ?_
  cases h
  exact hz 
def bfX8_goesThrough_9 (N : Nat) (l1 : Int32) (x : Int32 × St) : Option ((Int32 × St) ⊕ (St)) := (if x.1 < 0 then (if l1 < 0 ∨ 8 ≤ Int32.toNatClampNeg l1 then none else (fX8_makes N l1 0 0 (x.2.1 133 (Int32.toNatClampNeg l1)) x.2).bind (fun q2 => some (.inr q2))) else (fX8_signOf N l1 x.1 x.2).bind (fun q3 => (if q3.1 = 123 then (fX8_shutOf N l1 x.1 q3.2).bind (fun q4 => (fX8_makes N l1 (x.1 + 1) (x.1 + 1) q4.1 q4.2).bind (fun q5 => fX8_goesThrough_41 N l1 x.1 q5)) else fX8_goesThrough_41 N l1 x.1 q3.2)))
def fX8_goesThrough_9 (N : Nat) (l1 : Int32) (x : Int32 × St) : Option (St) := whl N (bfX8_goesThrough_9 N l1 ) x
set_option maxRecDepth 20000 in
theorem rbfX8_goesThrough_9 (d N : Nat) (res : Option Value × am_S) (l1 : Int32) (x : Int32 × St) (z : (Int32 × St) ⊕ (St)) (h : bfX8_goesThrough_9 N l1 x = some z) (hz : Sum.elim (PfX8_goesThrough_9 (d + 7) res l1 ) (QfX8_goesThrough_9 (d + 7) res l1 ) z) : PfX8_goesThrough_9 (d + 7) res l1 x := by
  unfold bfX8_goesThrough_9 at h
  show am_Rn (am_C (d + 7)) (am_ct 148) (am_rk 148) res (9, [some (.ref 128), some (.int l1), some (.int x.1)], [], am_T0 x.2)
  refine am_Rn.op _ (10, [some (.ref 128), some (.int l1), some (.int x.1)], [.int x.1], am_T0 x.2) rfl rfl ?_
  refine am_Rn.op _ (if x.1 < 0 then 47 else 13, [some (.ref 128), some (.int l1), some (.int x.1)], [], am_T0 x.2) rfl rfl ?_
  rcases l2_i h with ⟨hc, h⟩ | ⟨hc, h⟩
  · refine am_Rn.ifT hc ?_
    refine am_Rn.op _ (48, [some (.ref 128), some (.int l1), some (.int x.1)], [.ref 128], am_T0 x.2) rfl rfl ?_
    refine am_Rn.op _ (49, [some (.ref 128), some (.int l1), some (.int x.1)], [.int l1, .ref 128], am_T0 x.2) rfl rfl ?_
    refine am_Rn.op _ (50, [some (.ref 128), some (.int l1), some (.int x.1)], [.int 0, .int l1, .ref 128], am_T0 x.2) rfl rfl ?_
    refine am_Rn.op _ (51, [some (.ref 128), some (.int l1), some (.int x.1)], [.int 0, .int 0, .int l1, .ref 128], am_T0 x.2) rfl rfl ?_
    refine am_Rn.op _ (52, [some (.ref 128), some (.int l1), some (.int x.1)], [.ref 128, .int 0, .int 0, .int l1, .ref 128], am_T0 x.2) rfl rfl ?_
    refine am_Rn.op _ (55, [some (.ref 128), some (.int l1), some (.int x.1)], [.ref 133, .int 0, .int 0, .int l1, .ref 128], am_T0 x.2) rfl rfl ?_
    refine am_Rn.op _ (56, [some (.ref 128), some (.int l1), some (.int x.1)], [.int l1, .ref 133, .int 0, .int 0, .int l1, .ref 128], am_T0 x.2) rfl rfl ?_
    obtain ⟨hb1, h⟩ := l2_n h
    refine am_Rn.iald (n := 8) rfl rfl hb1 ?_
    show am_Rn _ _ _ _ (57, [some (.ref 128), some (.int l1), some (.int x.1)], [.int (x.2.1 133 (Int32.toNatClampNeg l1)), .int 0, .int 0, .int l1, .ref 128], am_T0 x.2)
    obtain ⟨q2, hq2, h⟩ := l2_b h
    refine am_Rn.cl _ none (am_T0 q2) rfl rfl (rfX8_makes (d + 0) N l1 0 0 (x.2.1 133 (Int32.toNatClampNeg l1)) x.2 q2 hq2) ?_
    show am_Rn _ _ _ _ (60, [some (.ref 128), some (.int l1), some (.int x.1)], [], am_T0 q2)
    cases h
    exact am_Rn.rt2 _ rfl rfl hz
  · refine am_Rn.ifF hc ?_
    refine am_Rn.op _ (14, [some (.ref 128), some (.int l1), some (.int x.1)], [.ref 128], am_T0 x.2) rfl rfl ?_
    refine am_Rn.op _ (15, [some (.ref 128), some (.int l1), some (.int x.1)], [.int l1, .ref 128], am_T0 x.2) rfl rfl ?_
    refine am_Rn.op _ (16, [some (.ref 128), some (.int l1), some (.int x.1)], [.int x.1, .int l1, .ref 128], am_T0 x.2) rfl rfl ?_
    obtain ⟨q3, hq3, h⟩ := l2_b h
    refine am_Rn.cl _ (some (.int q3.1)) (am_T0 q3.2) rfl rfl (rfX8_signOf (d + 6) N l1 x.1 x.2 q3 hq3) ?_
    show am_Rn _ _ _ _ (19, [some (.ref 128), some (.int l1), some (.int x.1)], [.int q3.1], am_T0 q3.2)
    refine am_Rn.op _ (21, [some (.ref 128), some (.int l1), some (.int x.1)], [.int 123, .int q3.1], am_T0 q3.2) rfl rfl ?_
    refine am_Rn.op _ (if q3.1 = 123 then 24 else 41, [some (.ref 128), some (.int l1), some (.int x.1)], [], am_T0 q3.2) rfl rfl ?_
    rcases l2_i h with ⟨hc, h⟩ | ⟨hc, h⟩
    · refine am_Rn.ifT hc ?_
      refine am_Rn.op _ (25, [some (.ref 128), some (.int l1), some (.int x.1)], [.ref 128], am_T0 q3.2) rfl rfl ?_
      refine am_Rn.op _ (26, [some (.ref 128), some (.int l1), some (.int x.1)], [.int l1, .ref 128], am_T0 q3.2) rfl rfl ?_
      refine am_Rn.op _ (27, [some (.ref 128), some (.int l1), some (.int x.1)], [.int x.1, .int l1, .ref 128], am_T0 q3.2) rfl rfl ?_
      refine am_Rn.op _ (28, [some (.ref 128), some (.int l1), some (.int x.1)], [.int 1, .int x.1, .int l1, .ref 128], am_T0 q3.2) rfl rfl ?_
      refine am_Rn.op _ (29, [some (.ref 128), some (.int l1), some (.int x.1)], [.int (x.1 + 1), .int l1, .ref 128], am_T0 q3.2) rfl rfl ?_
      refine am_Rn.op _ (30, [some (.ref 128), some (.int l1), some (.int x.1)], [.int x.1, .int (x.1 + 1), .int l1, .ref 128], am_T0 q3.2) rfl rfl ?_
      refine am_Rn.op _ (31, [some (.ref 128), some (.int l1), some (.int x.1)], [.int 1, .int x.1, .int (x.1 + 1), .int l1, .ref 128], am_T0 q3.2) rfl rfl ?_
      refine am_Rn.op _ (32, [some (.ref 128), some (.int l1), some (.int x.1)], [.int (x.1 + 1), .int (x.1 + 1), .int l1, .ref 128], am_T0 q3.2) rfl rfl ?_
      refine am_Rn.op _ (33, [some (.ref 128), some (.int l1), some (.int x.1)], [.ref 128, .int (x.1 + 1), .int (x.1 + 1), .int l1, .ref 128], am_T0 q3.2) rfl rfl ?_
      refine am_Rn.op _ (34, [some (.ref 128), some (.int l1), some (.int x.1)], [.int l1, .ref 128, .int (x.1 + 1), .int (x.1 + 1), .int l1, .ref 128], am_T0 q3.2) rfl rfl ?_
      refine am_Rn.op _ (35, [some (.ref 128), some (.int l1), some (.int x.1)], [.int x.1, .int l1, .ref 128, .int (x.1 + 1), .int (x.1 + 1), .int l1, .ref 128], am_T0 q3.2) rfl rfl ?_
      obtain ⟨q4, hq4, h⟩ := l2_b h
      refine am_Rn.cl _ (some (.int q4.1)) (am_T0 q4.2) rfl rfl (rfX8_shutOf (d + 6) N l1 x.1 q3.2 q4 hq4) ?_
      show am_Rn _ _ _ _ (38, [some (.ref 128), some (.int l1), some (.int x.1)], [.int q4.1, .int (x.1 + 1), .int (x.1 + 1), .int l1, .ref 128], am_T0 q4.2)
      obtain ⟨q5, hq5, h⟩ := l2_b h
      refine am_Rn.cl _ none (am_T0 q5) rfl rfl (rfX8_makes (d + 0) N l1 (x.1 + 1) (x.1 + 1) q4.1 q4.2 q5 hq5) ?_
      show am_Rn _ _ _ _ (41, [some (.ref 128), some (.int l1), some (.int x.1)], [], am_T0 q5)
      exact rfX8_goesThrough_41 d N _ l1 x.1 q5 _ h hz 
    · refine am_Rn.ifF hc ?_
      exact rfX8_goesThrough_41 d N _ l1 x.1 q3.2 _ h hz 
theorem rfX8_goesThrough_9 (d N : Nat) (res : Option Value × am_S) (l1 : Int32) (x : Int32 × St) (y : St) (h : fX8_goesThrough_9 N l1 x = some y) (hq : QfX8_goesThrough_9 (d + 7) res l1 y) : PfX8_goesThrough_9 (d + 7) res l1 x := whl_ind _ _ (fun x z => rbfX8_goesThrough_9 d N res l1 x z) N x y h hq
def fX8_goesThrough (N : Nat) (l1 : Int32) (S : St) : Option St := (if l1 < 0 ∨ 8 ≤ Int32.toNatClampNeg l1 then none else (fX8_goesThrough_9 N l1 (((S.1 133 (Int32.toNatClampNeg l1)) - 1), S)).bind (fun y7 => some y7))
set_option maxRecDepth 20000 in
theorem rfX8_goesThrough (d N : Nat) (l1 : Int32) (S : St) (z : St) (h : fX8_goesThrough N l1 S = some z) : am_C (d + 8) 148 [.ref 128, .int l1] (am_T0 S) (none, am_T0 z) := by
  unfold fX8_goesThrough at h
  show am_Rn (am_C (d + 7)) (am_ct 148) (am_rk 148) (none, am_T0 z) (0, [some (.ref 128), some (.int l1), none], [], am_T0 S)
  refine am_Rn.op _ (1, [some (.ref 128), some (.int l1), none], [.ref 128], am_T0 S) rfl rfl ?_
  refine am_Rn.op _ (4, [some (.ref 128), some (.int l1), none], [.ref 133], am_T0 S) rfl rfl ?_
  refine am_Rn.op _ (5, [some (.ref 128), some (.int l1), none], [.int l1, .ref 133], am_T0 S) rfl rfl ?_
  obtain ⟨hb6, h⟩ := l2_n h
  refine am_Rn.iald (n := 8) rfl rfl hb6 ?_
  show am_Rn _ _ _ _ (6, [some (.ref 128), some (.int l1), none], [.int (S.1 133 (Int32.toNatClampNeg l1))], am_T0 S)
  refine am_Rn.op _ (7, [some (.ref 128), some (.int l1), none], [.int 1, .int (S.1 133 (Int32.toNatClampNeg l1))], am_T0 S) rfl rfl ?_
  refine am_Rn.op _ (8, [some (.ref 128), some (.int l1), none], [.int ((S.1 133 (Int32.toNatClampNeg l1)) - 1)], am_T0 S) rfl rfl ?_
  refine am_Rn.op _ (9, [some (.ref 128), some (.int l1), some (.int ((S.1 133 (Int32.toNatClampNeg l1)) - 1))], [], am_T0 S) rfl rfl ?_
  obtain ⟨y7, hy7, h⟩ := l2_b h
  refine rfX8_goesThrough_9 d N _ l1 (((S.1 133 (Int32.toNatClampNeg l1)) - 1), S) y7 hy7 ?_ 
  cases h
  exact rfl
-- X8_runs
def PfX8_runs_25 (d : Nat) (res : Option Value × am_S) (x : Int32 × St) : Prop := ∀ (w2 w3 w4 w5 w6 w7 : Option Value), am_Rn (am_C d) (am_ct 149) (am_rk 149) res (25, [some (.ref 128), some (.int x.1), w2, w3, w4, w5, w6, w7], [], am_T0 x.2)
def QfX8_runs_25 (d : Nat) (res : Option Value × am_S) (y : St) : Prop := ∀ (w1 w2 w3 w4 w5 w6 w7 : Option Value), am_Rn (am_C d) (am_ct 149) (am_rk 149) res (46, [some (.ref 128), w1, w2, w3, w4, w5, w6, w7], [], am_T0 y)
def PfX8_runs_48 (d : Nat) (res : Option Value × am_S) (x : Int32 × St) : Prop := ∀ (w2 w3 w4 w5 w6 w7 : Option Value), am_Rn (am_C d) (am_ct 149) (am_rk 149) res (48, [some (.ref 128), some (.int x.1), w2, w3, w4, w5, w6, w7], [], am_T0 x.2)
def QfX8_runs_48 (d : Nat) (res : Option Value × am_S) (y : St) : Prop := res = (none, am_T0 y)
def PfX8_runs_56 (d : Nat) (res : Option Value × am_S) (x : Int32 × Int32 × St) : Prop := ∀ (w3 w4 w5 w6 w7 : Option Value), am_Rn (am_C d) (am_ct 149) (am_rk 149) res (56, [some (.ref 128), some (.int x.1), some (.int x.2.1), w3, w4, w5, w6, w7], [], am_T0 x.2.2)
def QfX8_runs_56 (d : Nat) (res : Option Value × am_S) (y : Int32 × St) : Prop := ∀ (w2 w3 w4 w5 w6 w7 : Option Value), am_Rn (am_C d) (am_ct 149) (am_rk 149) res (212, [some (.ref 128), some (.int y.1), w2, w3, w4, w5, w6, w7], [], am_T0 y.2)
def PfX8_runs_69 (d : Nat) (res : Option Value × am_S) (l2 : Int32) (x : Int32 × Int32 × St) : Prop := ∀ (w4 w5 w6 w7 : Option Value), am_Rn (am_C d) (am_ct 149) (am_rk 149) res (69, [some (.ref 128), some (.int x.1), some (.int l2), some (.int x.2.1), w4, w5, w6, w7], [], am_T0 x.2.2)
def QfX8_runs_69 (d : Nat) (res : Option Value × am_S) (l2 : Int32) (y : Int32 × St) : Prop := ∀ (w3 w4 w5 w6 w7 : Option Value), am_Rn (am_C d) (am_ct 149) (am_rk 149) res (206, [some (.ref 128), some (.int y.1), some (.int l2), w3, w4, w5, w6, w7], [], am_T0 y.2)
def PfX8_runs_77 (d : Nat) (res : Option Value × am_S) (l2 : Int32) (l3 : Int32) (x : Int32 × Int32 × St) : Prop := ∀ (w5 w6 w7 : Option Value), am_Rn (am_C d) (am_ct 149) (am_rk 149) res (77, [some (.ref 128), some (.int x.1), some (.int l2), some (.int l3), some (.int x.2.1), w5, w6, w7], [], am_T0 x.2.2)
def QfX8_runs_77 (d : Nat) (res : Option Value × am_S) (l2 : Int32) (l3 : Int32) (y : Int32 × St) : Prop := ∀ (w4 w5 w6 w7 : Option Value), am_Rn (am_C d) (am_ct 149) (am_rk 149) res (200, [some (.ref 128), some (.int y.1), some (.int l2), some (.int l3), w4, w5, w6, w7], [], am_T0 y.2)
def PfX8_runs_87 (d : Nat) (res : Option Value × am_S) (l2 : Int32) (l3 : Int32) (l4 : Int32) (x : Int32 × Int32 × St) : Prop := ∀ (w6 w7 : Option Value), am_Rn (am_C d) (am_ct 149) (am_rk 149) res (87, [some (.ref 128), some (.int x.1), some (.int l2), some (.int l3), some (.int l4), some (.int x.2.1), w6, w7], [], am_T0 x.2.2)
def QfX8_runs_87 (d : Nat) (res : Option Value × am_S) (l2 : Int32) (l3 : Int32) (l4 : Int32) (y : Int32 × St) : Prop := ∀ (w5 w6 w7 : Option Value), am_Rn (am_C d) (am_ct 149) (am_rk 149) res (194, [some (.ref 128), some (.int y.1), some (.int l2), some (.int l3), some (.int l4), w5, w6, w7], [], am_T0 y.2)
def fX8_runs_188 (N : Nat) (l1 : Int32) (l2 : Int32) (l3 : Int32) (l4 : Int32) (l5 : Int32) (S : St) : Option ((Int32 × Int32 × St) ⊕ (Int32 × St)) := some (.inl (l1, (l5 + 1), S))
set_option maxRecDepth 20000 in
theorem rfX8_runs_188 (d N : Nat) (res : Option Value × am_S) (l1 : Int32) (l2 : Int32) (l3 : Int32) (l4 : Int32) (l5 : Int32) (S : St) (z : (Int32 × Int32 × St) ⊕ (Int32 × St)) (h : fX8_runs_188 N l1 l2 l3 l4 l5 S = some z) (hz : Sum.elim (PfX8_runs_87 (d + 8) res l2 l3 l4 ) (QfX8_runs_87 (d + 8) res l2 l3 l4 ) z) (w6 : Option Value) (w7 : Option Value) : am_Rn (am_C (d + 8)) (am_ct 149) (am_rk 149) res (188, [some (.ref 128), some (.int l1), some (.int l2), some (.int l3), some (.int l4), some (.int l5), w6, w7], [], am_T0 S) := by
  unfold fX8_runs_188 at h
  refine am_Rn.op _ (191, [some (.ref 128), some (.int l1), some (.int l2), some (.int l3), some (.int l4), some (.int (l5 + 1)), w6, w7], [], am_T0 S) rfl rfl ?_
  refine am_Rn.op _ (87, [some (.ref 128), some (.int l1), some (.int l2), some (.int l3), some (.int l4), some (.int (l5 + 1)), w6, w7], [], am_T0 S) rfl rfl ?_
  cases h
  exact hz _ _
def fX8_runs_142 (N : Nat) (l1 : Int32) (l2 : Int32) (l3 : Int32) (l4 : Int32) (l5 : Int32) (s0 : Int32) (S : St) : Option ((Int32 × Int32 × St) ⊕ (Int32 × St)) := (if ((((((l2 * 4) + l3) * 7) + l4) * 4) + l5) < 0 ∨ 896 ≤ Int32.toNatClampNeg ((((((l2 * 4) + l3) * 7) + l4) * 4) + l5) then none else (if s0 < (S.1 141 (Int32.toNatClampNeg ((((((l2 * 4) + l3) * 7) + l4) * 4) + l5))) then (if ((((((l2 * 4) + l3) * 7) + l4) * 4) + l5) < 0 ∨ 896 ≤ Int32.toNatClampNeg ((((((l2 * 4) + l3) * 7) + l4) * 4) + l5) then none else fX8_runs_188 N 1 l2 l3 l4 l5 (st_i S 141 (Int32.toNatClampNeg ((((((l2 * 4) + l3) * 7) + l4) * 4) + l5)) s0)) else fX8_runs_188 N l1 l2 l3 l4 l5 S))
set_option maxRecDepth 20000 in
theorem rfX8_runs_142 (d N : Nat) (res : Option Value × am_S) (l1 : Int32) (l2 : Int32) (l3 : Int32) (l4 : Int32) (l5 : Int32) (s0 : Int32) (S : St) (z : (Int32 × Int32 × St) ⊕ (Int32 × St)) (h : fX8_runs_142 N l1 l2 l3 l4 l5 s0 S = some z) (hz : Sum.elim (PfX8_runs_87 (d + 8) res l2 l3 l4 ) (QfX8_runs_87 (d + 8) res l2 l3 l4 ) z) (w6 : Option Value) (w7 : Option Value) : am_Rn (am_C (d + 8)) (am_ct 149) (am_rk 149) res (142, [some (.ref 128), some (.int l1), some (.int l2), some (.int l3), some (.int l4), some (.int l5), w6, w7], [.int s0], am_T0 S) := by
  unfold fX8_runs_142 at h
  refine am_Rn.op _ (144, [some (.ref 128), some (.int l1), some (.int l2), some (.int l3), some (.int l4), some (.int l5), some (.int s0), w7], [], am_T0 S) rfl rfl ?_
  refine am_Rn.op _ (145, [some (.ref 128), some (.int l1), some (.int l2), some (.int l3), some (.int l4), some (.int l5), some (.int s0), w7], [.int l2], am_T0 S) rfl rfl ?_
  refine am_Rn.op _ (146, [some (.ref 128), some (.int l1), some (.int l2), some (.int l3), some (.int l4), some (.int l5), some (.int s0), w7], [.int 4, .int l2], am_T0 S) rfl rfl ?_
  refine am_Rn.op _ (147, [some (.ref 128), some (.int l1), some (.int l2), some (.int l3), some (.int l4), some (.int l5), some (.int s0), w7], [.int (l2 * 4)], am_T0 S) rfl rfl ?_
  refine am_Rn.op _ (148, [some (.ref 128), some (.int l1), some (.int l2), some (.int l3), some (.int l4), some (.int l5), some (.int s0), w7], [.int l3, .int (l2 * 4)], am_T0 S) rfl rfl ?_
  refine am_Rn.op _ (149, [some (.ref 128), some (.int l1), some (.int l2), some (.int l3), some (.int l4), some (.int l5), some (.int s0), w7], [.int ((l2 * 4) + l3)], am_T0 S) rfl rfl ?_
  refine am_Rn.op _ (151, [some (.ref 128), some (.int l1), some (.int l2), some (.int l3), some (.int l4), some (.int l5), some (.int s0), w7], [.int 7, .int ((l2 * 4) + l3)], am_T0 S) rfl rfl ?_
  refine am_Rn.op _ (152, [some (.ref 128), some (.int l1), some (.int l2), some (.int l3), some (.int l4), some (.int l5), some (.int s0), w7], [.int (((l2 * 4) + l3) * 7)], am_T0 S) rfl rfl ?_
  refine am_Rn.op _ (154, [some (.ref 128), some (.int l1), some (.int l2), some (.int l3), some (.int l4), some (.int l5), some (.int s0), w7], [.int l4, .int (((l2 * 4) + l3) * 7)], am_T0 S) rfl rfl ?_
  refine am_Rn.op _ (155, [some (.ref 128), some (.int l1), some (.int l2), some (.int l3), some (.int l4), some (.int l5), some (.int s0), w7], [.int ((((l2 * 4) + l3) * 7) + l4)], am_T0 S) rfl rfl ?_
  refine am_Rn.op _ (156, [some (.ref 128), some (.int l1), some (.int l2), some (.int l3), some (.int l4), some (.int l5), some (.int s0), w7], [.int 4, .int ((((l2 * 4) + l3) * 7) + l4)], am_T0 S) rfl rfl ?_
  refine am_Rn.op _ (157, [some (.ref 128), some (.int l1), some (.int l2), some (.int l3), some (.int l4), some (.int l5), some (.int s0), w7], [.int (((((l2 * 4) + l3) * 7) + l4) * 4)], am_T0 S) rfl rfl ?_
  refine am_Rn.op _ (159, [some (.ref 128), some (.int l1), some (.int l2), some (.int l3), some (.int l4), some (.int l5), some (.int s0), w7], [.int l5, .int (((((l2 * 4) + l3) * 7) + l4) * 4)], am_T0 S) rfl rfl ?_
  refine am_Rn.op _ (160, [some (.ref 128), some (.int l1), some (.int l2), some (.int l3), some (.int l4), some (.int l5), some (.int s0), w7], [.int ((((((l2 * 4) + l3) * 7) + l4) * 4) + l5)], am_T0 S) rfl rfl ?_
  refine am_Rn.op _ (162, [some (.ref 128), some (.int l1), some (.int l2), some (.int l3), some (.int l4), some (.int l5), some (.int s0), some (.int ((((((l2 * 4) + l3) * 7) + l4) * 4) + l5))], [], am_T0 S) rfl rfl ?_
  refine am_Rn.op _ (164, [some (.ref 128), some (.int l1), some (.int l2), some (.int l3), some (.int l4), some (.int l5), some (.int s0), some (.int ((((((l2 * 4) + l3) * 7) + l4) * 4) + l5))], [.int s0], am_T0 S) rfl rfl ?_
  refine am_Rn.op _ (165, [some (.ref 128), some (.int l1), some (.int l2), some (.int l3), some (.int l4), some (.int l5), some (.int s0), some (.int ((((((l2 * 4) + l3) * 7) + l4) * 4) + l5))], [.ref 128, .int s0], am_T0 S) rfl rfl ?_
  refine am_Rn.op _ (168, [some (.ref 128), some (.int l1), some (.int l2), some (.int l3), some (.int l4), some (.int l5), some (.int s0), some (.int ((((((l2 * 4) + l3) * 7) + l4) * 4) + l5))], [.ref 141, .int s0], am_T0 S) rfl rfl ?_
  refine am_Rn.op _ (170, [some (.ref 128), some (.int l1), some (.int l2), some (.int l3), some (.int l4), some (.int l5), some (.int s0), some (.int ((((((l2 * 4) + l3) * 7) + l4) * 4) + l5))], [.int ((((((l2 * 4) + l3) * 7) + l4) * 4) + l5), .ref 141, .int s0], am_T0 S) rfl rfl ?_
  obtain ⟨hb1, h⟩ := l2_n h
  refine am_Rn.iald (n := 896) rfl rfl hb1 ?_
  show am_Rn _ _ _ _ (171, [some (.ref 128), some (.int l1), some (.int l2), some (.int l3), some (.int l4), some (.int l5), some (.int s0), some (.int ((((((l2 * 4) + l3) * 7) + l4) * 4) + l5))], [.int (S.1 141 (Int32.toNatClampNeg ((((((l2 * 4) + l3) * 7) + l4) * 4) + l5))), .int s0], am_T0 S)
  refine am_Rn.op _ (if s0 < (S.1 141 (Int32.toNatClampNeg ((((((l2 * 4) + l3) * 7) + l4) * 4) + l5))) then 177 else 174, [some (.ref 128), some (.int l1), some (.int l2), some (.int l3), some (.int l4), some (.int l5), some (.int s0), some (.int ((((((l2 * 4) + l3) * 7) + l4) * 4) + l5))], [], am_T0 S) rfl rfl ?_
  rcases l2_i h with ⟨hc, h⟩ | ⟨hc, h⟩
  · refine am_Rn.ifT hc ?_
    refine am_Rn.op _ (178, [some (.ref 128), some (.int l1), some (.int l2), some (.int l3), some (.int l4), some (.int l5), some (.int s0), some (.int ((((((l2 * 4) + l3) * 7) + l4) * 4) + l5))], [.ref 128], am_T0 S) rfl rfl ?_
    refine am_Rn.op _ (181, [some (.ref 128), some (.int l1), some (.int l2), some (.int l3), some (.int l4), some (.int l5), some (.int s0), some (.int ((((((l2 * 4) + l3) * 7) + l4) * 4) + l5))], [.ref 141], am_T0 S) rfl rfl ?_
    refine am_Rn.op _ (183, [some (.ref 128), some (.int l1), some (.int l2), some (.int l3), some (.int l4), some (.int l5), some (.int s0), some (.int ((((((l2 * 4) + l3) * 7) + l4) * 4) + l5))], [.int ((((((l2 * 4) + l3) * 7) + l4) * 4) + l5), .ref 141], am_T0 S) rfl rfl ?_
    refine am_Rn.op _ (185, [some (.ref 128), some (.int l1), some (.int l2), some (.int l3), some (.int l4), some (.int l5), some (.int s0), some (.int ((((((l2 * 4) + l3) * 7) + l4) * 4) + l5))], [.int s0, .int ((((((l2 * 4) + l3) * 7) + l4) * 4) + l5), .ref 141], am_T0 S) rfl rfl ?_
    obtain ⟨hb2, h⟩ := l2_n h
    refine am_Rn.iast (n := 896) rfl rfl hb2 ?_
    show am_Rn _ _ _ _ (186, [some (.ref 128), some (.int l1), some (.int l2), some (.int l3), some (.int l4), some (.int l5), some (.int s0), some (.int ((((((l2 * 4) + l3) * 7) + l4) * 4) + l5))], [], am_T0 (st_i S 141 (Int32.toNatClampNeg ((((((l2 * 4) + l3) * 7) + l4) * 4) + l5)) s0))
    refine am_Rn.op _ (187, [some (.ref 128), some (.int l1), some (.int l2), some (.int l3), some (.int l4), some (.int l5), some (.int s0), some (.int ((((((l2 * 4) + l3) * 7) + l4) * 4) + l5))], [.int 1], am_T0 (st_i S 141 (Int32.toNatClampNeg ((((((l2 * 4) + l3) * 7) + l4) * 4) + l5)) s0)) rfl rfl ?_
    refine am_Rn.op _ (188, [some (.ref 128), some (.int 1), some (.int l2), some (.int l3), some (.int l4), some (.int l5), some (.int s0), some (.int ((((((l2 * 4) + l3) * 7) + l4) * 4) + l5))], [], am_T0 (st_i S 141 (Int32.toNatClampNeg ((((((l2 * 4) + l3) * 7) + l4) * 4) + l5)) s0)) rfl rfl ?_
    exact rfX8_runs_188 d N _ 1 l2 l3 l4 l5 (st_i S 141 (Int32.toNatClampNeg ((((((l2 * 4) + l3) * 7) + l4) * 4) + l5)) s0) _ h hz _ _
  · refine am_Rn.ifF hc ?_
    refine am_Rn.op _ (188, [some (.ref 128), some (.int l1), some (.int l2), some (.int l3), some (.int l4), some (.int l5), some (.int s0), some (.int ((((((l2 * 4) + l3) * 7) + l4) * 4) + l5))], [], am_T0 S) rfl rfl ?_
    exact rfX8_runs_188 d N _ l1 l2 l3 l4 l5 S _ h hz _ _
def bfX8_runs_87 (N : Nat) (l2 : Int32) (l3 : Int32) (l4 : Int32) (x : Int32 × Int32 × St) : Option ((Int32 × Int32 × St) ⊕ (Int32 × St)) := (if 4 ≤ x.2.1 then some (.inr (x.1, x.2.2)) else (if l4 = 0 then (fX8_allOf N l2 0 0 l3 0 x.2.1 x.2.2).bind (fun q3 => (fX8_allOf N l2 0 0 l3 1 x.2.1 q3.2).bind (fun q4 => (fX8_less N q3.1 q4.1 q4.2).bind (fun q5 => fX8_runs_142 N x.1 l2 l3 l4 x.2.1 q5.1 q5.2))) else (fX8_allOf N l2 0 0 l3 ((2 + l4) - 1) x.2.1 x.2.2).bind (fun q6 => fX8_runs_142 N x.1 l2 l3 l4 x.2.1 q6.1 q6.2)))
def fX8_runs_87 (N : Nat) (l2 : Int32) (l3 : Int32) (l4 : Int32) (x : Int32 × Int32 × St) : Option (Int32 × St) := whl N (bfX8_runs_87 N l2 l3 l4 ) x
set_option maxRecDepth 20000 in
theorem rbfX8_runs_87 (d N : Nat) (res : Option Value × am_S) (l2 : Int32) (l3 : Int32) (l4 : Int32) (x : Int32 × Int32 × St) (z : (Int32 × Int32 × St) ⊕ (Int32 × St)) (h : bfX8_runs_87 N l2 l3 l4 x = some z) (hz : Sum.elim (PfX8_runs_87 (d + 8) res l2 l3 l4 ) (QfX8_runs_87 (d + 8) res l2 l3 l4 ) z) : PfX8_runs_87 (d + 8) res l2 l3 l4 x := by
  unfold bfX8_runs_87 at h
  show ∀ (w6 w7 : Option Value), am_Rn (am_C (d + 8)) (am_ct 149) (am_rk 149) res (87, [some (.ref 128), some (.int x.1), some (.int l2), some (.int l3), some (.int l4), some (.int x.2.1), w6, w7], [], am_T0 x.2.2)
  intro w6 w7
  refine am_Rn.op _ (89, [some (.ref 128), some (.int x.1), some (.int l2), some (.int l3), some (.int l4), some (.int x.2.1), w6, w7], [.int x.2.1], am_T0 x.2.2) rfl rfl ?_
  refine am_Rn.op _ (90, [some (.ref 128), some (.int x.1), some (.int l2), some (.int l3), some (.int l4), some (.int x.2.1), w6, w7], [.int 4, .int x.2.1], am_T0 x.2.2) rfl rfl ?_
  refine am_Rn.op _ (if 4 ≤ x.2.1 then 194 else 93, [some (.ref 128), some (.int x.1), some (.int l2), some (.int l3), some (.int l4), some (.int x.2.1), w6, w7], [], am_T0 x.2.2) rfl rfl ?_
  rcases l2_i h with ⟨hc, h⟩ | ⟨hc, h⟩
  · refine am_Rn.ifT hc ?_
    cases h
    exact hz _ _ _
  · refine am_Rn.ifF hc ?_
    refine am_Rn.op _ (95, [some (.ref 128), some (.int x.1), some (.int l2), some (.int l3), some (.int l4), some (.int x.2.1), w6, w7], [.int l4], am_T0 x.2.2) rfl rfl ?_
    refine am_Rn.op _ (if l4 = 0 then 98 else 126, [some (.ref 128), some (.int x.1), some (.int l2), some (.int l3), some (.int l4), some (.int x.2.1), w6, w7], [], am_T0 x.2.2) rfl rfl ?_
    rcases l2_i h with ⟨hc, h⟩ | ⟨hc, h⟩
    · refine am_Rn.ifT hc ?_
      refine am_Rn.op _ (99, [some (.ref 128), some (.int x.1), some (.int l2), some (.int l3), some (.int l4), some (.int x.2.1), w6, w7], [.ref 128], am_T0 x.2.2) rfl rfl ?_
      refine am_Rn.op _ (100, [some (.ref 128), some (.int x.1), some (.int l2), some (.int l3), some (.int l4), some (.int x.2.1), w6, w7], [.int l2, .ref 128], am_T0 x.2.2) rfl rfl ?_
      refine am_Rn.op _ (101, [some (.ref 128), some (.int x.1), some (.int l2), some (.int l3), some (.int l4), some (.int x.2.1), w6, w7], [.int 0, .int l2, .ref 128], am_T0 x.2.2) rfl rfl ?_
      refine am_Rn.op _ (102, [some (.ref 128), some (.int x.1), some (.int l2), some (.int l3), some (.int l4), some (.int x.2.1), w6, w7], [.int 0, .int 0, .int l2, .ref 128], am_T0 x.2.2) rfl rfl ?_
      refine am_Rn.op _ (103, [some (.ref 128), some (.int x.1), some (.int l2), some (.int l3), some (.int l4), some (.int x.2.1), w6, w7], [.int l3, .int 0, .int 0, .int l2, .ref 128], am_T0 x.2.2) rfl rfl ?_
      refine am_Rn.op _ (104, [some (.ref 128), some (.int x.1), some (.int l2), some (.int l3), some (.int l4), some (.int x.2.1), w6, w7], [.int 0, .int l3, .int 0, .int 0, .int l2, .ref 128], am_T0 x.2.2) rfl rfl ?_
      refine am_Rn.op _ (106, [some (.ref 128), some (.int x.1), some (.int l2), some (.int l3), some (.int l4), some (.int x.2.1), w6, w7], [.int x.2.1, .int 0, .int l3, .int 0, .int 0, .int l2, .ref 128], am_T0 x.2.2) rfl rfl ?_
      obtain ⟨q3, hq3, h⟩ := l2_b h
      refine am_Rn.cl _ (some (.int q3.1)) (am_T0 q3.2) rfl rfl (rfX8_allOf (d + 6) N l2 0 0 l3 0 x.2.1 x.2.2 q3 hq3) ?_
      show am_Rn _ _ _ _ (109, [some (.ref 128), some (.int x.1), some (.int l2), some (.int l3), some (.int l4), some (.int x.2.1), w6, w7], [.int q3.1], am_T0 q3.2)
      refine am_Rn.op _ (110, [some (.ref 128), some (.int x.1), some (.int l2), some (.int l3), some (.int l4), some (.int x.2.1), w6, w7], [.ref 128, .int q3.1], am_T0 q3.2) rfl rfl ?_
      refine am_Rn.op _ (111, [some (.ref 128), some (.int x.1), some (.int l2), some (.int l3), some (.int l4), some (.int x.2.1), w6, w7], [.int l2, .ref 128, .int q3.1], am_T0 q3.2) rfl rfl ?_
      refine am_Rn.op _ (112, [some (.ref 128), some (.int x.1), some (.int l2), some (.int l3), some (.int l4), some (.int x.2.1), w6, w7], [.int 0, .int l2, .ref 128, .int q3.1], am_T0 q3.2) rfl rfl ?_
      refine am_Rn.op _ (113, [some (.ref 128), some (.int x.1), some (.int l2), some (.int l3), some (.int l4), some (.int x.2.1), w6, w7], [.int 0, .int 0, .int l2, .ref 128, .int q3.1], am_T0 q3.2) rfl rfl ?_
      refine am_Rn.op _ (114, [some (.ref 128), some (.int x.1), some (.int l2), some (.int l3), some (.int l4), some (.int x.2.1), w6, w7], [.int l3, .int 0, .int 0, .int l2, .ref 128, .int q3.1], am_T0 q3.2) rfl rfl ?_
      refine am_Rn.op _ (115, [some (.ref 128), some (.int x.1), some (.int l2), some (.int l3), some (.int l4), some (.int x.2.1), w6, w7], [.int 1, .int l3, .int 0, .int 0, .int l2, .ref 128, .int q3.1], am_T0 q3.2) rfl rfl ?_
      refine am_Rn.op _ (117, [some (.ref 128), some (.int x.1), some (.int l2), some (.int l3), some (.int l4), some (.int x.2.1), w6, w7], [.int x.2.1, .int 1, .int l3, .int 0, .int 0, .int l2, .ref 128, .int q3.1], am_T0 q3.2) rfl rfl ?_
      obtain ⟨q4, hq4, h⟩ := l2_b h
      refine am_Rn.cl _ (some (.int q4.1)) (am_T0 q4.2) rfl rfl (rfX8_allOf (d + 6) N l2 0 0 l3 1 x.2.1 q3.2 q4 hq4) ?_
      show am_Rn _ _ _ _ (120, [some (.ref 128), some (.int x.1), some (.int l2), some (.int l3), some (.int l4), some (.int x.2.1), w6, w7], [.int q4.1, .int q3.1], am_T0 q4.2)
      obtain ⟨q5, hq5, h⟩ := l2_b h
      refine am_Rn.cl _ (some (.int q5.1)) (am_T0 q5.2) rfl rfl (rfX8_less (d + 7) N q3.1 q4.1 q4.2 q5 hq5) ?_
      show am_Rn _ _ _ _ (123, [some (.ref 128), some (.int x.1), some (.int l2), some (.int l3), some (.int l4), some (.int x.2.1), w6, w7], [.int q5.1], am_T0 q5.2)
      refine am_Rn.op _ (142, [some (.ref 128), some (.int x.1), some (.int l2), some (.int l3), some (.int l4), some (.int x.2.1), w6, w7], [.int q5.1], am_T0 q5.2) rfl rfl ?_
      exact rfX8_runs_142 d N _ x.1 l2 l3 l4 x.2.1 q5.1 q5.2 _ h hz _ _
    · refine am_Rn.ifF hc ?_
      refine am_Rn.op _ (127, [some (.ref 128), some (.int x.1), some (.int l2), some (.int l3), some (.int l4), some (.int x.2.1), w6, w7], [.ref 128], am_T0 x.2.2) rfl rfl ?_
      refine am_Rn.op _ (128, [some (.ref 128), some (.int x.1), some (.int l2), some (.int l3), some (.int l4), some (.int x.2.1), w6, w7], [.int l2, .ref 128], am_T0 x.2.2) rfl rfl ?_
      refine am_Rn.op _ (129, [some (.ref 128), some (.int x.1), some (.int l2), some (.int l3), some (.int l4), some (.int x.2.1), w6, w7], [.int 0, .int l2, .ref 128], am_T0 x.2.2) rfl rfl ?_
      refine am_Rn.op _ (130, [some (.ref 128), some (.int x.1), some (.int l2), some (.int l3), some (.int l4), some (.int x.2.1), w6, w7], [.int 0, .int 0, .int l2, .ref 128], am_T0 x.2.2) rfl rfl ?_
      refine am_Rn.op _ (131, [some (.ref 128), some (.int x.1), some (.int l2), some (.int l3), some (.int l4), some (.int x.2.1), w6, w7], [.int l3, .int 0, .int 0, .int l2, .ref 128], am_T0 x.2.2) rfl rfl ?_
      refine am_Rn.op _ (132, [some (.ref 128), some (.int x.1), some (.int l2), some (.int l3), some (.int l4), some (.int x.2.1), w6, w7], [.int 2, .int l3, .int 0, .int 0, .int l2, .ref 128], am_T0 x.2.2) rfl rfl ?_
      refine am_Rn.op _ (134, [some (.ref 128), some (.int x.1), some (.int l2), some (.int l3), some (.int l4), some (.int x.2.1), w6, w7], [.int l4, .int 2, .int l3, .int 0, .int 0, .int l2, .ref 128], am_T0 x.2.2) rfl rfl ?_
      refine am_Rn.op _ (135, [some (.ref 128), some (.int x.1), some (.int l2), some (.int l3), some (.int l4), some (.int x.2.1), w6, w7], [.int (2 + l4), .int l3, .int 0, .int 0, .int l2, .ref 128], am_T0 x.2.2) rfl rfl ?_
      refine am_Rn.op _ (136, [some (.ref 128), some (.int x.1), some (.int l2), some (.int l3), some (.int l4), some (.int x.2.1), w6, w7], [.int 1, .int (2 + l4), .int l3, .int 0, .int 0, .int l2, .ref 128], am_T0 x.2.2) rfl rfl ?_
      refine am_Rn.op _ (137, [some (.ref 128), some (.int x.1), some (.int l2), some (.int l3), some (.int l4), some (.int x.2.1), w6, w7], [.int ((2 + l4) - 1), .int l3, .int 0, .int 0, .int l2, .ref 128], am_T0 x.2.2) rfl rfl ?_
      refine am_Rn.op _ (139, [some (.ref 128), some (.int x.1), some (.int l2), some (.int l3), some (.int l4), some (.int x.2.1), w6, w7], [.int x.2.1, .int ((2 + l4) - 1), .int l3, .int 0, .int 0, .int l2, .ref 128], am_T0 x.2.2) rfl rfl ?_
      obtain ⟨q6, hq6, h⟩ := l2_b h
      refine am_Rn.cl _ (some (.int q6.1)) (am_T0 q6.2) rfl rfl (rfX8_allOf (d + 6) N l2 0 0 l3 ((2 + l4) - 1) x.2.1 x.2.2 q6 hq6) ?_
      show am_Rn _ _ _ _ (142, [some (.ref 128), some (.int x.1), some (.int l2), some (.int l3), some (.int l4), some (.int x.2.1), w6, w7], [.int q6.1], am_T0 q6.2)
      exact rfX8_runs_142 d N _ x.1 l2 l3 l4 x.2.1 q6.1 q6.2 _ h hz _ _
theorem rfX8_runs_87 (d N : Nat) (res : Option Value × am_S) (l2 : Int32) (l3 : Int32) (l4 : Int32) (x : Int32 × Int32 × St) (y : Int32 × St) (h : fX8_runs_87 N l2 l3 l4 x = some y) (hq : QfX8_runs_87 (d + 8) res l2 l3 l4 y) : PfX8_runs_87 (d + 8) res l2 l3 l4 x := whl_ind _ _ (fun x z => rbfX8_runs_87 d N res l2 l3 l4 x z) N x y h hq
def bfX8_runs_77 (N : Nat) (l2 : Int32) (l3 : Int32) (x : Int32 × Int32 × St) : Option ((Int32 × Int32 × St) ⊕ (Int32 × St)) := (if 7 ≤ x.2.1 then some (.inr (x.1, x.2.2)) else (fX8_runs_87 N l2 l3 x.2.1 (x.1, 0, x.2.2)).bind (fun y7 => some (.inl (y7.1, (x.2.1 + 1), y7.2))))
def fX8_runs_77 (N : Nat) (l2 : Int32) (l3 : Int32) (x : Int32 × Int32 × St) : Option (Int32 × St) := whl N (bfX8_runs_77 N l2 l3 ) x
set_option maxRecDepth 20000 in
theorem rbfX8_runs_77 (d N : Nat) (res : Option Value × am_S) (l2 : Int32) (l3 : Int32) (x : Int32 × Int32 × St) (z : (Int32 × Int32 × St) ⊕ (Int32 × St)) (h : bfX8_runs_77 N l2 l3 x = some z) (hz : Sum.elim (PfX8_runs_77 (d + 8) res l2 l3 ) (QfX8_runs_77 (d + 8) res l2 l3 ) z) : PfX8_runs_77 (d + 8) res l2 l3 x := by
  unfold bfX8_runs_77 at h
  show ∀ (w5 w6 w7 : Option Value), am_Rn (am_C (d + 8)) (am_ct 149) (am_rk 149) res (77, [some (.ref 128), some (.int x.1), some (.int l2), some (.int l3), some (.int x.2.1), w5, w6, w7], [], am_T0 x.2.2)
  intro w5 w6 w7
  refine am_Rn.op _ (79, [some (.ref 128), some (.int x.1), some (.int l2), some (.int l3), some (.int x.2.1), w5, w6, w7], [.int x.2.1], am_T0 x.2.2) rfl rfl ?_
  refine am_Rn.op _ (81, [some (.ref 128), some (.int x.1), some (.int l2), some (.int l3), some (.int x.2.1), w5, w6, w7], [.int 7, .int x.2.1], am_T0 x.2.2) rfl rfl ?_
  refine am_Rn.op _ (if 7 ≤ x.2.1 then 200 else 84, [some (.ref 128), some (.int x.1), some (.int l2), some (.int l3), some (.int x.2.1), w5, w6, w7], [], am_T0 x.2.2) rfl rfl ?_
  rcases l2_i h with ⟨hc, h⟩ | ⟨hc, h⟩
  · refine am_Rn.ifT hc ?_
    cases h
    exact hz _ _ _ _
  · refine am_Rn.ifF hc ?_
    refine am_Rn.op _ (85, [some (.ref 128), some (.int x.1), some (.int l2), some (.int l3), some (.int x.2.1), w5, w6, w7], [.int 0], am_T0 x.2.2) rfl rfl ?_
    refine am_Rn.op _ (87, [some (.ref 128), some (.int x.1), some (.int l2), some (.int l3), some (.int x.2.1), some (.int 0), w6, w7], [], am_T0 x.2.2) rfl rfl ?_
    obtain ⟨y7, hy7, h⟩ := l2_b h
    refine rfX8_runs_87 d N _ l2 l3 x.2.1 (x.1, 0, x.2.2) y7 hy7 ?_ _ _
    intro w8 w9 w10
    show am_Rn _ _ _ _ (194, [some (.ref 128), some (.int y7.1), some (.int l2), some (.int l3), some (.int x.2.1), w8, w9, w10], [], am_T0 y7.2)
    refine am_Rn.op _ (197, [some (.ref 128), some (.int y7.1), some (.int l2), some (.int l3), some (.int (x.2.1 + 1)), w8, w9, w10], [], am_T0 y7.2) rfl rfl ?_
    refine am_Rn.op _ (77, [some (.ref 128), some (.int y7.1), some (.int l2), some (.int l3), some (.int (x.2.1 + 1)), w8, w9, w10], [], am_T0 y7.2) rfl rfl ?_
    cases h
    exact hz _ _ _
theorem rfX8_runs_77 (d N : Nat) (res : Option Value × am_S) (l2 : Int32) (l3 : Int32) (x : Int32 × Int32 × St) (y : Int32 × St) (h : fX8_runs_77 N l2 l3 x = some y) (hq : QfX8_runs_77 (d + 8) res l2 l3 y) : PfX8_runs_77 (d + 8) res l2 l3 x := whl_ind _ _ (fun x z => rbfX8_runs_77 d N res l2 l3 x z) N x y h hq
def bfX8_runs_69 (N : Nat) (l2 : Int32) (x : Int32 × Int32 × St) : Option ((Int32 × Int32 × St) ⊕ (Int32 × St)) := (if 4 ≤ x.2.1 then some (.inr (x.1, x.2.2)) else (fX8_runs_77 N l2 x.2.1 (x.1, 0, x.2.2)).bind (fun y11 => some (.inl (y11.1, (x.2.1 + 1), y11.2))))
def fX8_runs_69 (N : Nat) (l2 : Int32) (x : Int32 × Int32 × St) : Option (Int32 × St) := whl N (bfX8_runs_69 N l2 ) x
set_option maxRecDepth 20000 in
theorem rbfX8_runs_69 (d N : Nat) (res : Option Value × am_S) (l2 : Int32) (x : Int32 × Int32 × St) (z : (Int32 × Int32 × St) ⊕ (Int32 × St)) (h : bfX8_runs_69 N l2 x = some z) (hz : Sum.elim (PfX8_runs_69 (d + 8) res l2 ) (QfX8_runs_69 (d + 8) res l2 ) z) : PfX8_runs_69 (d + 8) res l2 x := by
  unfold bfX8_runs_69 at h
  show ∀ (w4 w5 w6 w7 : Option Value), am_Rn (am_C (d + 8)) (am_ct 149) (am_rk 149) res (69, [some (.ref 128), some (.int x.1), some (.int l2), some (.int x.2.1), w4, w5, w6, w7], [], am_T0 x.2.2)
  intro w4 w5 w6 w7
  refine am_Rn.op _ (70, [some (.ref 128), some (.int x.1), some (.int l2), some (.int x.2.1), w4, w5, w6, w7], [.int x.2.1], am_T0 x.2.2) rfl rfl ?_
  refine am_Rn.op _ (71, [some (.ref 128), some (.int x.1), some (.int l2), some (.int x.2.1), w4, w5, w6, w7], [.int 4, .int x.2.1], am_T0 x.2.2) rfl rfl ?_
  refine am_Rn.op _ (if 4 ≤ x.2.1 then 206 else 74, [some (.ref 128), some (.int x.1), some (.int l2), some (.int x.2.1), w4, w5, w6, w7], [], am_T0 x.2.2) rfl rfl ?_
  rcases l2_i h with ⟨hc, h⟩ | ⟨hc, h⟩
  · refine am_Rn.ifT hc ?_
    cases h
    exact hz _ _ _ _ _
  · refine am_Rn.ifF hc ?_
    refine am_Rn.op _ (75, [some (.ref 128), some (.int x.1), some (.int l2), some (.int x.2.1), w4, w5, w6, w7], [.int 0], am_T0 x.2.2) rfl rfl ?_
    refine am_Rn.op _ (77, [some (.ref 128), some (.int x.1), some (.int l2), some (.int x.2.1), some (.int 0), w5, w6, w7], [], am_T0 x.2.2) rfl rfl ?_
    obtain ⟨y11, hy11, h⟩ := l2_b h
    refine rfX8_runs_77 d N _ l2 x.2.1 (x.1, 0, x.2.2) y11 hy11 ?_ _ _ _
    intro w12 w13 w14 w15
    show am_Rn _ _ _ _ (200, [some (.ref 128), some (.int y11.1), some (.int l2), some (.int x.2.1), w12, w13, w14, w15], [], am_T0 y11.2)
    refine am_Rn.op _ (203, [some (.ref 128), some (.int y11.1), some (.int l2), some (.int (x.2.1 + 1)), w12, w13, w14, w15], [], am_T0 y11.2) rfl rfl ?_
    refine am_Rn.op _ (69, [some (.ref 128), some (.int y11.1), some (.int l2), some (.int (x.2.1 + 1)), w12, w13, w14, w15], [], am_T0 y11.2) rfl rfl ?_
    cases h
    exact hz _ _ _ _
theorem rfX8_runs_69 (d N : Nat) (res : Option Value × am_S) (l2 : Int32) (x : Int32 × Int32 × St) (y : Int32 × St) (h : fX8_runs_69 N l2 x = some y) (hq : QfX8_runs_69 (d + 8) res l2 y) : PfX8_runs_69 (d + 8) res l2 x := whl_ind _ _ (fun x z => rbfX8_runs_69 d N res l2 x z) N x y h hq
def bfX8_runs_56 (N : Nat) (x : Int32 × Int32 × St) : Option ((Int32 × Int32 × St) ⊕ (Int32 × St)) := (if 8 ≤ x.2.1 then some (.inr (x.1, x.2.2)) else (fX8_goesThrough N x.2.1 x.2.2).bind (fun q16 => (fX8_runs_69 N x.2.1 (x.1, 0, q16)).bind (fun y17 => some (.inl (y17.1, (x.2.1 + 1), y17.2)))))
def fX8_runs_56 (N : Nat) (x : Int32 × Int32 × St) : Option (Int32 × St) := whl N (bfX8_runs_56 N ) x
set_option maxRecDepth 20000 in
theorem rbfX8_runs_56 (d N : Nat) (res : Option Value × am_S) (x : Int32 × Int32 × St) (z : (Int32 × Int32 × St) ⊕ (Int32 × St)) (h : bfX8_runs_56 N x = some z) (hz : Sum.elim (PfX8_runs_56 (d + 8) res ) (QfX8_runs_56 (d + 8) res ) z) : PfX8_runs_56 (d + 8) res x := by
  unfold bfX8_runs_56 at h
  show ∀ (w3 w4 w5 w6 w7 : Option Value), am_Rn (am_C (d + 8)) (am_ct 149) (am_rk 149) res (56, [some (.ref 128), some (.int x.1), some (.int x.2.1), w3, w4, w5, w6, w7], [], am_T0 x.2.2)
  intro w3 w4 w5 w6 w7
  refine am_Rn.op _ (57, [some (.ref 128), some (.int x.1), some (.int x.2.1), w3, w4, w5, w6, w7], [.int x.2.1], am_T0 x.2.2) rfl rfl ?_
  refine am_Rn.op _ (59, [some (.ref 128), some (.int x.1), some (.int x.2.1), w3, w4, w5, w6, w7], [.int 8, .int x.2.1], am_T0 x.2.2) rfl rfl ?_
  refine am_Rn.op _ (if 8 ≤ x.2.1 then 212 else 62, [some (.ref 128), some (.int x.1), some (.int x.2.1), w3, w4, w5, w6, w7], [], am_T0 x.2.2) rfl rfl ?_
  rcases l2_i h with ⟨hc, h⟩ | ⟨hc, h⟩
  · refine am_Rn.ifT hc ?_
    cases h
    exact hz _ _ _ _ _ _
  · refine am_Rn.ifF hc ?_
    refine am_Rn.op _ (63, [some (.ref 128), some (.int x.1), some (.int x.2.1), w3, w4, w5, w6, w7], [.ref 128], am_T0 x.2.2) rfl rfl ?_
    refine am_Rn.op _ (64, [some (.ref 128), some (.int x.1), some (.int x.2.1), w3, w4, w5, w6, w7], [.int x.2.1, .ref 128], am_T0 x.2.2) rfl rfl ?_
    obtain ⟨q16, hq16, h⟩ := l2_b h
    refine am_Rn.cl _ none (am_T0 q16) rfl rfl (rfX8_goesThrough (d + 0) N x.2.1 x.2.2 q16 hq16) ?_
    show am_Rn _ _ _ _ (67, [some (.ref 128), some (.int x.1), some (.int x.2.1), w3, w4, w5, w6, w7], [], am_T0 q16)
    refine am_Rn.op _ (68, [some (.ref 128), some (.int x.1), some (.int x.2.1), w3, w4, w5, w6, w7], [.int 0], am_T0 q16) rfl rfl ?_
    refine am_Rn.op _ (69, [some (.ref 128), some (.int x.1), some (.int x.2.1), some (.int 0), w4, w5, w6, w7], [], am_T0 q16) rfl rfl ?_
    obtain ⟨y17, hy17, h⟩ := l2_b h
    refine rfX8_runs_69 d N _ x.2.1 (x.1, 0, q16) y17 hy17 ?_ _ _ _ _
    intro w18 w19 w20 w21 w22
    show am_Rn _ _ _ _ (206, [some (.ref 128), some (.int y17.1), some (.int x.2.1), w18, w19, w20, w21, w22], [], am_T0 y17.2)
    refine am_Rn.op _ (209, [some (.ref 128), some (.int y17.1), some (.int (x.2.1 + 1)), w18, w19, w20, w21, w22], [], am_T0 y17.2) rfl rfl ?_
    refine am_Rn.op _ (56, [some (.ref 128), some (.int y17.1), some (.int (x.2.1 + 1)), w18, w19, w20, w21, w22], [], am_T0 y17.2) rfl rfl ?_
    cases h
    exact hz _ _ _ _ _
theorem rfX8_runs_56 (d N : Nat) (res : Option Value × am_S) (x : Int32 × Int32 × St) (y : Int32 × St) (h : fX8_runs_56 N x = some y) (hq : QfX8_runs_56 (d + 8) res y) : PfX8_runs_56 (d + 8) res x := whl_ind _ _ (fun x z => rbfX8_runs_56 d N res x z) N x y h hq
def bfX8_runs_48 (N : Nat) (x : Int32 × St) : Option ((Int32 × St) ⊕ (St)) := (if x.1 = 0 then some (.inr x.2) else (fX8_runs_56 N (0, 0, x.2)).bind (fun y23 => some (.inl (y23.1, y23.2))))
def fX8_runs_48 (N : Nat) (x : Int32 × St) : Option (St) := whl N (bfX8_runs_48 N ) x
set_option maxRecDepth 20000 in
theorem rbfX8_runs_48 (d N : Nat) (res : Option Value × am_S) (x : Int32 × St) (z : (Int32 × St) ⊕ (St)) (h : bfX8_runs_48 N x = some z) (hz : Sum.elim (PfX8_runs_48 (d + 8) res ) (QfX8_runs_48 (d + 8) res ) z) : PfX8_runs_48 (d + 8) res x := by
  unfold bfX8_runs_48 at h
  show ∀ (w2 w3 w4 w5 w6 w7 : Option Value), am_Rn (am_C (d + 8)) (am_ct 149) (am_rk 149) res (48, [some (.ref 128), some (.int x.1), w2, w3, w4, w5, w6, w7], [], am_T0 x.2)
  intro w2 w3 w4 w5 w6 w7
  refine am_Rn.op _ (49, [some (.ref 128), some (.int x.1), w2, w3, w4, w5, w6, w7], [.int x.1], am_T0 x.2) rfl rfl ?_
  refine am_Rn.op _ (if x.1 = 0 then 215 else 52, [some (.ref 128), some (.int x.1), w2, w3, w4, w5, w6, w7], [], am_T0 x.2) rfl rfl ?_
  rcases l2_i h with ⟨hc, h⟩ | ⟨hc, h⟩
  · refine am_Rn.ifT hc ?_
    cases h
    exact am_Rn.rt2 _ rfl rfl hz
  · refine am_Rn.ifF hc ?_
    refine am_Rn.op _ (53, [some (.ref 128), some (.int x.1), w2, w3, w4, w5, w6, w7], [.int 0], am_T0 x.2) rfl rfl ?_
    refine am_Rn.op _ (54, [some (.ref 128), some (.int 0), w2, w3, w4, w5, w6, w7], [], am_T0 x.2) rfl rfl ?_
    refine am_Rn.op _ (55, [some (.ref 128), some (.int 0), w2, w3, w4, w5, w6, w7], [.int 0], am_T0 x.2) rfl rfl ?_
    refine am_Rn.op _ (56, [some (.ref 128), some (.int 0), some (.int 0), w3, w4, w5, w6, w7], [], am_T0 x.2) rfl rfl ?_
    obtain ⟨y23, hy23, h⟩ := l2_b h
    refine rfX8_runs_56 d N _  (0, 0, x.2) y23 hy23 ?_ _ _ _ _ _
    intro w24 w25 w26 w27 w28 w29
    show am_Rn _ _ _ _ (212, [some (.ref 128), some (.int y23.1), w24, w25, w26, w27, w28, w29], [], am_T0 y23.2)
    refine am_Rn.op _ (48, [some (.ref 128), some (.int y23.1), w24, w25, w26, w27, w28, w29], [], am_T0 y23.2) rfl rfl ?_
    cases h
    exact hz _ _ _ _ _ _
theorem rfX8_runs_48 (d N : Nat) (res : Option Value × am_S) (x : Int32 × St) (y : St) (h : fX8_runs_48 N x = some y) (hq : QfX8_runs_48 (d + 8) res y) : PfX8_runs_48 (d + 8) res x := whl_ind _ _ (fun x z => rbfX8_runs_48 d N res x z) N x y h hq
def bfX8_runs_25 (N : Nat) (x : Int32 × St) : Option ((Int32 × St) ⊕ (St)) := (if 896 ≤ x.1 then some (.inr (x.2)) else (if x.1 < 0 ∨ 896 ≤ Int32.toNatClampNeg x.1 then none else some (.inl ((x.1 + 1), (st_i x.2 141 (Int32.toNatClampNeg x.1) 100000)))))
def fX8_runs_25 (N : Nat) (x : Int32 × St) : Option (St) := whl N (bfX8_runs_25 N ) x
set_option maxRecDepth 20000 in
theorem rbfX8_runs_25 (d N : Nat) (res : Option Value × am_S) (x : Int32 × St) (z : (Int32 × St) ⊕ (St)) (h : bfX8_runs_25 N x = some z) (hz : Sum.elim (PfX8_runs_25 (d + 8) res ) (QfX8_runs_25 (d + 8) res ) z) : PfX8_runs_25 (d + 8) res x := by
  unfold bfX8_runs_25 at h
  show ∀ (w2 w3 w4 w5 w6 w7 : Option Value), am_Rn (am_C (d + 8)) (am_ct 149) (am_rk 149) res (25, [some (.ref 128), some (.int x.1), w2, w3, w4, w5, w6, w7], [], am_T0 x.2)
  intro w2 w3 w4 w5 w6 w7
  refine am_Rn.op _ (26, [some (.ref 128), some (.int x.1), w2, w3, w4, w5, w6, w7], [.int x.1], am_T0 x.2) rfl rfl ?_
  refine am_Rn.op _ (29, [some (.ref 128), some (.int x.1), w2, w3, w4, w5, w6, w7], [.int 896, .int x.1], am_T0 x.2) rfl rfl ?_
  refine am_Rn.op _ (if 896 ≤ x.1 then 46 else 32, [some (.ref 128), some (.int x.1), w2, w3, w4, w5, w6, w7], [], am_T0 x.2) rfl rfl ?_
  rcases l2_i h with ⟨hc, h⟩ | ⟨hc, h⟩
  · refine am_Rn.ifT hc ?_
    cases h
    exact hz _ _ _ _ _ _ _
  · refine am_Rn.ifF hc ?_
    refine am_Rn.op _ (33, [some (.ref 128), some (.int x.1), w2, w3, w4, w5, w6, w7], [.ref 128], am_T0 x.2) rfl rfl ?_
    refine am_Rn.op _ (36, [some (.ref 128), some (.int x.1), w2, w3, w4, w5, w6, w7], [.ref 141], am_T0 x.2) rfl rfl ?_
    refine am_Rn.op _ (37, [some (.ref 128), some (.int x.1), w2, w3, w4, w5, w6, w7], [.int x.1, .ref 141], am_T0 x.2) rfl rfl ?_
    refine am_Rn.op _ (39, [some (.ref 128), some (.int x.1), w2, w3, w4, w5, w6, w7], [.int 100000, .int x.1, .ref 141], am_T0 x.2) rfl rfl ?_
    obtain ⟨hb30, h⟩ := l2_n h
    refine am_Rn.iast (n := 896) rfl rfl hb30 ?_
    show am_Rn _ _ _ _ (40, [some (.ref 128), some (.int x.1), w2, w3, w4, w5, w6, w7], [], am_T0 (st_i x.2 141 (Int32.toNatClampNeg x.1) 100000))
    refine am_Rn.op _ (43, [some (.ref 128), some (.int (x.1 + 1)), w2, w3, w4, w5, w6, w7], [], am_T0 (st_i x.2 141 (Int32.toNatClampNeg x.1) 100000)) rfl rfl ?_
    refine am_Rn.op _ (25, [some (.ref 128), some (.int (x.1 + 1)), w2, w3, w4, w5, w6, w7], [], am_T0 (st_i x.2 141 (Int32.toNatClampNeg x.1) 100000)) rfl rfl ?_
    cases h
    exact hz _ _ _ _ _ _
theorem rfX8_runs_25 (d N : Nat) (res : Option Value × am_S) (x : Int32 × St) (y : St) (h : fX8_runs_25 N x = some y) (hq : QfX8_runs_25 (d + 8) res y) : PfX8_runs_25 (d + 8) res x := whl_ind _ _ (fun x z => rbfX8_runs_25 d N res x z) N x y h hq
def fX8_runs (N : Nat) (S : St) : Option St := (if (S.1 128 29) = 0 then (fX8_runs_25 N (0, (st_i (st_i (st_i S 128 29 1) 128 19 (-1)) 128 20 (-1)))).bind (fun y31 => (fX8_runs_48 N (1, y31)).bind (fun y39 => some y39)) else some S)
set_option maxRecDepth 20000 in
theorem rfX8_runs (d N : Nat) (S : St) (z : St) (h : fX8_runs N S = some z) : am_C (d + 9) 149 [.ref 128] (am_T0 S) (none, am_T0 z) := by
  unfold fX8_runs at h
  show am_Rn (am_C (d + 8)) (am_ct 149) (am_rk 149) (none, am_T0 z) (0, [some (.ref 128), none, none, none, none, none, none, none], [], am_T0 S)
  refine am_Rn.op _ (1, [some (.ref 128), none, none, none, none, none, none, none], [.ref 128], am_T0 S) rfl rfl ?_
  refine am_Rn.op _ (4, [some (.ref 128), none, none, none, none, none, none, none], [.int (S.1 128 29)], am_T0 S) rfl rfl ?_
  refine am_Rn.op _ (if (S.1 128 29) = 0 then 8 else 7, [some (.ref 128), none, none, none, none, none, none, none], [], am_T0 S) rfl rfl ?_
  rcases l2_i h with ⟨hc, h⟩ | ⟨hc, h⟩
  · refine am_Rn.ifT hc ?_
    refine am_Rn.op _ (9, [some (.ref 128), none, none, none, none, none, none, none], [.ref 128], am_T0 S) rfl rfl ?_
    refine am_Rn.op _ (10, [some (.ref 128), none, none, none, none, none, none, none], [.int 1, .ref 128], am_T0 S) rfl rfl ?_
    refine am_Rn.op _ (13, [some (.ref 128), none, none, none, none, none, none, none], [], am_T0 (st_i S 128 29 1)) rfl rfl ?_
    refine am_Rn.op _ (14, [some (.ref 128), none, none, none, none, none, none, none], [.ref 128], am_T0 (st_i S 128 29 1)) rfl rfl ?_
    refine am_Rn.op _ (15, [some (.ref 128), none, none, none, none, none, none, none], [.int (-1), .ref 128], am_T0 (st_i S 128 29 1)) rfl rfl ?_
    refine am_Rn.op _ (18, [some (.ref 128), none, none, none, none, none, none, none], [], am_T0 (st_i (st_i S 128 29 1) 128 19 (-1))) rfl rfl ?_
    refine am_Rn.op _ (19, [some (.ref 128), none, none, none, none, none, none, none], [.ref 128], am_T0 (st_i (st_i S 128 29 1) 128 19 (-1))) rfl rfl ?_
    refine am_Rn.op _ (20, [some (.ref 128), none, none, none, none, none, none, none], [.int (-1), .ref 128], am_T0 (st_i (st_i S 128 29 1) 128 19 (-1))) rfl rfl ?_
    refine am_Rn.op _ (23, [some (.ref 128), none, none, none, none, none, none, none], [], am_T0 (st_i (st_i (st_i S 128 29 1) 128 19 (-1)) 128 20 (-1))) rfl rfl ?_
    refine am_Rn.op _ (24, [some (.ref 128), none, none, none, none, none, none, none], [.int 0], am_T0 (st_i (st_i (st_i S 128 29 1) 128 19 (-1)) 128 20 (-1))) rfl rfl ?_
    refine am_Rn.op _ (25, [some (.ref 128), some (.int 0), none, none, none, none, none, none], [], am_T0 (st_i (st_i (st_i S 128 29 1) 128 19 (-1)) 128 20 (-1))) rfl rfl ?_
    obtain ⟨y31, hy31, h⟩ := l2_b h
    refine rfX8_runs_25 d N _  (0, (st_i (st_i (st_i S 128 29 1) 128 19 (-1)) 128 20 (-1))) y31 hy31 ?_ _ _ _ _ _ _
    intro w32 w33 w34 w35 w36 w37 w38
    show am_Rn _ _ _ _ (46, [some (.ref 128), w32, w33, w34, w35, w36, w37, w38], [], am_T0 y31)
    refine am_Rn.op _ (47, [some (.ref 128), w32, w33, w34, w35, w36, w37, w38], [.int 1], am_T0 y31) rfl rfl ?_
    refine am_Rn.op _ (48, [some (.ref 128), some (.int 1), w33, w34, w35, w36, w37, w38], [], am_T0 y31) rfl rfl ?_
    obtain ⟨y39, hy39, h⟩ := l2_b h
    refine rfX8_runs_48 d N _  (1, y31) y39 hy39 ?_ _ _ _ _ _ _
    cases h
    exact rfl
  · refine am_Rn.ifF hc ?_
    cases h
    exact am_Rn.rt _ rfl rfl
-- X8_isRoutine
def fX8_isRoutine_15 (N : Nat) (s0 : Int32) (S : St) : Option (Int32 × St) := (if s0 = 0 ∨ s0 = 1 then some (s0, S) else none)
set_option maxRecDepth 20000 in
theorem rfX8_isRoutine_15 (d N : Nat) (s0 : Int32) (S : St) (z : (Int32 × St)) (h : fX8_isRoutine_15 N s0 S = some z) (w0 : Option Value) : am_Rn (am_C (d + 0)) (am_ct 150) (am_rk 150) (some (.int z.1), am_T0 z.2) (15, [w0], [.int s0], am_T0 S) := by
  unfold fX8_isRoutine_15 at h
  obtain ⟨hb1, h⟩ := l2_y h
  cases h
  exact am_Rn.rt _ rfl (l2_rz hb1)
def fX8_isRoutine (N : Nat) (l0 : Int32) (S : St) : Option (Int32 × St) := (if l0 < 0 then fX8_isRoutine_15 N 0 S else (if 8 ≤ l0 then fX8_isRoutine_15 N 0 S else fX8_isRoutine_15 N 1 S))
set_option maxRecDepth 20000 in
theorem rfX8_isRoutine (d N : Nat) (l0 : Int32) (S : St) (z : (Int32 × St)) (h : fX8_isRoutine N l0 S = some z) : am_C (d + 1) 150 [.int l0] (am_T0 S) (some (.int z.1), am_T0 z.2) := by
  unfold fX8_isRoutine at h
  show am_Rn (am_C (d + 0)) (am_ct 150) (am_rk 150) (some (.int z.1), am_T0 z.2) (0, [some (.int l0)], [], am_T0 S)
  refine am_Rn.op _ (1, [some (.int l0)], [.int l0], am_T0 S) rfl rfl ?_
  refine am_Rn.op _ (if l0 < 0 then 14 else 4, [some (.int l0)], [], am_T0 S) rfl rfl ?_
  rcases l2_i h with ⟨hc, h⟩ | ⟨hc, h⟩
  · refine am_Rn.ifT hc ?_
    refine am_Rn.op _ (15, [some (.int l0)], [.int 0], am_T0 S) rfl rfl ?_
    exact rfX8_isRoutine_15 d N 0 S _ h _
  · refine am_Rn.ifF hc ?_
    refine am_Rn.op _ (5, [some (.int l0)], [.int l0], am_T0 S) rfl rfl ?_
    refine am_Rn.op _ (7, [some (.int l0)], [.int 8, .int l0], am_T0 S) rfl rfl ?_
    refine am_Rn.op _ (if 8 ≤ l0 then 14 else 10, [some (.int l0)], [], am_T0 S) rfl rfl ?_
    rcases l2_i h with ⟨hc, h⟩ | ⟨hc, h⟩
    · refine am_Rn.ifT hc ?_
      refine am_Rn.op _ (15, [some (.int l0)], [.int 0], am_T0 S) rfl rfl ?_
      exact rfX8_isRoutine_15 d N 0 S _ h _
    · refine am_Rn.ifF hc ?_
      refine am_Rn.op _ (11, [some (.int l0)], [.int 1], am_T0 S) rfl rfl ?_
      refine am_Rn.op _ (15, [some (.int l0)], [.int 1], am_T0 S) rfl rfl ?_
      exact rfX8_isRoutine_15 d N 1 S _ h _
-- X8_isState
def fX8_isState_14 (N : Nat) (s0 : Int32) (S : St) : Option (Int32 × St) := (if s0 = 0 ∨ s0 = 1 then some (s0, S) else none)
set_option maxRecDepth 20000 in
theorem rfX8_isState_14 (d N : Nat) (s0 : Int32) (S : St) (z : (Int32 × St)) (h : fX8_isState_14 N s0 S = some z) (w0 : Option Value) : am_Rn (am_C (d + 0)) (am_ct 151) (am_rk 151) (some (.int z.1), am_T0 z.2) (14, [w0], [.int s0], am_T0 S) := by
  unfold fX8_isState_14 at h
  obtain ⟨hb1, h⟩ := l2_y h
  cases h
  exact am_Rn.rt _ rfl (l2_rz hb1)
def fX8_isState (N : Nat) (l0 : Int32) (S : St) : Option (Int32 × St) := (if l0 < 0 then fX8_isState_14 N 0 S else (if 4 ≤ l0 then fX8_isState_14 N 0 S else fX8_isState_14 N 1 S))
set_option maxRecDepth 20000 in
theorem rfX8_isState (d N : Nat) (l0 : Int32) (S : St) (z : (Int32 × St)) (h : fX8_isState N l0 S = some z) : am_C (d + 1) 151 [.int l0] (am_T0 S) (some (.int z.1), am_T0 z.2) := by
  unfold fX8_isState at h
  show am_Rn (am_C (d + 0)) (am_ct 151) (am_rk 151) (some (.int z.1), am_T0 z.2) (0, [some (.int l0)], [], am_T0 S)
  refine am_Rn.op _ (1, [some (.int l0)], [.int l0], am_T0 S) rfl rfl ?_
  refine am_Rn.op _ (if l0 < 0 then 13 else 4, [some (.int l0)], [], am_T0 S) rfl rfl ?_
  rcases l2_i h with ⟨hc, h⟩ | ⟨hc, h⟩
  · refine am_Rn.ifT hc ?_
    refine am_Rn.op _ (14, [some (.int l0)], [.int 0], am_T0 S) rfl rfl ?_
    exact rfX8_isState_14 d N 0 S _ h _
  · refine am_Rn.ifF hc ?_
    refine am_Rn.op _ (5, [some (.int l0)], [.int l0], am_T0 S) rfl rfl ?_
    refine am_Rn.op _ (6, [some (.int l0)], [.int 4, .int l0], am_T0 S) rfl rfl ?_
    refine am_Rn.op _ (if 4 ≤ l0 then 13 else 9, [some (.int l0)], [], am_T0 S) rfl rfl ?_
    rcases l2_i h with ⟨hc, h⟩ | ⟨hc, h⟩
    · refine am_Rn.ifT hc ?_
      refine am_Rn.op _ (14, [some (.int l0)], [.int 0], am_T0 S) rfl rfl ?_
      exact rfX8_isState_14 d N 0 S _ h _
    · refine am_Rn.ifF hc ?_
      refine am_Rn.op _ (10, [some (.int l0)], [.int 1], am_T0 S) rfl rfl ?_
      refine am_Rn.op _ (14, [some (.int l0)], [.int 1], am_T0 S) rfl rfl ?_
      exact rfX8_isState_14 d N 1 S _ h _
