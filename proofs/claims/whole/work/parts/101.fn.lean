-- X5_at
def fX5_at_31 (N : Nat) (s0 : Int32) (S : St) : Option (Int32 × St) := some (s0, S)
set_option maxRecDepth 20000 in
theorem rfX5_at_31 (d N : Nat) (s0 : Int32) (S : St) (z : (Int32 × St)) (h : fX5_at_31 N s0 S = some z) (w0 : Option Value) (w1 : Option Value) : am_Rn (am_C (d + 0)) (am_ct 49) (am_rk 49) (some (.int z.1), am_T0 z.2) (31, [w0, w1], [.int s0], am_T0 S) := by
  unfold fX5_at_31 at h
  cases h
  exact am_Rn.rt _ rfl rfl
def fX5_at (N : Nat) (n0 : Nat) (l1 : Int32) (S : St) : Option (Int32 × St) := (if l1 < 0 then fX5_at_31 N (-1) S else (if (S.1 (TA n0) 1) ≤ l1 then fX5_at_31 N (-1) S else (if 60 ≤ l1 then fX5_at_31 N (-1) S else (if l1 < 0 ∨ 60 ≤ Int32.toNatClampNeg l1 then none else fX5_at_31 N (S.1 (TA n0 + 1) (Int32.toNatClampNeg l1)) S))))
set_option maxRecDepth 20000 in
theorem rfX5_at (d N : Nat) (n0 : Nat) (l1 : Int32) (S : St) (z : (Int32 × St)) (h : fX5_at N n0 l1 S = some z) : am_C (d + 1) 49 [.ref (TA n0), .int l1] (am_T0 S) (some (.int z.1), am_T0 z.2) := by
  unfold fX5_at at h
  show am_Rn (am_C (d + 0)) (am_ct 49) (am_rk 49) (some (.int z.1), am_T0 z.2) (0, [some (.ref (TA n0)), some (.int l1)], [], am_T0 S)
  refine am_Rn.op _ (1, [some (.ref (TA n0)), some (.int l1)], [.int l1], am_T0 S) rfl rfl ?_
  refine am_Rn.op _ (if l1 < 0 then 30 else 4, [some (.ref (TA n0)), some (.int l1)], [], am_T0 S) rfl rfl ?_
  rcases l2_i h with ⟨hc, h⟩ | ⟨hc, h⟩
  · refine am_Rn.ifT hc ?_
    refine am_Rn.op _ (31, [some (.ref (TA n0)), some (.int l1)], [.int (-1)], am_T0 S) rfl rfl ?_
    exact rfX5_at_31 d N (-1) S _ h _ _
  · refine am_Rn.ifF hc ?_
    refine am_Rn.op _ (5, [some (.ref (TA n0)), some (.int l1)], [.int l1], am_T0 S) rfl rfl ?_
    refine am_Rn.op _ (6, [some (.ref (TA n0)), some (.int l1)], [.ref (TA n0), .int l1], am_T0 S) rfl rfl ?_
    refine am_Rn.getf rfl (l2_isO n0 S) rfl ?_
    show am_Rn _ _ _ _ (9, [some (.ref (TA n0)), some (.int l1)], [.int (S.1 (TA n0) 1), .int l1], am_T0 S)
    refine am_Rn.op _ (if (S.1 (TA n0) 1) ≤ l1 then 30 else 12, [some (.ref (TA n0)), some (.int l1)], [], am_T0 S) rfl rfl ?_
    rcases l2_i h with ⟨hc, h⟩ | ⟨hc, h⟩
    · refine am_Rn.ifT hc ?_
      refine am_Rn.op _ (31, [some (.ref (TA n0)), some (.int l1)], [.int (-1)], am_T0 S) rfl rfl ?_
      exact rfX5_at_31 d N (-1) S _ h _ _
    · refine am_Rn.ifF hc ?_
      refine am_Rn.op _ (13, [some (.ref (TA n0)), some (.int l1)], [.int l1], am_T0 S) rfl rfl ?_
      refine am_Rn.op _ (14, [some (.ref (TA n0)), some (.int l1)], [.ref (TA n0), .int l1], am_T0 S) rfl rfl ?_
      refine am_Rn.getf rfl (l2_isO n0 S) (l2_ref n0 0 S (by decide) rfl) ?_
      show am_Rn _ _ _ _ (17, [some (.ref (TA n0)), some (.int l1)], [.ref (TA n0 + 1), .int l1], am_T0 S)
      refine am_Rn.alen (n := 60) rfl (l2_alen n0 1 S (by decide) (by decide) (by decide)) ?_
      show am_Rn _ _ _ _ (18, [some (.ref (TA n0)), some (.int l1)], [.int 60, .int l1], am_T0 S)
      refine am_Rn.op _ (if 60 ≤ l1 then 30 else 21, [some (.ref (TA n0)), some (.int l1)], [], am_T0 S) rfl rfl ?_
      rcases l2_i h with ⟨hc, h⟩ | ⟨hc, h⟩
      · refine am_Rn.ifT hc ?_
        refine am_Rn.op _ (31, [some (.ref (TA n0)), some (.int l1)], [.int (-1)], am_T0 S) rfl rfl ?_
        exact rfX5_at_31 d N (-1) S _ h _ _
      · refine am_Rn.ifF hc ?_
        refine am_Rn.op _ (22, [some (.ref (TA n0)), some (.int l1)], [.ref (TA n0)], am_T0 S) rfl rfl ?_
        refine am_Rn.getf rfl (l2_isO n0 S) (l2_ref n0 0 S (by decide) rfl) ?_
        show am_Rn _ _ _ _ (25, [some (.ref (TA n0)), some (.int l1)], [.ref (TA n0 + 1)], am_T0 S)
        refine am_Rn.op _ (26, [some (.ref (TA n0)), some (.int l1)], [.int l1, .ref (TA n0 + 1)], am_T0 S) rfl rfl ?_
        obtain ⟨hb1, h⟩ := l2_n h
        refine am_Rn.iald (n := 60) rfl (l2_len n0 1 S (by decide) (by decide)) hb1 ?_
        show am_Rn _ _ _ _ (27, [some (.ref (TA n0)), some (.int l1)], [.int (S.1 (TA n0 + 1) (Int32.toNatClampNeg l1))], am_T0 S)
        refine am_Rn.op _ (31, [some (.ref (TA n0)), some (.int l1)], [.int (S.1 (TA n0 + 1) (Int32.toNatClampNeg l1))], am_T0 S) rfl rfl ?_
        exact rfX5_at_31 d N (S.1 (TA n0 + 1) (Int32.toNatClampNeg l1)) S _ h _ _
-- X2_leaveBy
def PfX2_leaveBy_2 (d : Nat) (res : Option Value × am_S) (l1 : Int32) (x : Int32 × St) : Prop := am_Rn (am_C d) (am_ct 21) (am_rk 21) res (2, [some (.ref 20), some (.int l1), some (.int x.1)], [], am_T0 x.2)
def QfX2_leaveBy_2 (d : Nat) (res : Option Value × am_S) (l1 : Int32) (y : St) : Prop := res = (none, am_T0 y)
def bfX2_leaveBy_2 (N : Nat) (l1 : Int32) (x : Int32 × St) : Option ((Int32 × St) ⊕ (St)) := (if 4 ≤ x.1 then some (.inr x.2) else (if x.1 < 0 ∨ 4 ≤ Int32.toNatClampNeg x.1 then none else (fX7_lower N 33 ((l1 * 4) + x.1) ((x.2.1 31 (Int32.toNatClampNeg x.1)) + 1) x.2).bind (fun q2 => (if x.1 < 0 ∨ 4 ≤ Int32.toNatClampNeg x.1 then none else some (.inl ((x.1 + 1), (st_i q2 31 (Int32.toNatClampNeg x.1) 1000000)))))))
def fX2_leaveBy_2 (N : Nat) (l1 : Int32) (x : Int32 × St) : Option (St) := whl N (bfX2_leaveBy_2 N l1 ) x
set_option maxRecDepth 20000 in
theorem rbfX2_leaveBy_2 (d N : Nat) (res : Option Value × am_S) (l1 : Int32) (x : Int32 × St) (z : (Int32 × St) ⊕ (St)) (h : bfX2_leaveBy_2 N l1 x = some z) (hz : Sum.elim (PfX2_leaveBy_2 (d + 1) res l1 ) (QfX2_leaveBy_2 (d + 1) res l1 ) z) : PfX2_leaveBy_2 (d + 1) res l1 x := by
  unfold bfX2_leaveBy_2 at h
  show am_Rn (am_C (d + 1)) (am_ct 21) (am_rk 21) res (2, [some (.ref 20), some (.int l1), some (.int x.1)], [], am_T0 x.2)
  refine am_Rn.op _ (3, [some (.ref 20), some (.int l1), some (.int x.1)], [.int x.1], am_T0 x.2) rfl rfl ?_
  refine am_Rn.op _ (4, [some (.ref 20), some (.int l1), some (.int x.1)], [.int 4, .int x.1], am_T0 x.2) rfl rfl ?_
  refine am_Rn.op _ (if 4 ≤ x.1 then 41 else 7, [some (.ref 20), some (.int l1), some (.int x.1)], [], am_T0 x.2) rfl rfl ?_
  rcases l2_i h with ⟨hc, h⟩ | ⟨hc, h⟩
  · refine am_Rn.ifT hc ?_
    cases h
    exact am_Rn.rt2 _ rfl rfl hz
  · refine am_Rn.ifF hc ?_
    refine am_Rn.op _ (8, [some (.ref 20), some (.int l1), some (.int x.1)], [.ref 20], am_T0 x.2) rfl rfl ?_
    refine am_Rn.op _ (11, [some (.ref 20), some (.int l1), some (.int x.1)], [.ref 33], am_T0 x.2) rfl rfl ?_
    refine am_Rn.op _ (12, [some (.ref 20), some (.int l1), some (.int x.1)], [.int l1, .ref 33], am_T0 x.2) rfl rfl ?_
    refine am_Rn.op _ (13, [some (.ref 20), some (.int l1), some (.int x.1)], [.int 4, .int l1, .ref 33], am_T0 x.2) rfl rfl ?_
    refine am_Rn.op _ (14, [some (.ref 20), some (.int l1), some (.int x.1)], [.int (l1 * 4), .ref 33], am_T0 x.2) rfl rfl ?_
    refine am_Rn.op _ (15, [some (.ref 20), some (.int l1), some (.int x.1)], [.int x.1, .int (l1 * 4), .ref 33], am_T0 x.2) rfl rfl ?_
    refine am_Rn.op _ (16, [some (.ref 20), some (.int l1), some (.int x.1)], [.int ((l1 * 4) + x.1), .ref 33], am_T0 x.2) rfl rfl ?_
    refine am_Rn.op _ (17, [some (.ref 20), some (.int l1), some (.int x.1)], [.ref 20, .int ((l1 * 4) + x.1), .ref 33], am_T0 x.2) rfl rfl ?_
    refine am_Rn.op _ (20, [some (.ref 20), some (.int l1), some (.int x.1)], [.ref 31, .int ((l1 * 4) + x.1), .ref 33], am_T0 x.2) rfl rfl ?_
    refine am_Rn.op _ (21, [some (.ref 20), some (.int l1), some (.int x.1)], [.int x.1, .ref 31, .int ((l1 * 4) + x.1), .ref 33], am_T0 x.2) rfl rfl ?_
    obtain ⟨hb1, h⟩ := l2_n h
    refine am_Rn.iald (n := 4) rfl rfl hb1 ?_
    show am_Rn _ _ _ _ (22, [some (.ref 20), some (.int l1), some (.int x.1)], [.int (x.2.1 31 (Int32.toNatClampNeg x.1)), .int ((l1 * 4) + x.1), .ref 33], am_T0 x.2)
    refine am_Rn.op _ (23, [some (.ref 20), some (.int l1), some (.int x.1)], [.int 1, .int (x.2.1 31 (Int32.toNatClampNeg x.1)), .int ((l1 * 4) + x.1), .ref 33], am_T0 x.2) rfl rfl ?_
    refine am_Rn.op _ (24, [some (.ref 20), some (.int l1), some (.int x.1)], [.int ((x.2.1 31 (Int32.toNatClampNeg x.1)) + 1), .int ((l1 * 4) + x.1), .ref 33], am_T0 x.2) rfl rfl ?_
    obtain ⟨q2, hq2, h⟩ := l2_b h
    refine am_Rn.cl _ none (am_T0 q2) rfl rfl (rfX7_lower (d + 0) N 33 ((l1 * 4) + x.1) ((x.2.1 31 (Int32.toNatClampNeg x.1)) + 1) rfl x.2 q2 hq2) ?_
    show am_Rn _ _ _ _ (27, [some (.ref 20), some (.int l1), some (.int x.1)], [], am_T0 q2)
    refine am_Rn.op _ (28, [some (.ref 20), some (.int l1), some (.int x.1)], [.ref 20], am_T0 q2) rfl rfl ?_
    refine am_Rn.op _ (31, [some (.ref 20), some (.int l1), some (.int x.1)], [.ref 31], am_T0 q2) rfl rfl ?_
    refine am_Rn.op _ (32, [some (.ref 20), some (.int l1), some (.int x.1)], [.int x.1, .ref 31], am_T0 q2) rfl rfl ?_
    refine am_Rn.op _ (34, [some (.ref 20), some (.int l1), some (.int x.1)], [.int 1000000, .int x.1, .ref 31], am_T0 q2) rfl rfl ?_
    obtain ⟨hb3, h⟩ := l2_n h
    refine am_Rn.iast (n := 4) rfl rfl hb3 ?_
    show am_Rn _ _ _ _ (35, [some (.ref 20), some (.int l1), some (.int x.1)], [], am_T0 (st_i q2 31 (Int32.toNatClampNeg x.1) 1000000))
    refine am_Rn.op _ (38, [some (.ref 20), some (.int l1), some (.int (x.1 + 1))], [], am_T0 (st_i q2 31 (Int32.toNatClampNeg x.1) 1000000)) rfl rfl ?_
    refine am_Rn.op _ (2, [some (.ref 20), some (.int l1), some (.int (x.1 + 1))], [], am_T0 (st_i q2 31 (Int32.toNatClampNeg x.1) 1000000)) rfl rfl ?_
    cases h
    exact hz 
theorem rfX2_leaveBy_2 (d N : Nat) (res : Option Value × am_S) (l1 : Int32) (x : Int32 × St) (y : St) (h : fX2_leaveBy_2 N l1 x = some y) (hq : QfX2_leaveBy_2 (d + 1) res l1 y) : PfX2_leaveBy_2 (d + 1) res l1 x := whl_ind _ _ (fun x z => rbfX2_leaveBy_2 d N res l1 x z) N x y h hq
def fX2_leaveBy (N : Nat) (l1 : Int32) (S : St) : Option St := (fX2_leaveBy_2 N l1 (0, S)).bind (fun y4 => some y4)
set_option maxRecDepth 20000 in
theorem rfX2_leaveBy (d N : Nat) (l1 : Int32) (S : St) (z : St) (h : fX2_leaveBy N l1 S = some z) : am_C (d + 2) 21 [.ref 20, .int l1] (am_T0 S) (none, am_T0 z) := by
  unfold fX2_leaveBy at h
  show am_Rn (am_C (d + 1)) (am_ct 21) (am_rk 21) (none, am_T0 z) (0, [some (.ref 20), some (.int l1), none], [], am_T0 S)
  refine am_Rn.op _ (1, [some (.ref 20), some (.int l1), none], [.int 0], am_T0 S) rfl rfl ?_
  refine am_Rn.op _ (2, [some (.ref 20), some (.int l1), some (.int 0)], [], am_T0 S) rfl rfl ?_
  obtain ⟨y4, hy4, h⟩ := l2_b h
  refine rfX2_leaveBy_2 d N _ l1 (0, S) y4 hy4 ?_ 
  cases h
  exact rfl
-- X2_turn
def PfX2_turn_11 (d : Nat) (res : Option Value × am_S) (l1 : Int32) (l2 : Int32) (x : Int32 × St) : Prop := am_Rn (am_C d) (am_ct 22) (am_rk 22) res (11, [some (.ref 20), some (.int l1), some (.int l2), some (.int x.1)], [], am_T0 x.2)
def QfX2_turn_11 (d : Nat) (res : Option Value × am_S) (l1 : Int32) (l2 : Int32) (y : St) : Prop := res = (none, am_T0 y)
def fX2_turn_35 (N : Nat) (l1 : Int32) (l2 : Int32) (l3 : Int32) (s1 : Int32) (S : St) : Option ((Int32 × St) ⊕ (St)) := (if l3 < 0 ∨ 4 ≤ Int32.toNatClampNeg l3 then none else (fX7_lower N 32 s1 ((S.1 31 (Int32.toNatClampNeg l3)) + 1) S).bind (fun q2 => some (.inl ((l3 + 1), q2))))
set_option maxRecDepth 20000 in
theorem rfX2_turn_35 (d N : Nat) (res : Option Value × am_S) (l1 : Int32) (l2 : Int32) (l3 : Int32) (s1 : Int32) (S : St) (z : (Int32 × St) ⊕ (St)) (h : fX2_turn_35 N l1 l2 l3 s1 S = some z) (hz : Sum.elim (PfX2_turn_11 (d + 1) res l1 l2 ) (QfX2_turn_11 (d + 1) res l1 l2 ) z) : am_Rn (am_C (d + 1)) (am_ct 22) (am_rk 22) res (35, [some (.ref 20), some (.int l1), some (.int l2), some (.int l3)], [.int s1, .ref 32], am_T0 S) := by
  unfold fX2_turn_35 at h
  refine am_Rn.op _ (36, [some (.ref 20), some (.int l1), some (.int l2), some (.int l3)], [.ref 20, .int s1, .ref 32], am_T0 S) rfl rfl ?_
  refine am_Rn.op _ (39, [some (.ref 20), some (.int l1), some (.int l2), some (.int l3)], [.ref 31, .int s1, .ref 32], am_T0 S) rfl rfl ?_
  refine am_Rn.op _ (40, [some (.ref 20), some (.int l1), some (.int l2), some (.int l3)], [.int l3, .ref 31, .int s1, .ref 32], am_T0 S) rfl rfl ?_
  obtain ⟨hb1, h⟩ := l2_n h
  refine am_Rn.iald (n := 4) rfl rfl hb1 ?_
  show am_Rn _ _ _ _ (41, [some (.ref 20), some (.int l1), some (.int l2), some (.int l3)], [.int (S.1 31 (Int32.toNatClampNeg l3)), .int s1, .ref 32], am_T0 S)
  refine am_Rn.op _ (42, [some (.ref 20), some (.int l1), some (.int l2), some (.int l3)], [.int 1, .int (S.1 31 (Int32.toNatClampNeg l3)), .int s1, .ref 32], am_T0 S) rfl rfl ?_
  refine am_Rn.op _ (43, [some (.ref 20), some (.int l1), some (.int l2), some (.int l3)], [.int ((S.1 31 (Int32.toNatClampNeg l3)) + 1), .int s1, .ref 32], am_T0 S) rfl rfl ?_
  obtain ⟨q2, hq2, h⟩ := l2_b h
  refine am_Rn.cl _ none (am_T0 q2) rfl rfl (rfX7_lower (d + 0) N 32 s1 ((S.1 31 (Int32.toNatClampNeg l3)) + 1) rfl S q2 hq2) ?_
  show am_Rn _ _ _ _ (46, [some (.ref 20), some (.int l1), some (.int l2), some (.int l3)], [], am_T0 q2)
  refine am_Rn.op _ (49, [some (.ref 20), some (.int l1), some (.int l2), some (.int (l3 + 1))], [], am_T0 q2) rfl rfl ?_
  refine am_Rn.op _ (11, [some (.ref 20), some (.int l1), some (.int l2), some (.int (l3 + 1))], [], am_T0 q2) rfl rfl ?_
  cases h
  exact hz 
def bfX2_turn_11 (N : Nat) (l1 : Int32) (l2 : Int32) (x : Int32 × St) : Option ((Int32 × St) ⊕ (St)) := (if 4 ≤ x.1 then some (.inr (st_c x.2 31 (va_cpy (x.2.1 32) (x.2.1 31) (Int32.toNatClampNeg 0) (Int32.toNatClampNeg 0) (Int32.toNatClampNeg 4)))) else (if l2 = 0 then fX2_turn_35 N l1 l2 x.1 (x.1 &&& (l1 ^^^ (-1))) x.2 else fX2_turn_35 N l1 l2 x.1 (x.1 ||| l1) x.2))
def fX2_turn_11 (N : Nat) (l1 : Int32) (l2 : Int32) (x : Int32 × St) : Option (St) := whl N (bfX2_turn_11 N l1 l2 ) x
set_option maxRecDepth 20000 in
theorem rbfX2_turn_11 (d N : Nat) (res : Option Value × am_S) (l1 : Int32) (l2 : Int32) (x : Int32 × St) (z : (Int32 × St) ⊕ (St)) (h : bfX2_turn_11 N l1 l2 x = some z) (hz : Sum.elim (PfX2_turn_11 (d + 1) res l1 l2 ) (QfX2_turn_11 (d + 1) res l1 l2 ) z) : PfX2_turn_11 (d + 1) res l1 l2 x := by
  unfold bfX2_turn_11 at h
  show am_Rn (am_C (d + 1)) (am_ct 22) (am_rk 22) res (11, [some (.ref 20), some (.int l1), some (.int l2), some (.int x.1)], [], am_T0 x.2)
  refine am_Rn.op _ (12, [some (.ref 20), some (.int l1), some (.int l2), some (.int x.1)], [.int x.1], am_T0 x.2) rfl rfl ?_
  refine am_Rn.op _ (13, [some (.ref 20), some (.int l1), some (.int l2), some (.int x.1)], [.int 4, .int x.1], am_T0 x.2) rfl rfl ?_
  refine am_Rn.op _ (if 4 ≤ x.1 then 52 else 16, [some (.ref 20), some (.int l1), some (.int l2), some (.int x.1)], [], am_T0 x.2) rfl rfl ?_
  rcases l2_i h with ⟨hc, h⟩ | ⟨hc, h⟩
  · refine am_Rn.ifT hc ?_
    refine am_Rn.op _ (53, [some (.ref 20), some (.int l1), some (.int l2), some (.int x.1)], [.ref 20], am_T0 x.2) rfl rfl ?_
    refine am_Rn.op _ (56, [some (.ref 20), some (.int l1), some (.int l2), some (.int x.1)], [.ref 32], am_T0 x.2) rfl rfl ?_
    refine am_Rn.op _ (57, [some (.ref 20), some (.int l1), some (.int l2), some (.int x.1)], [.int 0, .ref 32], am_T0 x.2) rfl rfl ?_
    refine am_Rn.op _ (58, [some (.ref 20), some (.int l1), some (.int l2), some (.int x.1)], [.ref 20, .int 0, .ref 32], am_T0 x.2) rfl rfl ?_
    refine am_Rn.op _ (61, [some (.ref 20), some (.int l1), some (.int l2), some (.int x.1)], [.ref 31, .int 0, .ref 32], am_T0 x.2) rfl rfl ?_
    refine am_Rn.op _ (62, [some (.ref 20), some (.int l1), some (.int l2), some (.int x.1)], [.int 0, .ref 31, .int 0, .ref 32], am_T0 x.2) rfl rfl ?_
    refine am_Rn.op _ (63, [some (.ref 20), some (.int l1), some (.int l2), some (.int x.1)], [.int 4, .int 0, .ref 31, .int 0, .ref 32], am_T0 x.2) rfl rfl ?_
    refine am_Rn.copy rfl rfl rfl (fun q => absurd q (by rw [show (am_T0 x.2).2.2 = 148 from rfl]; decide)) ?_
    show am_Rn _ _ _ _ (66, [some (.ref 20), some (.int l1), some (.int l2), some (.int x.1)], [], am_T0 (st_c x.2 31 (va_cpy (x.2.1 32) (x.2.1 31) (Int32.toNatClampNeg 0) (Int32.toNatClampNeg 0) (Int32.toNatClampNeg 4))))
    cases h
    exact am_Rn.rt2 _ rfl rfl hz
  · refine am_Rn.ifF hc ?_
    refine am_Rn.op _ (17, [some (.ref 20), some (.int l1), some (.int l2), some (.int x.1)], [.ref 20], am_T0 x.2) rfl rfl ?_
    refine am_Rn.op _ (20, [some (.ref 20), some (.int l1), some (.int l2), some (.int x.1)], [.ref 32], am_T0 x.2) rfl rfl ?_
    refine am_Rn.op _ (21, [some (.ref 20), some (.int l1), some (.int l2), some (.int x.1)], [.int l2, .ref 32], am_T0 x.2) rfl rfl ?_
    refine am_Rn.op _ (if l2 = 0 then 30 else 24, [some (.ref 20), some (.int l1), some (.int l2), some (.int x.1)], [.ref 32], am_T0 x.2) rfl rfl ?_
    rcases l2_i h with ⟨hc, h⟩ | ⟨hc, h⟩
    · refine am_Rn.ifT hc ?_
      refine am_Rn.op _ (31, [some (.ref 20), some (.int l1), some (.int l2), some (.int x.1)], [.int x.1, .ref 32], am_T0 x.2) rfl rfl ?_
      refine am_Rn.op _ (32, [some (.ref 20), some (.int l1), some (.int l2), some (.int x.1)], [.int l1, .int x.1, .ref 32], am_T0 x.2) rfl rfl ?_
      refine am_Rn.op _ (33, [some (.ref 20), some (.int l1), some (.int l2), some (.int x.1)], [.int (-1), .int l1, .int x.1, .ref 32], am_T0 x.2) rfl rfl ?_
      refine am_Rn.op _ (34, [some (.ref 20), some (.int l1), some (.int l2), some (.int x.1)], [.int (l1 ^^^ (-1)), .int x.1, .ref 32], am_T0 x.2) rfl rfl ?_
      refine am_Rn.op _ (35, [some (.ref 20), some (.int l1), some (.int l2), some (.int x.1)], [.int (x.1 &&& (l1 ^^^ (-1))), .ref 32], am_T0 x.2) rfl rfl ?_
      exact rfX2_turn_35 d N _ l1 l2 x.1 (x.1 &&& (l1 ^^^ (-1))) x.2 _ h hz 
    · refine am_Rn.ifF hc ?_
      refine am_Rn.op _ (25, [some (.ref 20), some (.int l1), some (.int l2), some (.int x.1)], [.int x.1, .ref 32], am_T0 x.2) rfl rfl ?_
      refine am_Rn.op _ (26, [some (.ref 20), some (.int l1), some (.int l2), some (.int x.1)], [.int l1, .int x.1, .ref 32], am_T0 x.2) rfl rfl ?_
      refine am_Rn.op _ (27, [some (.ref 20), some (.int l1), some (.int l2), some (.int x.1)], [.int (x.1 ||| l1), .ref 32], am_T0 x.2) rfl rfl ?_
      refine am_Rn.op _ (35, [some (.ref 20), some (.int l1), some (.int l2), some (.int x.1)], [.int (x.1 ||| l1), .ref 32], am_T0 x.2) rfl rfl ?_
      exact rfX2_turn_35 d N _ l1 l2 x.1 (x.1 ||| l1) x.2 _ h hz 
theorem rfX2_turn_11 (d N : Nat) (res : Option Value × am_S) (l1 : Int32) (l2 : Int32) (x : Int32 × St) (y : St) (h : fX2_turn_11 N l1 l2 x = some y) (hq : QfX2_turn_11 (d + 1) res l1 l2 y) : PfX2_turn_11 (d + 1) res l1 l2 x := whl_ind _ _ (fun x z => rbfX2_turn_11 d N res l1 l2 x z) N x y h hq
def fX2_turn (N : Nat) (l1 : Int32) (l2 : Int32) (S : St) : Option St := (fJ7_fill_53178 N 32 1000000 S).bind (fun q3 => (fX2_turn_11 N l1 l2 (0, q3)).bind (fun y4 => some y4))
set_option maxRecDepth 20000 in
theorem rfX2_turn (d N : Nat) (l1 : Int32) (l2 : Int32) (S : St) (z : St) (h : fX2_turn N l1 l2 S = some z) : am_C (d + 2) 22 [.ref 20, .int l1, .int l2] (am_T0 S) (none, am_T0 z) := by
  unfold fX2_turn at h
  show am_Rn (am_C (d + 1)) (am_ct 22) (am_rk 22) (none, am_T0 z) (0, [some (.ref 20), some (.int l1), some (.int l2), none], [], am_T0 S)
  refine am_Rn.op _ (1, [some (.ref 20), some (.int l1), some (.int l2), none], [.ref 20], am_T0 S) rfl rfl ?_
  refine am_Rn.op _ (4, [some (.ref 20), some (.int l1), some (.int l2), none], [.ref 32], am_T0 S) rfl rfl ?_
  refine am_Rn.op _ (6, [some (.ref 20), some (.int l1), some (.int l2), none], [.int 1000000, .ref 32], am_T0 S) rfl rfl ?_
  obtain ⟨q3, hq3, h⟩ := l2_b h
  refine am_Rn.cl _ none (am_T0 q3) rfl rfl (rfJ7_fill_53178 (d + 0) N 32 1000000 rfl S q3 hq3) ?_
  show am_Rn _ _ _ _ (9, [some (.ref 20), some (.int l1), some (.int l2), none], [], am_T0 q3)
  refine am_Rn.op _ (10, [some (.ref 20), some (.int l1), some (.int l2), none], [.int 0], am_T0 q3) rfl rfl ?_
  refine am_Rn.op _ (11, [some (.ref 20), some (.int l1), some (.int l2), some (.int 0)], [], am_T0 q3) rfl rfl ?_
  obtain ⟨y4, hy4, h⟩ := l2_b h
  refine rfX2_turn_11 d N _ l1 l2 (0, q3) y4 hy4 ?_ 
  cases h
  exact rfl
-- X2_goOn
def PfX2_goOn_2 (d : Nat) (res : Option Value × am_S) (a1 : Nat) (x : Int32 × St) : Prop := am_Rn (am_C d) (am_ct 30) (am_rk 30) res (2, [some (.ref 20), some (.ref a1), some (.int x.1)], [], am_T0 x.2)
def QfX2_goOn_2 (d : Nat) (res : Option Value × am_S) (a1 : Nat) (y : St) : Prop := res = (none, am_T0 y)
def fX2_goOn_42 (N : Nat) (a1 : Nat) (l2 : Int32) (S : St) : Option ((Int32 × St) ⊕ (St)) := some (.inl ((l2 + 1), S))
set_option maxRecDepth 20000 in
theorem rfX2_goOn_42 (d N : Nat) (res : Option Value × am_S) (a1 : Nat) (l2 : Int32) (ha1 : isIA a1 = true) (S : St) (z : (Int32 × St) ⊕ (St)) (h : fX2_goOn_42 N a1 l2 S = some z) (hz : Sum.elim (PfX2_goOn_2 (d + 1) res a1 ) (QfX2_goOn_2 (d + 1) res a1 ) z) : am_Rn (am_C (d + 1)) (am_ct 30) (am_rk 30) res (42, [some (.ref 20), some (.ref a1), some (.int l2)], [], am_T0 S) := by
  unfold fX2_goOn_42 at h
  refine am_Rn.op _ (45, [some (.ref 20), some (.ref a1), some (.int (l2 + 1))], [], am_T0 S) rfl rfl ?_
  refine am_Rn.op _ (2, [some (.ref 20), some (.ref a1), some (.int (l2 + 1))], [], am_T0 S) rfl rfl ?_
  cases h
  exact hz 
def bfX2_goOn_2 (N : Nat) (a1 : Nat) (x : Int32 × St) : Option ((Int32 × St) ⊕ (St)) := (if 32 ≤ x.1 then some (.inr x.2) else (if (nI (alen a1)) ≤ x.1 then some (.inr x.2) else (if 4 ≤ x.1 then (if x.1 < 0 ∨ (alen a1) ≤ Int32.toNatClampNeg x.1 then none else (fX7_lower N 33 x.1 (x.2.1 a1 (Int32.toNatClampNeg x.1)) x.2).bind (fun q2 => fX2_goOn_42 N a1 x.1 q2)) else (if x.1 < 0 ∨ (alen a1) ≤ Int32.toNatClampNeg x.1 then none else (if x.1 < 0 ∨ 4 ≤ Int32.toNatClampNeg x.1 then none else fX2_goOn_42 N a1 x.1 (st_i x.2 31 (Int32.toNatClampNeg x.1) (x.2.1 a1 (Int32.toNatClampNeg x.1))))))))
def fX2_goOn_2 (N : Nat) (a1 : Nat) (x : Int32 × St) : Option (St) := whl N (bfX2_goOn_2 N a1 ) x
set_option maxRecDepth 20000 in
theorem rbfX2_goOn_2 (d N : Nat) (res : Option Value × am_S) (a1 : Nat) (ha1 : isIA a1 = true) (x : Int32 × St) (z : (Int32 × St) ⊕ (St)) (h : bfX2_goOn_2 N a1 x = some z) (hz : Sum.elim (PfX2_goOn_2 (d + 1) res a1 ) (QfX2_goOn_2 (d + 1) res a1 ) z) : PfX2_goOn_2 (d + 1) res a1 x := by
  unfold bfX2_goOn_2 at h
  show am_Rn (am_C (d + 1)) (am_ct 30) (am_rk 30) res (2, [some (.ref 20), some (.ref a1), some (.int x.1)], [], am_T0 x.2)
  refine am_Rn.op _ (3, [some (.ref 20), some (.ref a1), some (.int x.1)], [.int x.1], am_T0 x.2) rfl rfl ?_
  refine am_Rn.op _ (5, [some (.ref 20), some (.ref a1), some (.int x.1)], [.int 32, .int x.1], am_T0 x.2) rfl rfl ?_
  refine am_Rn.op _ (if 32 ≤ x.1 then 48 else 8, [some (.ref 20), some (.ref a1), some (.int x.1)], [], am_T0 x.2) rfl rfl ?_
  rcases l2_i h with ⟨hc, h⟩ | ⟨hc, h⟩
  · refine am_Rn.ifT hc ?_
    cases h
    exact am_Rn.rt2 _ rfl rfl hz
  · refine am_Rn.ifF hc ?_
    refine am_Rn.op _ (9, [some (.ref 20), some (.ref a1), some (.int x.1)], [.int x.1], am_T0 x.2) rfl rfl ?_
    refine am_Rn.op _ (10, [some (.ref 20), some (.ref a1), some (.int x.1)], [.ref a1, .int x.1], am_T0 x.2) rfl rfl ?_
    refine am_Rn.alen (n := (alen a1)) rfl (l2_iaa ha1 x.2) ?_
    show am_Rn _ _ _ _ (11, [some (.ref 20), some (.ref a1), some (.int x.1)], [.int (nI (alen a1)), .int x.1], am_T0 x.2)
    refine am_Rn.op _ (if (nI (alen a1)) ≤ x.1 then 48 else 14, [some (.ref 20), some (.ref a1), some (.int x.1)], [], am_T0 x.2) rfl rfl ?_
    rcases l2_i h with ⟨hc, h⟩ | ⟨hc, h⟩
    · refine am_Rn.ifT hc ?_
      cases h
      exact am_Rn.rt2 _ rfl rfl hz
    · refine am_Rn.ifF hc ?_
      refine am_Rn.op _ (15, [some (.ref 20), some (.ref a1), some (.int x.1)], [.int x.1], am_T0 x.2) rfl rfl ?_
      refine am_Rn.op _ (16, [some (.ref 20), some (.ref a1), some (.int x.1)], [.int 4, .int x.1], am_T0 x.2) rfl rfl ?_
      refine am_Rn.op _ (if 4 ≤ x.1 then 31 else 19, [some (.ref 20), some (.ref a1), some (.int x.1)], [], am_T0 x.2) rfl rfl ?_
      rcases l2_i h with ⟨hc, h⟩ | ⟨hc, h⟩
      · refine am_Rn.ifT hc ?_
        refine am_Rn.op _ (32, [some (.ref 20), some (.ref a1), some (.int x.1)], [.ref 20], am_T0 x.2) rfl rfl ?_
        refine am_Rn.op _ (35, [some (.ref 20), some (.ref a1), some (.int x.1)], [.ref 33], am_T0 x.2) rfl rfl ?_
        refine am_Rn.op _ (36, [some (.ref 20), some (.ref a1), some (.int x.1)], [.int x.1, .ref 33], am_T0 x.2) rfl rfl ?_
        refine am_Rn.op _ (37, [some (.ref 20), some (.ref a1), some (.int x.1)], [.ref a1, .int x.1, .ref 33], am_T0 x.2) rfl rfl ?_
        refine am_Rn.op _ (38, [some (.ref 20), some (.ref a1), some (.int x.1)], [.int x.1, .ref a1, .int x.1, .ref 33], am_T0 x.2) rfl rfl ?_
        obtain ⟨hb1, h⟩ := l2_n h
        refine am_Rn.iald (n := (alen a1)) rfl (l2_ia ha1 x.2) hb1 ?_
        show am_Rn _ _ _ _ (39, [some (.ref 20), some (.ref a1), some (.int x.1)], [.int (x.2.1 a1 (Int32.toNatClampNeg x.1)), .int x.1, .ref 33], am_T0 x.2)
        obtain ⟨q2, hq2, h⟩ := l2_b h
        refine am_Rn.cl _ none (am_T0 q2) rfl rfl (rfX7_lower (d + 0) N 33 x.1 (x.2.1 a1 (Int32.toNatClampNeg x.1)) rfl x.2 q2 hq2) ?_
        show am_Rn _ _ _ _ (42, [some (.ref 20), some (.ref a1), some (.int x.1)], [], am_T0 q2)
        exact rfX2_goOn_42 d N _ a1 x.1 ha1 q2 _ h hz 
      · refine am_Rn.ifF hc ?_
        refine am_Rn.op _ (20, [some (.ref 20), some (.ref a1), some (.int x.1)], [.ref 20], am_T0 x.2) rfl rfl ?_
        refine am_Rn.op _ (23, [some (.ref 20), some (.ref a1), some (.int x.1)], [.ref 31], am_T0 x.2) rfl rfl ?_
        refine am_Rn.op _ (24, [some (.ref 20), some (.ref a1), some (.int x.1)], [.int x.1, .ref 31], am_T0 x.2) rfl rfl ?_
        refine am_Rn.op _ (25, [some (.ref 20), some (.ref a1), some (.int x.1)], [.ref a1, .int x.1, .ref 31], am_T0 x.2) rfl rfl ?_
        refine am_Rn.op _ (26, [some (.ref 20), some (.ref a1), some (.int x.1)], [.int x.1, .ref a1, .int x.1, .ref 31], am_T0 x.2) rfl rfl ?_
        obtain ⟨hb3, h⟩ := l2_n h
        refine am_Rn.iald (n := (alen a1)) rfl (l2_ia ha1 x.2) hb3 ?_
        show am_Rn _ _ _ _ (27, [some (.ref 20), some (.ref a1), some (.int x.1)], [.int (x.2.1 a1 (Int32.toNatClampNeg x.1)), .int x.1, .ref 31], am_T0 x.2)
        obtain ⟨hb4, h⟩ := l2_n h
        refine am_Rn.iast (n := 4) rfl rfl hb4 ?_
        show am_Rn _ _ _ _ (28, [some (.ref 20), some (.ref a1), some (.int x.1)], [], am_T0 (st_i x.2 31 (Int32.toNatClampNeg x.1) (x.2.1 a1 (Int32.toNatClampNeg x.1))))
        refine am_Rn.op _ (42, [some (.ref 20), some (.ref a1), some (.int x.1)], [], am_T0 (st_i x.2 31 (Int32.toNatClampNeg x.1) (x.2.1 a1 (Int32.toNatClampNeg x.1)))) rfl rfl ?_
        exact rfX2_goOn_42 d N _ a1 x.1 ha1 (st_i x.2 31 (Int32.toNatClampNeg x.1) (x.2.1 a1 (Int32.toNatClampNeg x.1))) _ h hz 
theorem rfX2_goOn_2 (d N : Nat) (res : Option Value × am_S) (a1 : Nat) (ha1 : isIA a1 = true) (x : Int32 × St) (y : St) (h : fX2_goOn_2 N a1 x = some y) (hq : QfX2_goOn_2 (d + 1) res a1 y) : PfX2_goOn_2 (d + 1) res a1 x := whl_ind _ _ (fun x z => rbfX2_goOn_2 d N res a1 ha1 x z) N x y h hq
def fX2_goOn (N : Nat) (a1 : Nat) (S : St) : Option St := (fX2_goOn_2 N a1 (0, S)).bind (fun y5 => some y5)
set_option maxRecDepth 20000 in
theorem rfX2_goOn (d N : Nat) (a1 : Nat) (ha1 : isIA a1 = true) (S : St) (z : St) (h : fX2_goOn N a1 S = some z) : am_C (d + 2) 30 [.ref 20, .ref a1] (am_T0 S) (none, am_T0 z) := by
  unfold fX2_goOn at h
  show am_Rn (am_C (d + 1)) (am_ct 30) (am_rk 30) (none, am_T0 z) (0, [some (.ref 20), some (.ref a1), none], [], am_T0 S)
  refine am_Rn.op _ (1, [some (.ref 20), some (.ref a1), none], [.int 0], am_T0 S) rfl rfl ?_
  refine am_Rn.op _ (2, [some (.ref 20), some (.ref a1), some (.int 0)], [], am_T0 S) rfl rfl ?_
  obtain ⟨y5, hy5, h⟩ := l2_b h
  refine rfX2_goOn_2 d N _ a1 ha1 (0, S) y5 hy5 ?_ 
  cases h
  exact rfl
-- X2_call
def PfX2_call_11 (d : Nat) (res : Option Value × am_S) (l1 : Int32) (x : Int32 × St) : Prop := ∀ (w3 w4 : Option Value), am_Rn (am_C d) (am_ct 23) (am_rk 23) res (11, [some (.ref 20), some (.int l1), some (.int x.1), w3, w4], [], am_T0 x.2)
def QfX2_call_11 (d : Nat) (res : Option Value × am_S) (l1 : Int32) (y : St) : Prop := res = (none, am_T0 y)
def PfX2_call_18 (d : Nat) (res : Option Value × am_S) (l1 : Int32) (l2 : Int32) (x : Int32 × St) : Prop := ∀ (w4 : Option Value), am_Rn (am_C d) (am_ct 23) (am_rk 23) res (18, [some (.ref 20), some (.int l1), some (.int l2), some (.int x.1), w4], [], am_T0 x.2)
def QfX2_call_18 (d : Nat) (res : Option Value × am_S) (l1 : Int32) (l2 : Int32) (y : St) : Prop := ∀ (w3 w4 : Option Value), am_Rn (am_C d) (am_ct 23) (am_rk 23) res (90, [some (.ref 20), some (.int l1), some (.int l2), w3, w4], [], am_T0 y)
def PfX2_call_38 (d : Nat) (res : Option Value × am_S) (l1 : Int32) (l2 : Int32) (l3 : Int32) (x : Int32 × St) : Prop := am_Rn (am_C d) (am_ct 23) (am_rk 23) res (38, [some (.ref 20), some (.int l1), some (.int l2), some (.int l3), some (.int x.1)], [], am_T0 x.2)
def QfX2_call_38 (d : Nat) (res : Option Value × am_S) (l1 : Int32) (l2 : Int32) (l3 : Int32) (y : St) : Prop := ∀ (w4 : Option Value), am_Rn (am_C d) (am_ct 23) (am_rk 23) res (84, [some (.ref 20), some (.int l1), some (.int l2), some (.int l3), w4], [], am_T0 y)
def bfX2_call_38 (N : Nat) (l1 : Int32) (l2 : Int32) (l3 : Int32) (x : Int32 × St) : Option ((Int32 × St) ⊕ (St)) := (if 4 ≤ x.1 then some (.inr (x.2)) else (if l2 < 0 ∨ 4 ≤ Int32.toNatClampNeg l2 then none else (fX0_fewest N l1 l2 l3 x.1 x.2).bind (fun q2 => (fX7_lower N 34 ((l3 * 4) + x.1) (((x.2.1 31 (Int32.toNatClampNeg l2)) + 1) + q2.1) q2.2).bind (fun q3 => some (.inl ((x.1 + 1), q3))))))
def fX2_call_38 (N : Nat) (l1 : Int32) (l2 : Int32) (l3 : Int32) (x : Int32 × St) : Option (St) := whl N (bfX2_call_38 N l1 l2 l3 ) x
set_option maxRecDepth 20000 in
theorem rbfX2_call_38 (d N : Nat) (res : Option Value × am_S) (l1 : Int32) (l2 : Int32) (l3 : Int32) (x : Int32 × St) (z : (Int32 × St) ⊕ (St)) (h : bfX2_call_38 N l1 l2 l3 x = some z) (hz : Sum.elim (PfX2_call_38 (d + 3) res l1 l2 l3 ) (QfX2_call_38 (d + 3) res l1 l2 l3 ) z) : PfX2_call_38 (d + 3) res l1 l2 l3 x := by
  unfold bfX2_call_38 at h
  show am_Rn (am_C (d + 3)) (am_ct 23) (am_rk 23) res (38, [some (.ref 20), some (.int l1), some (.int l2), some (.int l3), some (.int x.1)], [], am_T0 x.2)
  refine am_Rn.op _ (40, [some (.ref 20), some (.int l1), some (.int l2), some (.int l3), some (.int x.1)], [.int x.1], am_T0 x.2) rfl rfl ?_
  refine am_Rn.op _ (41, [some (.ref 20), some (.int l1), some (.int l2), some (.int l3), some (.int x.1)], [.int 4, .int x.1], am_T0 x.2) rfl rfl ?_
  refine am_Rn.op _ (if 4 ≤ x.1 then 84 else 44, [some (.ref 20), some (.int l1), some (.int l2), some (.int l3), some (.int x.1)], [], am_T0 x.2) rfl rfl ?_
  rcases l2_i h with ⟨hc, h⟩ | ⟨hc, h⟩
  · refine am_Rn.ifT hc ?_
    cases h
    exact hz _
  · refine am_Rn.ifF hc ?_
    refine am_Rn.op _ (45, [some (.ref 20), some (.int l1), some (.int l2), some (.int l3), some (.int x.1)], [.ref 20], am_T0 x.2) rfl rfl ?_
    refine am_Rn.op _ (48, [some (.ref 20), some (.int l1), some (.int l2), some (.int l3), some (.int x.1)], [.ref 34], am_T0 x.2) rfl rfl ?_
    refine am_Rn.op _ (49, [some (.ref 20), some (.int l1), some (.int l2), some (.int l3), some (.int x.1)], [.int l3, .ref 34], am_T0 x.2) rfl rfl ?_
    refine am_Rn.op _ (50, [some (.ref 20), some (.int l1), some (.int l2), some (.int l3), some (.int x.1)], [.int 4, .int l3, .ref 34], am_T0 x.2) rfl rfl ?_
    refine am_Rn.op _ (51, [some (.ref 20), some (.int l1), some (.int l2), some (.int l3), some (.int x.1)], [.int (l3 * 4), .ref 34], am_T0 x.2) rfl rfl ?_
    refine am_Rn.op _ (53, [some (.ref 20), some (.int l1), some (.int l2), some (.int l3), some (.int x.1)], [.int x.1, .int (l3 * 4), .ref 34], am_T0 x.2) rfl rfl ?_
    refine am_Rn.op _ (54, [some (.ref 20), some (.int l1), some (.int l2), some (.int l3), some (.int x.1)], [.int ((l3 * 4) + x.1), .ref 34], am_T0 x.2) rfl rfl ?_
    refine am_Rn.op _ (55, [some (.ref 20), some (.int l1), some (.int l2), some (.int l3), some (.int x.1)], [.ref 20, .int ((l3 * 4) + x.1), .ref 34], am_T0 x.2) rfl rfl ?_
    refine am_Rn.op _ (58, [some (.ref 20), some (.int l1), some (.int l2), some (.int l3), some (.int x.1)], [.ref 31, .int ((l3 * 4) + x.1), .ref 34], am_T0 x.2) rfl rfl ?_
    refine am_Rn.op _ (59, [some (.ref 20), some (.int l1), some (.int l2), some (.int l3), some (.int x.1)], [.int l2, .ref 31, .int ((l3 * 4) + x.1), .ref 34], am_T0 x.2) rfl rfl ?_
    obtain ⟨hb1, h⟩ := l2_n h
    refine am_Rn.iald (n := 4) rfl rfl hb1 ?_
    show am_Rn _ _ _ _ (60, [some (.ref 20), some (.int l1), some (.int l2), some (.int l3), some (.int x.1)], [.int (x.2.1 31 (Int32.toNatClampNeg l2)), .int ((l3 * 4) + x.1), .ref 34], am_T0 x.2)
    refine am_Rn.op _ (61, [some (.ref 20), some (.int l1), some (.int l2), some (.int l3), some (.int x.1)], [.int 1, .int (x.2.1 31 (Int32.toNatClampNeg l2)), .int ((l3 * 4) + x.1), .ref 34], am_T0 x.2) rfl rfl ?_
    refine am_Rn.op _ (62, [some (.ref 20), some (.int l1), some (.int l2), some (.int l3), some (.int x.1)], [.int ((x.2.1 31 (Int32.toNatClampNeg l2)) + 1), .int ((l3 * 4) + x.1), .ref 34], am_T0 x.2) rfl rfl ?_
    refine am_Rn.op _ (63, [some (.ref 20), some (.int l1), some (.int l2), some (.int l3), some (.int x.1)], [.ref 20, .int ((x.2.1 31 (Int32.toNatClampNeg l2)) + 1), .int ((l3 * 4) + x.1), .ref 34], am_T0 x.2) rfl rfl ?_
    refine am_Rn.op _ (66, [some (.ref 20), some (.int l1), some (.int l2), some (.int l3), some (.int x.1)], [.ref 18, .int ((x.2.1 31 (Int32.toNatClampNeg l2)) + 1), .int ((l3 * 4) + x.1), .ref 34], am_T0 x.2) rfl rfl ?_
    refine am_Rn.op _ (67, [some (.ref 20), some (.int l1), some (.int l2), some (.int l3), some (.int x.1)], [.int l1, .ref 18, .int ((x.2.1 31 (Int32.toNatClampNeg l2)) + 1), .int ((l3 * 4) + x.1), .ref 34], am_T0 x.2) rfl rfl ?_
    refine am_Rn.op _ (68, [some (.ref 20), some (.int l1), some (.int l2), some (.int l3), some (.int x.1)], [.int l2, .int l1, .ref 18, .int ((x.2.1 31 (Int32.toNatClampNeg l2)) + 1), .int ((l3 * 4) + x.1), .ref 34], am_T0 x.2) rfl rfl ?_
    refine am_Rn.op _ (69, [some (.ref 20), some (.int l1), some (.int l2), some (.int l3), some (.int x.1)], [.int l3, .int l2, .int l1, .ref 18, .int ((x.2.1 31 (Int32.toNatClampNeg l2)) + 1), .int ((l3 * 4) + x.1), .ref 34], am_T0 x.2) rfl rfl ?_
    refine am_Rn.op _ (71, [some (.ref 20), some (.int l1), some (.int l2), some (.int l3), some (.int x.1)], [.int x.1, .int l3, .int l2, .int l1, .ref 18, .int ((x.2.1 31 (Int32.toNatClampNeg l2)) + 1), .int ((l3 * 4) + x.1), .ref 34], am_T0 x.2) rfl rfl ?_
    obtain ⟨q2, hq2, h⟩ := l2_b h
    refine am_Rn.cl _ (some (.int q2.1)) (am_T0 q2.2) rfl rfl (rfX0_fewest (d + 0) N l1 l2 l3 x.1 x.2 q2 hq2) ?_
    show am_Rn _ _ _ _ (74, [some (.ref 20), some (.int l1), some (.int l2), some (.int l3), some (.int x.1)], [.int q2.1, .int ((x.2.1 31 (Int32.toNatClampNeg l2)) + 1), .int ((l3 * 4) + x.1), .ref 34], am_T0 q2.2)
    refine am_Rn.op _ (75, [some (.ref 20), some (.int l1), some (.int l2), some (.int l3), some (.int x.1)], [.int (((x.2.1 31 (Int32.toNatClampNeg l2)) + 1) + q2.1), .int ((l3 * 4) + x.1), .ref 34], am_T0 q2.2) rfl rfl ?_
    obtain ⟨q3, hq3, h⟩ := l2_b h
    refine am_Rn.cl _ none (am_T0 q3) rfl rfl (rfX7_lower (d + 2) N 34 ((l3 * 4) + x.1) (((x.2.1 31 (Int32.toNatClampNeg l2)) + 1) + q2.1) rfl q2.2 q3 hq3) ?_
    show am_Rn _ _ _ _ (78, [some (.ref 20), some (.int l1), some (.int l2), some (.int l3), some (.int x.1)], [], am_T0 q3)
    refine am_Rn.op _ (81, [some (.ref 20), some (.int l1), some (.int l2), some (.int l3), some (.int (x.1 + 1))], [], am_T0 q3) rfl rfl ?_
    refine am_Rn.op _ (38, [some (.ref 20), some (.int l1), some (.int l2), some (.int l3), some (.int (x.1 + 1))], [], am_T0 q3) rfl rfl ?_
    cases h
    exact hz 
theorem rfX2_call_38 (d N : Nat) (res : Option Value × am_S) (l1 : Int32) (l2 : Int32) (l3 : Int32) (x : Int32 × St) (y : St) (h : fX2_call_38 N l1 l2 l3 x = some y) (hq : QfX2_call_38 (d + 3) res l1 l2 l3 y) : PfX2_call_38 (d + 3) res l1 l2 l3 x := whl_ind _ _ (fun x z => rbfX2_call_38 d N res l1 l2 l3 x z) N x y h hq
def bfX2_call_18 (N : Nat) (l1 : Int32) (l2 : Int32) (x : Int32 × St) : Option ((Int32 × St) ⊕ (St)) := (if 7 ≤ x.1 then some (.inr (x.2)) else (if l2 < 0 ∨ 4 ≤ Int32.toNatClampNeg l2 then none else (if 1000000 ≤ (x.2.1 31 (Int32.toNatClampNeg l2)) then some (.inr (x.2)) else (fX2_call_38 N l1 l2 x.1 (0, x.2)).bind (fun y5 => some (.inl ((x.1 + 1), y5))))))
def fX2_call_18 (N : Nat) (l1 : Int32) (l2 : Int32) (x : Int32 × St) : Option (St) := whl N (bfX2_call_18 N l1 l2 ) x
set_option maxRecDepth 20000 in
theorem rbfX2_call_18 (d N : Nat) (res : Option Value × am_S) (l1 : Int32) (l2 : Int32) (x : Int32 × St) (z : (Int32 × St) ⊕ (St)) (h : bfX2_call_18 N l1 l2 x = some z) (hz : Sum.elim (PfX2_call_18 (d + 3) res l1 l2 ) (QfX2_call_18 (d + 3) res l1 l2 ) z) : PfX2_call_18 (d + 3) res l1 l2 x := by
  unfold bfX2_call_18 at h
  show ∀ (w4 : Option Value), am_Rn (am_C (d + 3)) (am_ct 23) (am_rk 23) res (18, [some (.ref 20), some (.int l1), some (.int l2), some (.int x.1), w4], [], am_T0 x.2)
  intro w4
  refine am_Rn.op _ (19, [some (.ref 20), some (.int l1), some (.int l2), some (.int x.1), w4], [.int x.1], am_T0 x.2) rfl rfl ?_
  refine am_Rn.op _ (21, [some (.ref 20), some (.int l1), some (.int l2), some (.int x.1), w4], [.int 7, .int x.1], am_T0 x.2) rfl rfl ?_
  refine am_Rn.op _ (if 7 ≤ x.1 then 90 else 24, [some (.ref 20), some (.int l1), some (.int l2), some (.int x.1), w4], [], am_T0 x.2) rfl rfl ?_
  rcases l2_i h with ⟨hc, h⟩ | ⟨hc, h⟩
  · refine am_Rn.ifT hc ?_
    cases h
    exact hz _ _
  · refine am_Rn.ifF hc ?_
    refine am_Rn.op _ (25, [some (.ref 20), some (.int l1), some (.int l2), some (.int x.1), w4], [.ref 20], am_T0 x.2) rfl rfl ?_
    refine am_Rn.op _ (28, [some (.ref 20), some (.int l1), some (.int l2), some (.int x.1), w4], [.ref 31], am_T0 x.2) rfl rfl ?_
    refine am_Rn.op _ (29, [some (.ref 20), some (.int l1), some (.int l2), some (.int x.1), w4], [.int l2, .ref 31], am_T0 x.2) rfl rfl ?_
    obtain ⟨hb4, h⟩ := l2_n h
    refine am_Rn.iald (n := 4) rfl rfl hb4 ?_
    show am_Rn _ _ _ _ (30, [some (.ref 20), some (.int l1), some (.int l2), some (.int x.1), w4], [.int (x.2.1 31 (Int32.toNatClampNeg l2))], am_T0 x.2)
    refine am_Rn.op _ (32, [some (.ref 20), some (.int l1), some (.int l2), some (.int x.1), w4], [.int 1000000, .int (x.2.1 31 (Int32.toNatClampNeg l2))], am_T0 x.2) rfl rfl ?_
    refine am_Rn.op _ (if 1000000 ≤ (x.2.1 31 (Int32.toNatClampNeg l2)) then 90 else 35, [some (.ref 20), some (.int l1), some (.int l2), some (.int x.1), w4], [], am_T0 x.2) rfl rfl ?_
    rcases l2_i h with ⟨hc, h⟩ | ⟨hc, h⟩
    · refine am_Rn.ifT hc ?_
      cases h
      exact hz _ _
    · refine am_Rn.ifF hc ?_
      refine am_Rn.op _ (36, [some (.ref 20), some (.int l1), some (.int l2), some (.int x.1), w4], [.int 0], am_T0 x.2) rfl rfl ?_
      refine am_Rn.op _ (38, [some (.ref 20), some (.int l1), some (.int l2), some (.int x.1), some (.int 0)], [], am_T0 x.2) rfl rfl ?_
      obtain ⟨y5, hy5, h⟩ := l2_b h
      refine rfX2_call_38 d N _ l1 l2 x.1 (0, x.2) y5 hy5 ?_ 
      intro w6
      show am_Rn _ _ _ _ (84, [some (.ref 20), some (.int l1), some (.int l2), some (.int x.1), w6], [], am_T0 y5)
      refine am_Rn.op _ (87, [some (.ref 20), some (.int l1), some (.int l2), some (.int (x.1 + 1)), w6], [], am_T0 y5) rfl rfl ?_
      refine am_Rn.op _ (18, [some (.ref 20), some (.int l1), some (.int l2), some (.int (x.1 + 1)), w6], [], am_T0 y5) rfl rfl ?_
      cases h
      exact hz _
theorem rfX2_call_18 (d N : Nat) (res : Option Value × am_S) (l1 : Int32) (l2 : Int32) (x : Int32 × St) (y : St) (h : fX2_call_18 N l1 l2 x = some y) (hq : QfX2_call_18 (d + 3) res l1 l2 y) : PfX2_call_18 (d + 3) res l1 l2 x := whl_ind _ _ (fun x z => rbfX2_call_18 d N res l1 l2 x z) N x y h hq
def bfX2_call_11 (N : Nat) (l1 : Int32) (x : Int32 × St) : Option ((Int32 × St) ⊕ (St)) := (if 4 ≤ x.1 then (fX2_goOn N 34 x.2).bind (fun q7 => some (.inr q7)) else (fX2_call_18 N l1 x.1 (0, x.2)).bind (fun y8 => some (.inl ((x.1 + 1), y8))))
def fX2_call_11 (N : Nat) (l1 : Int32) (x : Int32 × St) : Option (St) := whl N (bfX2_call_11 N l1 ) x
set_option maxRecDepth 20000 in
theorem rbfX2_call_11 (d N : Nat) (res : Option Value × am_S) (l1 : Int32) (x : Int32 × St) (z : (Int32 × St) ⊕ (St)) (h : bfX2_call_11 N l1 x = some z) (hz : Sum.elim (PfX2_call_11 (d + 3) res l1 ) (QfX2_call_11 (d + 3) res l1 ) z) : PfX2_call_11 (d + 3) res l1 x := by
  unfold bfX2_call_11 at h
  show ∀ (w3 w4 : Option Value), am_Rn (am_C (d + 3)) (am_ct 23) (am_rk 23) res (11, [some (.ref 20), some (.int l1), some (.int x.1), w3, w4], [], am_T0 x.2)
  intro w3 w4
  refine am_Rn.op _ (12, [some (.ref 20), some (.int l1), some (.int x.1), w3, w4], [.int x.1], am_T0 x.2) rfl rfl ?_
  refine am_Rn.op _ (13, [some (.ref 20), some (.int l1), some (.int x.1), w3, w4], [.int 4, .int x.1], am_T0 x.2) rfl rfl ?_
  refine am_Rn.op _ (if 4 ≤ x.1 then 96 else 16, [some (.ref 20), some (.int l1), some (.int x.1), w3, w4], [], am_T0 x.2) rfl rfl ?_
  rcases l2_i h with ⟨hc, h⟩ | ⟨hc, h⟩
  · refine am_Rn.ifT hc ?_
    refine am_Rn.op _ (97, [some (.ref 20), some (.int l1), some (.int x.1), w3, w4], [.ref 20], am_T0 x.2) rfl rfl ?_
    refine am_Rn.op _ (98, [some (.ref 20), some (.int l1), some (.int x.1), w3, w4], [.ref 20, .ref 20], am_T0 x.2) rfl rfl ?_
    refine am_Rn.op _ (101, [some (.ref 20), some (.int l1), some (.int x.1), w3, w4], [.ref 34, .ref 20], am_T0 x.2) rfl rfl ?_
    obtain ⟨q7, hq7, h⟩ := l2_b h
    refine am_Rn.cl _ none (am_T0 q7) rfl rfl (rfX2_goOn (d + 1) N 34 rfl x.2 q7 hq7) ?_
    show am_Rn _ _ _ _ (104, [some (.ref 20), some (.int l1), some (.int x.1), w3, w4], [], am_T0 q7)
    cases h
    exact am_Rn.rt2 _ rfl rfl hz
  · refine am_Rn.ifF hc ?_
    refine am_Rn.op _ (17, [some (.ref 20), some (.int l1), some (.int x.1), w3, w4], [.int 0], am_T0 x.2) rfl rfl ?_
    refine am_Rn.op _ (18, [some (.ref 20), some (.int l1), some (.int x.1), some (.int 0), w4], [], am_T0 x.2) rfl rfl ?_
    obtain ⟨y8, hy8, h⟩ := l2_b h
    refine rfX2_call_18 d N _ l1 x.1 (0, x.2) y8 hy8 ?_ _
    intro w9 w10
    show am_Rn _ _ _ _ (90, [some (.ref 20), some (.int l1), some (.int x.1), w9, w10], [], am_T0 y8)
    refine am_Rn.op _ (93, [some (.ref 20), some (.int l1), some (.int (x.1 + 1)), w9, w10], [], am_T0 y8) rfl rfl ?_
    refine am_Rn.op _ (11, [some (.ref 20), some (.int l1), some (.int (x.1 + 1)), w9, w10], [], am_T0 y8) rfl rfl ?_
    cases h
    exact hz _ _
theorem rfX2_call_11 (d N : Nat) (res : Option Value × am_S) (l1 : Int32) (x : Int32 × St) (y : St) (h : fX2_call_11 N l1 x = some y) (hq : QfX2_call_11 (d + 3) res l1 y) : PfX2_call_11 (d + 3) res l1 x := whl_ind _ _ (fun x z => rbfX2_call_11 d N res l1 x z) N x y h hq
def fX2_call (N : Nat) (l1 : Int32) (S : St) : Option St := (fJ7_fill_53178 N 34 1000000 S).bind (fun q11 => (fX2_call_11 N l1 (0, q11)).bind (fun y12 => some y12))
set_option maxRecDepth 20000 in
theorem rfX2_call (d N : Nat) (l1 : Int32) (S : St) (z : St) (h : fX2_call N l1 S = some z) : am_C (d + 4) 23 [.ref 20, .int l1] (am_T0 S) (none, am_T0 z) := by
  unfold fX2_call at h
  show am_Rn (am_C (d + 3)) (am_ct 23) (am_rk 23) (none, am_T0 z) (0, [some (.ref 20), some (.int l1), none, none, none], [], am_T0 S)
  refine am_Rn.op _ (1, [some (.ref 20), some (.int l1), none, none, none], [.ref 20], am_T0 S) rfl rfl ?_
  refine am_Rn.op _ (4, [some (.ref 20), some (.int l1), none, none, none], [.ref 34], am_T0 S) rfl rfl ?_
  refine am_Rn.op _ (6, [some (.ref 20), some (.int l1), none, none, none], [.int 1000000, .ref 34], am_T0 S) rfl rfl ?_
  obtain ⟨q11, hq11, h⟩ := l2_b h
  refine am_Rn.cl _ none (am_T0 q11) rfl rfl (rfJ7_fill_53178 (d + 2) N 34 1000000 rfl S q11 hq11) ?_
  show am_Rn _ _ _ _ (9, [some (.ref 20), some (.int l1), none, none, none], [], am_T0 q11)
  refine am_Rn.op _ (10, [some (.ref 20), some (.int l1), none, none, none], [.int 0], am_T0 q11) rfl rfl ?_
  refine am_Rn.op _ (11, [some (.ref 20), some (.int l1), some (.int 0), none, none], [], am_T0 q11) rfl rfl ?_
  obtain ⟨y12, hy12, h⟩ := l2_b h
  refine rfX2_call_11 d N _ l1 (0, q11) y12 hy12 ?_ _ _
  cases h
  exact rfl
-- X5_blockAt
def fX5_blockAt_20 (N : Nat) (s0 : Int32) (S : St) : Option (Int32 × St) := some (s0, S)
set_option maxRecDepth 20000 in
theorem rfX5_blockAt_20 (d N : Nat) (s0 : Int32) (S : St) (z : (Int32 × St)) (h : fX5_blockAt_20 N s0 S = some z) (w0 : Option Value) (w1 : Option Value) : am_Rn (am_C (d + 1)) (am_ct 55) (am_rk 55) (some (.int z.1), am_T0 z.2) (20, [w0, w1], [.int s0], am_T0 S) := by
  unfold fX5_blockAt_20 at h
  cases h
  exact am_Rn.rt _ rfl rfl
def fX5_blockAt (N : Nat) (n0 : Nat) (l1 : Int32) (S : St) : Option (Int32 × St) := (fX5_at N n0 l1 S).bind (fun q1 => (if q1.1 = 123 then (if l1 < 0 ∨ 60 ≤ Int32.toNatClampNeg l1 then none else fX5_blockAt_20 N (q1.2.1 (TA n0 + 2) (Int32.toNatClampNeg l1)) q1.2) else fX5_blockAt_20 N (-1) q1.2))
set_option maxRecDepth 20000 in
theorem rfX5_blockAt (d N : Nat) (n0 : Nat) (l1 : Int32) (S : St) (z : (Int32 × St)) (h : fX5_blockAt N n0 l1 S = some z) : am_C (d + 2) 55 [.ref (TA n0), .int l1] (am_T0 S) (some (.int z.1), am_T0 z.2) := by
  unfold fX5_blockAt at h
  show am_Rn (am_C (d + 1)) (am_ct 55) (am_rk 55) (some (.int z.1), am_T0 z.2) (0, [some (.ref (TA n0)), some (.int l1)], [], am_T0 S)
  refine am_Rn.op _ (1, [some (.ref (TA n0)), some (.int l1)], [.ref (TA n0)], am_T0 S) rfl rfl ?_
  refine am_Rn.op _ (2, [some (.ref (TA n0)), some (.int l1)], [.int l1, .ref (TA n0)], am_T0 S) rfl rfl ?_
  obtain ⟨q1, hq1, h⟩ := l2_b h
  refine am_Rn.cl _ (some (.int q1.1)) (am_T0 q1.2) rfl (o_clv rfl rfl rfl (l2_isO n0 S)) (rfX5_at (d + 0) N n0 l1 S q1 hq1) ?_
  show am_Rn _ _ _ _ (5, [some (.ref (TA n0)), some (.int l1)], [.int q1.1], am_T0 q1.2)
  refine am_Rn.op _ (7, [some (.ref (TA n0)), some (.int l1)], [.int 123, .int q1.1], am_T0 q1.2) rfl rfl ?_
  refine am_Rn.op _ (if q1.1 = 123 then 10 else 19, [some (.ref (TA n0)), some (.int l1)], [], am_T0 q1.2) rfl rfl ?_
  rcases l2_i h with ⟨hc, h⟩ | ⟨hc, h⟩
  · refine am_Rn.ifT hc ?_
    refine am_Rn.op _ (11, [some (.ref (TA n0)), some (.int l1)], [.ref (TA n0)], am_T0 q1.2) rfl rfl ?_
    refine am_Rn.getf rfl (l2_isO n0 q1.2) (l2_ref n0 2 q1.2 (by decide) rfl) ?_
    show am_Rn _ _ _ _ (14, [some (.ref (TA n0)), some (.int l1)], [.ref (TA n0 + 2)], am_T0 q1.2)
    refine am_Rn.op _ (15, [some (.ref (TA n0)), some (.int l1)], [.int l1, .ref (TA n0 + 2)], am_T0 q1.2) rfl rfl ?_
    obtain ⟨hb2, h⟩ := l2_n h
    refine am_Rn.iald (n := 60) rfl (l2_len n0 2 q1.2 (by decide) (by decide)) hb2 ?_
    show am_Rn _ _ _ _ (16, [some (.ref (TA n0)), some (.int l1)], [.int (q1.2.1 (TA n0 + 2) (Int32.toNatClampNeg l1))], am_T0 q1.2)
    refine am_Rn.op _ (20, [some (.ref (TA n0)), some (.int l1)], [.int (q1.2.1 (TA n0 + 2) (Int32.toNatClampNeg l1))], am_T0 q1.2) rfl rfl ?_
    exact rfX5_blockAt_20 d N (q1.2.1 (TA n0 + 2) (Int32.toNatClampNeg l1)) q1.2 _ h _ _
  · refine am_Rn.ifF hc ?_
    refine am_Rn.op _ (20, [some (.ref (TA n0)), some (.int l1)], [.int (-1)], am_T0 q1.2) rfl rfl ?_
    exact rfX5_blockAt_20 d N (-1) q1.2 _ h _ _
-- X2_rowOf
def fX2_rowOf_43 (N : Nat) (l1 : Int32) (l3 : Int32) (s0 : Int32) (S : St) : Option (Int32 × St) := some ((((((l1 * 6) + s0) * 4) + l3) * 32), S)
set_option maxRecDepth 20000 in
theorem rfX2_rowOf_43 (d N : Nat) (l1 : Int32) (l3 : Int32) (s0 : Int32) (S : St) (z : (Int32 × St)) (h : fX2_rowOf_43 N l1 l3 s0 S = some z) (w0 : Option Value) (w2 : Option Value) (w4 : Option Value) : am_Rn (am_C (d + 1)) (am_ct 15) (am_rk 15) (some (.int z.1), am_T0 z.2) (43, [w0, some (.int l1), w2, some (.int l3), w4], [.int s0], am_T0 S) := by
  unfold fX2_rowOf_43 at h
  refine am_Rn.op _ (45, [w0, some (.int l1), w2, some (.int l3), some (.int s0)], [], am_T0 S) rfl rfl ?_
  refine am_Rn.op _ (46, [w0, some (.int l1), w2, some (.int l3), some (.int s0)], [.int l1], am_T0 S) rfl rfl ?_
  refine am_Rn.op _ (48, [w0, some (.int l1), w2, some (.int l3), some (.int s0)], [.int 6, .int l1], am_T0 S) rfl rfl ?_
  refine am_Rn.op _ (49, [w0, some (.int l1), w2, some (.int l3), some (.int s0)], [.int (l1 * 6)], am_T0 S) rfl rfl ?_
  refine am_Rn.op _ (51, [w0, some (.int l1), w2, some (.int l3), some (.int s0)], [.int s0, .int (l1 * 6)], am_T0 S) rfl rfl ?_
  refine am_Rn.op _ (52, [w0, some (.int l1), w2, some (.int l3), some (.int s0)], [.int ((l1 * 6) + s0)], am_T0 S) rfl rfl ?_
  refine am_Rn.op _ (53, [w0, some (.int l1), w2, some (.int l3), some (.int s0)], [.int 4, .int ((l1 * 6) + s0)], am_T0 S) rfl rfl ?_
  refine am_Rn.op _ (54, [w0, some (.int l1), w2, some (.int l3), some (.int s0)], [.int (((l1 * 6) + s0) * 4)], am_T0 S) rfl rfl ?_
  refine am_Rn.op _ (55, [w0, some (.int l1), w2, some (.int l3), some (.int s0)], [.int l3, .int (((l1 * 6) + s0) * 4)], am_T0 S) rfl rfl ?_
  refine am_Rn.op _ (56, [w0, some (.int l1), w2, some (.int l3), some (.int s0)], [.int ((((l1 * 6) + s0) * 4) + l3)], am_T0 S) rfl rfl ?_
  refine am_Rn.op _ (58, [w0, some (.int l1), w2, some (.int l3), some (.int s0)], [.int 32, .int ((((l1 * 6) + s0) * 4) + l3)], am_T0 S) rfl rfl ?_
  refine am_Rn.op _ (59, [w0, some (.int l1), w2, some (.int l3), some (.int s0)], [.int (((((l1 * 6) + s0) * 4) + l3) * 32)], am_T0 S) rfl rfl ?_
  cases h
  exact am_Rn.rt _ rfl rfl
def fX2_rowOf (N : Nat) (l1 : Int32) (l2 : Int32) (l3 : Int32) (S : St) : Option (Int32 × St) := (fX5_isBlock N (S.2 10) l1 S).bind (fun q1 => (if q1.1 = 0 then some ((-1), q1.2) else (fX7_isKind N l2 q1.2).bind (fun q2 => (if q2.1 = 0 then some ((-1), q2.2) else (fX7_isSet N l3 q2.2).bind (fun q3 => (if q3.1 = 0 then some ((-1), q3.2) else (fX5_raisesAgain N (q3.2.2 10) l1 q3.2).bind (fun q4 => (if q4.1 = 0 then fX2_rowOf_43 N l1 l3 0 q4.2 else fX2_rowOf_43 N l1 l3 l2 q4.2))))))))
set_option maxRecDepth 20000 in
theorem rfX2_rowOf (d N : Nat) (l1 : Int32) (l2 : Int32) (l3 : Int32) (S : St) (z : (Int32 × St)) (h : fX2_rowOf N l1 l2 l3 S = some z) : am_C (d + 2) 15 [.ref 20, .int l1, .int l2, .int l3] (am_T0 S) (some (.int z.1), am_T0 z.2) := by
  unfold fX2_rowOf at h
  show am_Rn (am_C (d + 1)) (am_ct 15) (am_rk 15) (some (.int z.1), am_T0 z.2) (0, [some (.ref 20), some (.int l1), some (.int l2), some (.int l3), none], [], am_T0 S)
  refine am_Rn.op _ (1, [some (.ref 20), some (.int l1), some (.int l2), some (.int l3), none], [.ref 20], am_T0 S) rfl rfl ?_
  refine am_Rn.op _ (4, [some (.ref 20), some (.int l1), some (.int l2), some (.int l3), none], [.ref (TA (S.2 10))], am_T0 S) rfl rfl ?_
  refine am_Rn.op _ (5, [some (.ref 20), some (.int l1), some (.int l2), some (.int l3), none], [.int l1, .ref (TA (S.2 10))], am_T0 S) rfl rfl ?_
  obtain ⟨q1, hq1, h⟩ := l2_b h
  refine am_Rn.cl _ (some (.int q1.1)) (am_T0 q1.2) rfl (o_clv rfl rfl rfl (l2_isO (S.2 10) S)) (rfX5_isBlock (d + 0) N (S.2 10) l1 S q1 hq1) ?_
  show am_Rn _ _ _ _ (8, [some (.ref 20), some (.int l1), some (.int l2), some (.int l3), none], [.int q1.1], am_T0 q1.2)
  refine am_Rn.op _ (if q1.1 = 0 then 25 else 11, [some (.ref 20), some (.int l1), some (.int l2), some (.int l3), none], [], am_T0 q1.2) rfl rfl ?_
  rcases l2_i h with ⟨hc, h⟩ | ⟨hc, h⟩
  · refine am_Rn.ifT hc ?_
    refine am_Rn.op _ (26, [some (.ref 20), some (.int l1), some (.int l2), some (.int l3), none], [.int (-1)], am_T0 q1.2) rfl rfl ?_
    cases h
    exact am_Rn.rt _ rfl rfl
  · refine am_Rn.ifF hc ?_
    refine am_Rn.op _ (12, [some (.ref 20), some (.int l1), some (.int l2), some (.int l3), none], [.int l2], am_T0 q1.2) rfl rfl ?_
    obtain ⟨q2, hq2, h⟩ := l2_b h
    refine am_Rn.cl _ (some (.int q2.1)) (am_T0 q2.2) rfl rfl (rfX7_isKind (d + 0) N l2 q1.2 q2 hq2) ?_
    show am_Rn _ _ _ _ (15, [some (.ref 20), some (.int l1), some (.int l2), some (.int l3), none], [.int q2.1], am_T0 q2.2)
    refine am_Rn.op _ (if q2.1 = 0 then 25 else 18, [some (.ref 20), some (.int l1), some (.int l2), some (.int l3), none], [], am_T0 q2.2) rfl rfl ?_
    rcases l2_i h with ⟨hc, h⟩ | ⟨hc, h⟩
    · refine am_Rn.ifT hc ?_
      refine am_Rn.op _ (26, [some (.ref 20), some (.int l1), some (.int l2), some (.int l3), none], [.int (-1)], am_T0 q2.2) rfl rfl ?_
      cases h
      exact am_Rn.rt _ rfl rfl
    · refine am_Rn.ifF hc ?_
      refine am_Rn.op _ (19, [some (.ref 20), some (.int l1), some (.int l2), some (.int l3), none], [.int l3], am_T0 q2.2) rfl rfl ?_
      obtain ⟨q3, hq3, h⟩ := l2_b h
      refine am_Rn.cl _ (some (.int q3.1)) (am_T0 q3.2) rfl rfl (rfX7_isSet (d + 0) N l3 q2.2 q3 hq3) ?_
      show am_Rn _ _ _ _ (22, [some (.ref 20), some (.int l1), some (.int l2), some (.int l3), none], [.int q3.1], am_T0 q3.2)
      refine am_Rn.op _ (if q3.1 = 0 then 25 else 27, [some (.ref 20), some (.int l1), some (.int l2), some (.int l3), none], [], am_T0 q3.2) rfl rfl ?_
      rcases l2_i h with ⟨hc, h⟩ | ⟨hc, h⟩
      · refine am_Rn.ifT hc ?_
        refine am_Rn.op _ (26, [some (.ref 20), some (.int l1), some (.int l2), some (.int l3), none], [.int (-1)], am_T0 q3.2) rfl rfl ?_
        cases h
        exact am_Rn.rt _ rfl rfl
      · refine am_Rn.ifF hc ?_
        refine am_Rn.op _ (28, [some (.ref 20), some (.int l1), some (.int l2), some (.int l3), none], [.ref 20], am_T0 q3.2) rfl rfl ?_
        refine am_Rn.op _ (31, [some (.ref 20), some (.int l1), some (.int l2), some (.int l3), none], [.ref (TA (q3.2.2 10))], am_T0 q3.2) rfl rfl ?_
        refine am_Rn.op _ (32, [some (.ref 20), some (.int l1), some (.int l2), some (.int l3), none], [.int l1, .ref (TA (q3.2.2 10))], am_T0 q3.2) rfl rfl ?_
        obtain ⟨q4, hq4, h⟩ := l2_b h
        refine am_Rn.cl _ (some (.int q4.1)) (am_T0 q4.2) rfl (o_clv rfl rfl rfl (l2_isO (q3.2.2 10) q3.2)) (rfX5_raisesAgain (d + 0) N (q3.2.2 10) l1 q3.2 q4 hq4) ?_
        show am_Rn _ _ _ _ (35, [some (.ref 20), some (.int l1), some (.int l2), some (.int l3), none], [.int q4.1], am_T0 q4.2)
        refine am_Rn.op _ (if q4.1 = 0 then 42 else 38, [some (.ref 20), some (.int l1), some (.int l2), some (.int l3), none], [], am_T0 q4.2) rfl rfl ?_
        rcases l2_i h with ⟨hc, h⟩ | ⟨hc, h⟩
        · refine am_Rn.ifT hc ?_
          refine am_Rn.op _ (43, [some (.ref 20), some (.int l1), some (.int l2), some (.int l3), none], [.int 0], am_T0 q4.2) rfl rfl ?_
          exact rfX2_rowOf_43 d N l1 l3 0 q4.2 _ h _ _ _
        · refine am_Rn.ifF hc ?_
          refine am_Rn.op _ (39, [some (.ref 20), some (.int l1), some (.int l2), some (.int l3), none], [.int l2], am_T0 q4.2) rfl rfl ?_
          refine am_Rn.op _ (43, [some (.ref 20), some (.int l1), some (.int l2), some (.int l3), none], [.int l2], am_T0 q4.2) rfl rfl ?_
          exact rfX2_rowOf_43 d N l1 l3 l2 q4.2 _ h _ _ _
-- X2_addRow
def PfX2_addRow_3 (d : Nat) (res : Option Value × am_S) (l1 : Int32) (l2 : Int32) (a3 : Nat) (x : Int32 × St) : Prop := am_Rn (am_C d) (am_ct 29) (am_rk 29) res (3, [some (.ref 20), some (.int l1), some (.int l2), some (.ref a3), some (.int x.1)], [], am_T0 x.2)
def QfX2_addRow_3 (d : Nat) (res : Option Value × am_S) (l1 : Int32) (l2 : Int32) (a3 : Nat) (y : St) : Prop := res = (none, am_T0 y)
def fX2_addRow_63 (N : Nat) (l1 : Int32) (l2 : Int32) (a3 : Nat) (l4 : Int32) (S : St) : Option ((Int32 × St) ⊕ (St)) := some (.inl ((l4 + 1), S))
set_option maxRecDepth 20000 in
theorem rfX2_addRow_63 (d N : Nat) (res : Option Value × am_S) (l1 : Int32) (l2 : Int32) (a3 : Nat) (l4 : Int32) (ha3 : isIA a3 = true) (S : St) (z : (Int32 × St) ⊕ (St)) (h : fX2_addRow_63 N l1 l2 a3 l4 S = some z) (hz : Sum.elim (PfX2_addRow_3 (d + 1) res l1 l2 a3 ) (QfX2_addRow_3 (d + 1) res l1 l2 a3 ) z) : am_Rn (am_C (d + 1)) (am_ct 29) (am_rk 29) res (63, [some (.ref 20), some (.int l1), some (.int l2), some (.ref a3), some (.int l4)], [], am_T0 S) := by
  unfold fX2_addRow_63 at h
  refine am_Rn.op _ (66, [some (.ref 20), some (.int l1), some (.int l2), some (.ref a3), some (.int (l4 + 1))], [], am_T0 S) rfl rfl ?_
  refine am_Rn.op _ (3, [some (.ref 20), some (.int l1), some (.int l2), some (.ref a3), some (.int (l4 + 1))], [], am_T0 S) rfl rfl ?_
  cases h
  exact hz 
def bfX2_addRow_3 (N : Nat) (l1 : Int32) (l2 : Int32) (a3 : Nat) (x : Int32 × St) : Option ((Int32 × St) ⊕ (St)) := (if 32 ≤ x.1 then some (.inr x.2) else (if 1000000 ≤ l2 then some (.inr x.2) else (if l1 < 0 then some (.inr x.2) else (if 23808 ≤ (l1 + x.1) then some (.inr x.2) else (if (l1 + x.1) < 0 ∨ 23808 ≤ Int32.toNatClampNeg (l1 + x.1) then none else (if 1000000 ≤ (x.2.1 30 (Int32.toNatClampNeg (l1 + x.1))) then fX2_addRow_63 N l1 l2 a3 x.1 x.2 else (if (l1 + x.1) < 0 ∨ 23808 ≤ Int32.toNatClampNeg (l1 + x.1) then none else (fX7_lower N a3 x.1 (l2 + (x.2.1 30 (Int32.toNatClampNeg (l1 + x.1)))) x.2).bind (fun q3 => fX2_addRow_63 N l1 l2 a3 x.1 q3))))))))
def fX2_addRow_3 (N : Nat) (l1 : Int32) (l2 : Int32) (a3 : Nat) (x : Int32 × St) : Option (St) := whl N (bfX2_addRow_3 N l1 l2 a3 ) x
set_option maxRecDepth 20000 in
theorem rbfX2_addRow_3 (d N : Nat) (res : Option Value × am_S) (l1 : Int32) (l2 : Int32) (a3 : Nat) (ha3 : isIA a3 = true) (x : Int32 × St) (z : (Int32 × St) ⊕ (St)) (h : bfX2_addRow_3 N l1 l2 a3 x = some z) (hz : Sum.elim (PfX2_addRow_3 (d + 1) res l1 l2 a3 ) (QfX2_addRow_3 (d + 1) res l1 l2 a3 ) z) : PfX2_addRow_3 (d + 1) res l1 l2 a3 x := by
  unfold bfX2_addRow_3 at h
  show am_Rn (am_C (d + 1)) (am_ct 29) (am_rk 29) res (3, [some (.ref 20), some (.int l1), some (.int l2), some (.ref a3), some (.int x.1)], [], am_T0 x.2)
  refine am_Rn.op _ (5, [some (.ref 20), some (.int l1), some (.int l2), some (.ref a3), some (.int x.1)], [.int x.1], am_T0 x.2) rfl rfl ?_
  refine am_Rn.op _ (7, [some (.ref 20), some (.int l1), some (.int l2), some (.ref a3), some (.int x.1)], [.int 32, .int x.1], am_T0 x.2) rfl rfl ?_
  refine am_Rn.op _ (if 32 ≤ x.1 then 69 else 10, [some (.ref 20), some (.int l1), some (.int l2), some (.ref a3), some (.int x.1)], [], am_T0 x.2) rfl rfl ?_
  rcases l2_i h with ⟨hc, h⟩ | ⟨hc, h⟩
  · refine am_Rn.ifT hc ?_
    cases h
    exact am_Rn.rt2 _ rfl rfl hz
  · refine am_Rn.ifF hc ?_
    refine am_Rn.op _ (11, [some (.ref 20), some (.int l1), some (.int l2), some (.ref a3), some (.int x.1)], [.int l2], am_T0 x.2) rfl rfl ?_
    refine am_Rn.op _ (13, [some (.ref 20), some (.int l1), some (.int l2), some (.ref a3), some (.int x.1)], [.int 1000000, .int l2], am_T0 x.2) rfl rfl ?_
    refine am_Rn.op _ (if 1000000 ≤ l2 then 69 else 16, [some (.ref 20), some (.int l1), some (.int l2), some (.ref a3), some (.int x.1)], [], am_T0 x.2) rfl rfl ?_
    rcases l2_i h with ⟨hc, h⟩ | ⟨hc, h⟩
    · refine am_Rn.ifT hc ?_
      cases h
      exact am_Rn.rt2 _ rfl rfl hz
    · refine am_Rn.ifF hc ?_
      refine am_Rn.op _ (17, [some (.ref 20), some (.int l1), some (.int l2), some (.ref a3), some (.int x.1)], [.int l1], am_T0 x.2) rfl rfl ?_
      refine am_Rn.op _ (if l1 < 0 then 69 else 20, [some (.ref 20), some (.int l1), some (.int l2), some (.ref a3), some (.int x.1)], [], am_T0 x.2) rfl rfl ?_
      rcases l2_i h with ⟨hc, h⟩ | ⟨hc, h⟩
      · refine am_Rn.ifT hc ?_
        cases h
        exact am_Rn.rt2 _ rfl rfl hz
      · refine am_Rn.ifF hc ?_
        refine am_Rn.op _ (21, [some (.ref 20), some (.int l1), some (.int l2), some (.ref a3), some (.int x.1)], [.int l1], am_T0 x.2) rfl rfl ?_
        refine am_Rn.op _ (23, [some (.ref 20), some (.int l1), some (.int l2), some (.ref a3), some (.int x.1)], [.int x.1, .int l1], am_T0 x.2) rfl rfl ?_
        refine am_Rn.op _ (24, [some (.ref 20), some (.int l1), some (.int l2), some (.ref a3), some (.int x.1)], [.int (l1 + x.1)], am_T0 x.2) rfl rfl ?_
        refine am_Rn.op _ (25, [some (.ref 20), some (.int l1), some (.int l2), some (.ref a3), some (.int x.1)], [.ref 20, .int (l1 + x.1)], am_T0 x.2) rfl rfl ?_
        refine am_Rn.op _ (28, [some (.ref 20), some (.int l1), some (.int l2), some (.ref a3), some (.int x.1)], [.ref 30, .int (l1 + x.1)], am_T0 x.2) rfl rfl ?_
        refine am_Rn.op _ (29, [some (.ref 20), some (.int l1), some (.int l2), some (.ref a3), some (.int x.1)], [.int 23808, .int (l1 + x.1)], am_T0 x.2) rfl rfl ?_
        refine am_Rn.op _ (if 23808 ≤ (l1 + x.1) then 69 else 32, [some (.ref 20), some (.int l1), some (.int l2), some (.ref a3), some (.int x.1)], [], am_T0 x.2) rfl rfl ?_
        rcases l2_i h with ⟨hc, h⟩ | ⟨hc, h⟩
        · refine am_Rn.ifT hc ?_
          cases h
          exact am_Rn.rt2 _ rfl rfl hz
        · refine am_Rn.ifF hc ?_
          refine am_Rn.op _ (33, [some (.ref 20), some (.int l1), some (.int l2), some (.ref a3), some (.int x.1)], [.ref 20], am_T0 x.2) rfl rfl ?_
          refine am_Rn.op _ (36, [some (.ref 20), some (.int l1), some (.int l2), some (.ref a3), some (.int x.1)], [.ref 30], am_T0 x.2) rfl rfl ?_
          refine am_Rn.op _ (37, [some (.ref 20), some (.int l1), some (.int l2), some (.ref a3), some (.int x.1)], [.int l1, .ref 30], am_T0 x.2) rfl rfl ?_
          refine am_Rn.op _ (39, [some (.ref 20), some (.int l1), some (.int l2), some (.ref a3), some (.int x.1)], [.int x.1, .int l1, .ref 30], am_T0 x.2) rfl rfl ?_
          refine am_Rn.op _ (40, [some (.ref 20), some (.int l1), some (.int l2), some (.ref a3), some (.int x.1)], [.int (l1 + x.1), .ref 30], am_T0 x.2) rfl rfl ?_
          obtain ⟨hb1, h⟩ := l2_n h
          refine am_Rn.iald (n := 23808) rfl rfl hb1 ?_
          show am_Rn _ _ _ _ (41, [some (.ref 20), some (.int l1), some (.int l2), some (.ref a3), some (.int x.1)], [.int (x.2.1 30 (Int32.toNatClampNeg (l1 + x.1)))], am_T0 x.2)
          refine am_Rn.op _ (43, [some (.ref 20), some (.int l1), some (.int l2), some (.ref a3), some (.int x.1)], [.int 1000000, .int (x.2.1 30 (Int32.toNatClampNeg (l1 + x.1)))], am_T0 x.2) rfl rfl ?_
          refine am_Rn.op _ (if 1000000 ≤ (x.2.1 30 (Int32.toNatClampNeg (l1 + x.1))) then 63 else 46, [some (.ref 20), some (.int l1), some (.int l2), some (.ref a3), some (.int x.1)], [], am_T0 x.2) rfl rfl ?_
          rcases l2_i h with ⟨hc, h⟩ | ⟨hc, h⟩
          · refine am_Rn.ifT hc ?_
            exact rfX2_addRow_63 d N _ l1 l2 a3 x.1 ha3 x.2 _ h hz 
          · refine am_Rn.ifF hc ?_
            refine am_Rn.op _ (47, [some (.ref 20), some (.int l1), some (.int l2), some (.ref a3), some (.int x.1)], [.ref a3], am_T0 x.2) rfl rfl ?_
            refine am_Rn.op _ (49, [some (.ref 20), some (.int l1), some (.int l2), some (.ref a3), some (.int x.1)], [.int x.1, .ref a3], am_T0 x.2) rfl rfl ?_
            refine am_Rn.op _ (50, [some (.ref 20), some (.int l1), some (.int l2), some (.ref a3), some (.int x.1)], [.int l2, .int x.1, .ref a3], am_T0 x.2) rfl rfl ?_
            refine am_Rn.op _ (51, [some (.ref 20), some (.int l1), some (.int l2), some (.ref a3), some (.int x.1)], [.ref 20, .int l2, .int x.1, .ref a3], am_T0 x.2) rfl rfl ?_
            refine am_Rn.op _ (54, [some (.ref 20), some (.int l1), some (.int l2), some (.ref a3), some (.int x.1)], [.ref 30, .int l2, .int x.1, .ref a3], am_T0 x.2) rfl rfl ?_
            refine am_Rn.op _ (55, [some (.ref 20), some (.int l1), some (.int l2), some (.ref a3), some (.int x.1)], [.int l1, .ref 30, .int l2, .int x.1, .ref a3], am_T0 x.2) rfl rfl ?_
            refine am_Rn.op _ (57, [some (.ref 20), some (.int l1), some (.int l2), some (.ref a3), some (.int x.1)], [.int x.1, .int l1, .ref 30, .int l2, .int x.1, .ref a3], am_T0 x.2) rfl rfl ?_
            refine am_Rn.op _ (58, [some (.ref 20), some (.int l1), some (.int l2), some (.ref a3), some (.int x.1)], [.int (l1 + x.1), .ref 30, .int l2, .int x.1, .ref a3], am_T0 x.2) rfl rfl ?_
            obtain ⟨hb2, h⟩ := l2_n h
            refine am_Rn.iald (n := 23808) rfl rfl hb2 ?_
            show am_Rn _ _ _ _ (59, [some (.ref 20), some (.int l1), some (.int l2), some (.ref a3), some (.int x.1)], [.int (x.2.1 30 (Int32.toNatClampNeg (l1 + x.1))), .int l2, .int x.1, .ref a3], am_T0 x.2)
            refine am_Rn.op _ (60, [some (.ref 20), some (.int l1), some (.int l2), some (.ref a3), some (.int x.1)], [.int (l2 + (x.2.1 30 (Int32.toNatClampNeg (l1 + x.1)))), .int x.1, .ref a3], am_T0 x.2) rfl rfl ?_
            obtain ⟨q3, hq3, h⟩ := l2_b h
            refine am_Rn.cl _ none (am_T0 q3) rfl rfl (rfX7_lower (d + 0) N a3 x.1 (l2 + (x.2.1 30 (Int32.toNatClampNeg (l1 + x.1)))) ha3 x.2 q3 hq3) ?_
            show am_Rn _ _ _ _ (63, [some (.ref 20), some (.int l1), some (.int l2), some (.ref a3), some (.int x.1)], [], am_T0 q3)
            exact rfX2_addRow_63 d N _ l1 l2 a3 x.1 ha3 q3 _ h hz 
theorem rfX2_addRow_3 (d N : Nat) (res : Option Value × am_S) (l1 : Int32) (l2 : Int32) (a3 : Nat) (ha3 : isIA a3 = true) (x : Int32 × St) (y : St) (h : fX2_addRow_3 N l1 l2 a3 x = some y) (hq : QfX2_addRow_3 (d + 1) res l1 l2 a3 y) : PfX2_addRow_3 (d + 1) res l1 l2 a3 x := whl_ind _ _ (fun x z => rbfX2_addRow_3 d N res l1 l2 a3 ha3 x z) N x y h hq
def fX2_addRow (N : Nat) (l1 : Int32) (l2 : Int32) (a3 : Nat) (S : St) : Option St := (fX2_addRow_3 N l1 l2 a3 (0, S)).bind (fun y4 => some y4)
set_option maxRecDepth 20000 in
theorem rfX2_addRow (d N : Nat) (l1 : Int32) (l2 : Int32) (a3 : Nat) (ha3 : isIA a3 = true) (S : St) (z : St) (h : fX2_addRow N l1 l2 a3 S = some z) : am_C (d + 2) 29 [.ref 20, .int l1, .int l2, .ref a3] (am_T0 S) (none, am_T0 z) := by
  unfold fX2_addRow at h
  show am_Rn (am_C (d + 1)) (am_ct 29) (am_rk 29) (none, am_T0 z) (0, [some (.ref 20), some (.int l1), some (.int l2), some (.ref a3), none], [], am_T0 S)
  refine am_Rn.op _ (1, [some (.ref 20), some (.int l1), some (.int l2), some (.ref a3), none], [.int 0], am_T0 S) rfl rfl ?_
  refine am_Rn.op _ (3, [some (.ref 20), some (.int l1), some (.int l2), some (.ref a3), some (.int 0)], [], am_T0 S) rfl rfl ?_
  obtain ⟨y4, hy4, h⟩ := l2_b h
  refine rfX2_addRow_3 d N _ l1 l2 a3 ha3 (0, S) y4 hy4 ?_ 
  cases h
  exact rfl
-- X2_enter
def PfX2_enter_2 (d : Nat) (res : Option Value × am_S) (l1 : Int32) (l2 : Int32) (x : Int32 × St) : Prop := am_Rn (am_C d) (am_ct 28) (am_rk 28) res (2, [some (.ref 20), some (.int l1), some (.int l2), some (.int x.1)], [], am_T0 x.2)
def QfX2_enter_2 (d : Nat) (res : Option Value × am_S) (l1 : Int32) (l2 : Int32) (y : St) : Prop := res = (none, am_T0 y)
def bfX2_enter_2 (N : Nat) (l1 : Int32) (l2 : Int32) (x : Int32 × St) : Option ((Int32 × St) ⊕ (St)) := (if 4 ≤ x.1 then some (.inr x.2) else (fX2_rowOf N l1 l2 x.1 x.2).bind (fun q1 => (if x.1 < 0 ∨ 4 ≤ Int32.toNatClampNeg x.1 then none else (fX2_addRow N q1.1 (q1.2.1 31 (Int32.toNatClampNeg x.1)) 34 q1.2).bind (fun q3 => some (.inl ((x.1 + 1), q3))))))
def fX2_enter_2 (N : Nat) (l1 : Int32) (l2 : Int32) (x : Int32 × St) : Option (St) := whl N (bfX2_enter_2 N l1 l2 ) x
set_option maxRecDepth 20000 in
theorem rbfX2_enter_2 (d N : Nat) (res : Option Value × am_S) (l1 : Int32) (l2 : Int32) (x : Int32 × St) (z : (Int32 × St) ⊕ (St)) (h : bfX2_enter_2 N l1 l2 x = some z) (hz : Sum.elim (PfX2_enter_2 (d + 2) res l1 l2 ) (QfX2_enter_2 (d + 2) res l1 l2 ) z) : PfX2_enter_2 (d + 2) res l1 l2 x := by
  unfold bfX2_enter_2 at h
  show am_Rn (am_C (d + 2)) (am_ct 28) (am_rk 28) res (2, [some (.ref 20), some (.int l1), some (.int l2), some (.int x.1)], [], am_T0 x.2)
  refine am_Rn.op _ (3, [some (.ref 20), some (.int l1), some (.int l2), some (.int x.1)], [.int x.1], am_T0 x.2) rfl rfl ?_
  refine am_Rn.op _ (4, [some (.ref 20), some (.int l1), some (.int l2), some (.int x.1)], [.int 4, .int x.1], am_T0 x.2) rfl rfl ?_
  refine am_Rn.op _ (if 4 ≤ x.1 then 34 else 7, [some (.ref 20), some (.int l1), some (.int l2), some (.int x.1)], [], am_T0 x.2) rfl rfl ?_
  rcases l2_i h with ⟨hc, h⟩ | ⟨hc, h⟩
  · refine am_Rn.ifT hc ?_
    cases h
    exact am_Rn.rt2 _ rfl rfl hz
  · refine am_Rn.ifF hc ?_
    refine am_Rn.op _ (8, [some (.ref 20), some (.int l1), some (.int l2), some (.int x.1)], [.ref 20], am_T0 x.2) rfl rfl ?_
    refine am_Rn.op _ (9, [some (.ref 20), some (.int l1), some (.int l2), some (.int x.1)], [.ref 20, .ref 20], am_T0 x.2) rfl rfl ?_
    refine am_Rn.op _ (10, [some (.ref 20), some (.int l1), some (.int l2), some (.int x.1)], [.int l1, .ref 20, .ref 20], am_T0 x.2) rfl rfl ?_
    refine am_Rn.op _ (11, [some (.ref 20), some (.int l1), some (.int l2), some (.int x.1)], [.int l2, .int l1, .ref 20, .ref 20], am_T0 x.2) rfl rfl ?_
    refine am_Rn.op _ (12, [some (.ref 20), some (.int l1), some (.int l2), some (.int x.1)], [.int x.1, .int l2, .int l1, .ref 20, .ref 20], am_T0 x.2) rfl rfl ?_
    obtain ⟨q1, hq1, h⟩ := l2_b h
    refine am_Rn.cl _ (some (.int q1.1)) (am_T0 q1.2) rfl rfl (rfX2_rowOf (d + 0) N l1 l2 x.1 x.2 q1 hq1) ?_
    show am_Rn _ _ _ _ (15, [some (.ref 20), some (.int l1), some (.int l2), some (.int x.1)], [.int q1.1, .ref 20], am_T0 q1.2)
    refine am_Rn.op _ (16, [some (.ref 20), some (.int l1), some (.int l2), some (.int x.1)], [.ref 20, .int q1.1, .ref 20], am_T0 q1.2) rfl rfl ?_
    refine am_Rn.op _ (19, [some (.ref 20), some (.int l1), some (.int l2), some (.int x.1)], [.ref 31, .int q1.1, .ref 20], am_T0 q1.2) rfl rfl ?_
    refine am_Rn.op _ (20, [some (.ref 20), some (.int l1), some (.int l2), some (.int x.1)], [.int x.1, .ref 31, .int q1.1, .ref 20], am_T0 q1.2) rfl rfl ?_
    obtain ⟨hb2, h⟩ := l2_n h
    refine am_Rn.iald (n := 4) rfl rfl hb2 ?_
    show am_Rn _ _ _ _ (21, [some (.ref 20), some (.int l1), some (.int l2), some (.int x.1)], [.int (q1.2.1 31 (Int32.toNatClampNeg x.1)), .int q1.1, .ref 20], am_T0 q1.2)
    refine am_Rn.op _ (22, [some (.ref 20), some (.int l1), some (.int l2), some (.int x.1)], [.ref 20, .int (q1.2.1 31 (Int32.toNatClampNeg x.1)), .int q1.1, .ref 20], am_T0 q1.2) rfl rfl ?_
    refine am_Rn.op _ (25, [some (.ref 20), some (.int l1), some (.int l2), some (.int x.1)], [.ref 34, .int (q1.2.1 31 (Int32.toNatClampNeg x.1)), .int q1.1, .ref 20], am_T0 q1.2) rfl rfl ?_
    obtain ⟨q3, hq3, h⟩ := l2_b h
    refine am_Rn.cl _ none (am_T0 q3) rfl rfl (rfX2_addRow (d + 0) N q1.1 (q1.2.1 31 (Int32.toNatClampNeg x.1)) 34 rfl q1.2 q3 hq3) ?_
    show am_Rn _ _ _ _ (28, [some (.ref 20), some (.int l1), some (.int l2), some (.int x.1)], [], am_T0 q3)
    refine am_Rn.op _ (31, [some (.ref 20), some (.int l1), some (.int l2), some (.int (x.1 + 1))], [], am_T0 q3) rfl rfl ?_
    refine am_Rn.op _ (2, [some (.ref 20), some (.int l1), some (.int l2), some (.int (x.1 + 1))], [], am_T0 q3) rfl rfl ?_
    cases h
    exact hz 
theorem rfX2_enter_2 (d N : Nat) (res : Option Value × am_S) (l1 : Int32) (l2 : Int32) (x : Int32 × St) (y : St) (h : fX2_enter_2 N l1 l2 x = some y) (hq : QfX2_enter_2 (d + 2) res l1 l2 y) : PfX2_enter_2 (d + 2) res l1 l2 x := whl_ind _ _ (fun x z => rbfX2_enter_2 d N res l1 l2 x z) N x y h hq
def fX2_enter (N : Nat) (l1 : Int32) (l2 : Int32) (S : St) : Option St := (fX2_enter_2 N l1 l2 (0, S)).bind (fun y4 => some y4)
set_option maxRecDepth 20000 in
theorem rfX2_enter (d N : Nat) (l1 : Int32) (l2 : Int32) (S : St) (z : St) (h : fX2_enter N l1 l2 S = some z) : am_C (d + 3) 28 [.ref 20, .int l1, .int l2] (am_T0 S) (none, am_T0 z) := by
  unfold fX2_enter at h
  show am_Rn (am_C (d + 2)) (am_ct 28) (am_rk 28) (none, am_T0 z) (0, [some (.ref 20), some (.int l1), some (.int l2), none], [], am_T0 S)
  refine am_Rn.op _ (1, [some (.ref 20), some (.int l1), some (.int l2), none], [.int 0], am_T0 S) rfl rfl ?_
  refine am_Rn.op _ (2, [some (.ref 20), some (.int l1), some (.int l2), some (.int 0)], [], am_T0 S) rfl rfl ?_
  obtain ⟨y4, hy4, h⟩ := l2_b h
  refine rfX2_enter_2 d N _ l1 l2 (0, S) y4 hy4 ?_ 
  cases h
  exact rfl
-- X2_choose
def fX2_choose (N : Nat) (l1 : Int32) (l2 : Int32) (S : St) : Option (Int32 × St) := (fX5_blockAt N (S.2 10) l1 S).bind (fun q1 => (fX5_closeOf N (q1.2.2 10) q1.1 q1.2).bind (fun q2 => (fX5_blockAt N (q1.2.2 10) (q2.1 + 1) q2.2).bind (fun q3 => (fJ7_fill_53178 N 34 1000000 q3.2).bind (fun q4 => (fX2_enter N q1.1 l2 q4).bind (fun q5 => (fX2_enter N q3.1 l2 q5).bind (fun q6 => (fX2_goOn N 34 q6).bind (fun q7 => (fX5_closeOf N (q7.2 10) q3.1 q7).bind (fun q8 => some ((q8.1 + 1), q8.2)))))))))
set_option maxRecDepth 20000 in
theorem rfX2_choose (d N : Nat) (l1 : Int32) (l2 : Int32) (S : St) (z : (Int32 × St)) (h : fX2_choose N l1 l2 S = some z) : am_C (d + 4) 24 [.ref 20, .int l1, .int l2] (am_T0 S) (some (.int z.1), am_T0 z.2) := by
  unfold fX2_choose at h
  show am_Rn (am_C (d + 3)) (am_ct 24) (am_rk 24) (some (.int z.1), am_T0 z.2) (0, [some (.ref 20), some (.int l1), some (.int l2), none, none], [], am_T0 S)
  refine am_Rn.op _ (1, [some (.ref 20), some (.int l1), some (.int l2), none, none], [.ref 20], am_T0 S) rfl rfl ?_
  refine am_Rn.op _ (4, [some (.ref 20), some (.int l1), some (.int l2), none, none], [.ref (TA (S.2 10))], am_T0 S) rfl rfl ?_
  refine am_Rn.op _ (5, [some (.ref 20), some (.int l1), some (.int l2), none, none], [.int l1, .ref (TA (S.2 10))], am_T0 S) rfl rfl ?_
  obtain ⟨q1, hq1, h⟩ := l2_b h
  refine am_Rn.cl _ (some (.int q1.1)) (am_T0 q1.2) rfl (o_clv rfl rfl rfl (l2_isO (S.2 10) S)) (rfX5_blockAt (d + 1) N (S.2 10) l1 S q1 hq1) ?_
  show am_Rn _ _ _ _ (8, [some (.ref 20), some (.int l1), some (.int l2), none, none], [.int q1.1], am_T0 q1.2)
  refine am_Rn.op _ (9, [some (.ref 20), some (.int l1), some (.int l2), some (.int q1.1), none], [], am_T0 q1.2) rfl rfl ?_
  refine am_Rn.op _ (10, [some (.ref 20), some (.int l1), some (.int l2), some (.int q1.1), none], [.ref 20], am_T0 q1.2) rfl rfl ?_
  refine am_Rn.op _ (13, [some (.ref 20), some (.int l1), some (.int l2), some (.int q1.1), none], [.ref (TA (q1.2.2 10))], am_T0 q1.2) rfl rfl ?_
  refine am_Rn.op _ (14, [some (.ref 20), some (.int l1), some (.int l2), some (.int q1.1), none], [.ref 20, .ref (TA (q1.2.2 10))], am_T0 q1.2) rfl rfl ?_
  refine am_Rn.op _ (17, [some (.ref 20), some (.int l1), some (.int l2), some (.int q1.1), none], [.ref (TA (q1.2.2 10)), .ref (TA (q1.2.2 10))], am_T0 q1.2) rfl rfl ?_
  refine am_Rn.op _ (18, [some (.ref 20), some (.int l1), some (.int l2), some (.int q1.1), none], [.int q1.1, .ref (TA (q1.2.2 10)), .ref (TA (q1.2.2 10))], am_T0 q1.2) rfl rfl ?_
  obtain ⟨q2, hq2, h⟩ := l2_b h
  refine am_Rn.cl _ (some (.int q2.1)) (am_T0 q2.2) rfl (o_clv rfl rfl rfl (l2_isO (q1.2.2 10) q1.2)) (rfX5_closeOf (d + 1) N (q1.2.2 10) q1.1 q1.2 q2 hq2) ?_
  show am_Rn _ _ _ _ (21, [some (.ref 20), some (.int l1), some (.int l2), some (.int q1.1), none], [.int q2.1, .ref (TA (q1.2.2 10))], am_T0 q2.2)
  refine am_Rn.op _ (22, [some (.ref 20), some (.int l1), some (.int l2), some (.int q1.1), none], [.int 1, .int q2.1, .ref (TA (q1.2.2 10))], am_T0 q2.2) rfl rfl ?_
  refine am_Rn.op _ (23, [some (.ref 20), some (.int l1), some (.int l2), some (.int q1.1), none], [.int (q2.1 + 1), .ref (TA (q1.2.2 10))], am_T0 q2.2) rfl rfl ?_
  obtain ⟨q3, hq3, h⟩ := l2_b h
  refine am_Rn.cl _ (some (.int q3.1)) (am_T0 q3.2) rfl (o_clv rfl rfl rfl (l2_isO (q1.2.2 10) q2.2)) (rfX5_blockAt (d + 1) N (q1.2.2 10) (q2.1 + 1) q2.2 q3 hq3) ?_
  show am_Rn _ _ _ _ (26, [some (.ref 20), some (.int l1), some (.int l2), some (.int q1.1), none], [.int q3.1], am_T0 q3.2)
  refine am_Rn.op _ (28, [some (.ref 20), some (.int l1), some (.int l2), some (.int q1.1), some (.int q3.1)], [], am_T0 q3.2) rfl rfl ?_
  refine am_Rn.op _ (29, [some (.ref 20), some (.int l1), some (.int l2), some (.int q1.1), some (.int q3.1)], [.ref 20], am_T0 q3.2) rfl rfl ?_
  refine am_Rn.op _ (32, [some (.ref 20), some (.int l1), some (.int l2), some (.int q1.1), some (.int q3.1)], [.ref 34], am_T0 q3.2) rfl rfl ?_
  refine am_Rn.op _ (34, [some (.ref 20), some (.int l1), some (.int l2), some (.int q1.1), some (.int q3.1)], [.int 1000000, .ref 34], am_T0 q3.2) rfl rfl ?_
  obtain ⟨q4, hq4, h⟩ := l2_b h
  refine am_Rn.cl _ none (am_T0 q4) rfl rfl (rfJ7_fill_53178 (d + 2) N 34 1000000 rfl q3.2 q4 hq4) ?_
  show am_Rn _ _ _ _ (37, [some (.ref 20), some (.int l1), some (.int l2), some (.int q1.1), some (.int q3.1)], [], am_T0 q4)
  refine am_Rn.op _ (38, [some (.ref 20), some (.int l1), some (.int l2), some (.int q1.1), some (.int q3.1)], [.ref 20], am_T0 q4) rfl rfl ?_
  refine am_Rn.op _ (39, [some (.ref 20), some (.int l1), some (.int l2), some (.int q1.1), some (.int q3.1)], [.int q1.1, .ref 20], am_T0 q4) rfl rfl ?_
  refine am_Rn.op _ (40, [some (.ref 20), some (.int l1), some (.int l2), some (.int q1.1), some (.int q3.1)], [.int l2, .int q1.1, .ref 20], am_T0 q4) rfl rfl ?_
  obtain ⟨q5, hq5, h⟩ := l2_b h
  refine am_Rn.cl _ none (am_T0 q5) rfl rfl (rfX2_enter (d + 0) N q1.1 l2 q4 q5 hq5) ?_
  show am_Rn _ _ _ _ (43, [some (.ref 20), some (.int l1), some (.int l2), some (.int q1.1), some (.int q3.1)], [], am_T0 q5)
  refine am_Rn.op _ (44, [some (.ref 20), some (.int l1), some (.int l2), some (.int q1.1), some (.int q3.1)], [.ref 20], am_T0 q5) rfl rfl ?_
  refine am_Rn.op _ (46, [some (.ref 20), some (.int l1), some (.int l2), some (.int q1.1), some (.int q3.1)], [.int q3.1, .ref 20], am_T0 q5) rfl rfl ?_
  refine am_Rn.op _ (47, [some (.ref 20), some (.int l1), some (.int l2), some (.int q1.1), some (.int q3.1)], [.int l2, .int q3.1, .ref 20], am_T0 q5) rfl rfl ?_
  obtain ⟨q6, hq6, h⟩ := l2_b h
  refine am_Rn.cl _ none (am_T0 q6) rfl rfl (rfX2_enter (d + 0) N q3.1 l2 q5 q6 hq6) ?_
  show am_Rn _ _ _ _ (50, [some (.ref 20), some (.int l1), some (.int l2), some (.int q1.1), some (.int q3.1)], [], am_T0 q6)
  refine am_Rn.op _ (51, [some (.ref 20), some (.int l1), some (.int l2), some (.int q1.1), some (.int q3.1)], [.ref 20], am_T0 q6) rfl rfl ?_
  refine am_Rn.op _ (52, [some (.ref 20), some (.int l1), some (.int l2), some (.int q1.1), some (.int q3.1)], [.ref 20, .ref 20], am_T0 q6) rfl rfl ?_
  refine am_Rn.op _ (55, [some (.ref 20), some (.int l1), some (.int l2), some (.int q1.1), some (.int q3.1)], [.ref 34, .ref 20], am_T0 q6) rfl rfl ?_
  obtain ⟨q7, hq7, h⟩ := l2_b h
  refine am_Rn.cl _ none (am_T0 q7) rfl rfl (rfX2_goOn (d + 1) N 34 rfl q6 q7 hq7) ?_
  show am_Rn _ _ _ _ (58, [some (.ref 20), some (.int l1), some (.int l2), some (.int q1.1), some (.int q3.1)], [], am_T0 q7)
  refine am_Rn.op _ (59, [some (.ref 20), some (.int l1), some (.int l2), some (.int q1.1), some (.int q3.1)], [.ref 20], am_T0 q7) rfl rfl ?_
  refine am_Rn.op _ (62, [some (.ref 20), some (.int l1), some (.int l2), some (.int q1.1), some (.int q3.1)], [.ref (TA (q7.2 10))], am_T0 q7) rfl rfl ?_
  refine am_Rn.op _ (64, [some (.ref 20), some (.int l1), some (.int l2), some (.int q1.1), some (.int q3.1)], [.int q3.1, .ref (TA (q7.2 10))], am_T0 q7) rfl rfl ?_
  obtain ⟨q8, hq8, h⟩ := l2_b h
  refine am_Rn.cl _ (some (.int q8.1)) (am_T0 q8.2) rfl (o_clv rfl rfl rfl (l2_isO (q7.2 10) q7)) (rfX5_closeOf (d + 1) N (q7.2 10) q3.1 q7 q8 hq8) ?_
  show am_Rn _ _ _ _ (67, [some (.ref 20), some (.int l1), some (.int l2), some (.int q1.1), some (.int q3.1)], [.int q8.1], am_T0 q8.2)
  refine am_Rn.op _ (68, [some (.ref 20), some (.int l1), some (.int l2), some (.int q1.1), some (.int q3.1)], [.int 1, .int q8.1], am_T0 q8.2) rfl rfl ?_
  refine am_Rn.op _ (69, [some (.ref 20), some (.int l1), some (.int l2), some (.int q1.1), some (.int q3.1)], [.int (q8.1 + 1)], am_T0 q8.2) rfl rfl ?_
  cases h
  exact am_Rn.rt _ rfl rfl
-- X2_cell
def fX2_cell_40 (N : Nat) (s0 : Int32) (S : St) : Option (Int32 × St) := some (s0, S)
set_option maxRecDepth 20000 in
theorem rfX2_cell_40 (d N : Nat) (s0 : Int32) (S : St) (z : (Int32 × St)) (h : fX2_cell_40 N s0 S = some z) (w0 : Option Value) (w1 : Option Value) (w2 : Option Value) (w3 : Option Value) (w4 : Option Value) : am_Rn (am_C (d + 0)) (am_ct 16) (am_rk 16) (some (.int z.1), am_T0 z.2) (40, [w0, w1, w2, w3, w4], [.int s0], am_T0 S) := by
  unfold fX2_cell_40 at h
  cases h
  exact am_Rn.rt _ rfl rfl
def fX2_cell (N : Nat) (l1 : Int32) (l2 : Int32) (l3 : Int32) (S : St) : Option (Int32 × St) := (if l1 < 0 then fX2_cell_40 N 1000000 S else (if ((l1 + (l2 * 4)) + l3) < 0 then fX2_cell_40 N 1000000 S else (if 23808 ≤ ((l1 + (l2 * 4)) + l3) then fX2_cell_40 N 1000000 S else (if ((l1 + (l2 * 4)) + l3) < 0 ∨ 23808 ≤ Int32.toNatClampNeg ((l1 + (l2 * 4)) + l3) then none else fX2_cell_40 N (S.1 30 (Int32.toNatClampNeg ((l1 + (l2 * 4)) + l3))) S))))
set_option maxRecDepth 20000 in
theorem rfX2_cell (d N : Nat) (l1 : Int32) (l2 : Int32) (l3 : Int32) (S : St) (z : (Int32 × St)) (h : fX2_cell N l1 l2 l3 S = some z) : am_C (d + 1) 16 [.ref 20, .int l1, .int l2, .int l3] (am_T0 S) (some (.int z.1), am_T0 z.2) := by
  unfold fX2_cell at h
  show am_Rn (am_C (d + 0)) (am_ct 16) (am_rk 16) (some (.int z.1), am_T0 z.2) (0, [some (.ref 20), some (.int l1), some (.int l2), some (.int l3), none], [], am_T0 S)
  refine am_Rn.op _ (1, [some (.ref 20), some (.int l1), some (.int l2), some (.int l3), none], [.int l1], am_T0 S) rfl rfl ?_
  refine am_Rn.op _ (2, [some (.ref 20), some (.int l1), some (.int l2), some (.int l3), none], [.int l2, .int l1], am_T0 S) rfl rfl ?_
  refine am_Rn.op _ (3, [some (.ref 20), some (.int l1), some (.int l2), some (.int l3), none], [.int 4, .int l2, .int l1], am_T0 S) rfl rfl ?_
  refine am_Rn.op _ (4, [some (.ref 20), some (.int l1), some (.int l2), some (.int l3), none], [.int (l2 * 4), .int l1], am_T0 S) rfl rfl ?_
  refine am_Rn.op _ (5, [some (.ref 20), some (.int l1), some (.int l2), some (.int l3), none], [.int (l1 + (l2 * 4))], am_T0 S) rfl rfl ?_
  refine am_Rn.op _ (6, [some (.ref 20), some (.int l1), some (.int l2), some (.int l3), none], [.int l3, .int (l1 + (l2 * 4))], am_T0 S) rfl rfl ?_
  refine am_Rn.op _ (7, [some (.ref 20), some (.int l1), some (.int l2), some (.int l3), none], [.int ((l1 + (l2 * 4)) + l3)], am_T0 S) rfl rfl ?_
  refine am_Rn.op _ (9, [some (.ref 20), some (.int l1), some (.int l2), some (.int l3), some (.int ((l1 + (l2 * 4)) + l3))], [], am_T0 S) rfl rfl ?_
  refine am_Rn.op _ (10, [some (.ref 20), some (.int l1), some (.int l2), some (.int l3), some (.int ((l1 + (l2 * 4)) + l3))], [.int l1], am_T0 S) rfl rfl ?_
  refine am_Rn.op _ (if l1 < 0 then 38 else 13, [some (.ref 20), some (.int l1), some (.int l2), some (.int l3), some (.int ((l1 + (l2 * 4)) + l3))], [], am_T0 S) rfl rfl ?_
  rcases l2_i h with ⟨hc, h⟩ | ⟨hc, h⟩
  · refine am_Rn.ifT hc ?_
    refine am_Rn.op _ (40, [some (.ref 20), some (.int l1), some (.int l2), some (.int l3), some (.int ((l1 + (l2 * 4)) + l3))], [.int 1000000], am_T0 S) rfl rfl ?_
    exact rfX2_cell_40 d N 1000000 S _ h _ _ _ _ _
  · refine am_Rn.ifF hc ?_
    refine am_Rn.op _ (15, [some (.ref 20), some (.int l1), some (.int l2), some (.int l3), some (.int ((l1 + (l2 * 4)) + l3))], [.int ((l1 + (l2 * 4)) + l3)], am_T0 S) rfl rfl ?_
    refine am_Rn.op _ (if ((l1 + (l2 * 4)) + l3) < 0 then 38 else 18, [some (.ref 20), some (.int l1), some (.int l2), some (.int l3), some (.int ((l1 + (l2 * 4)) + l3))], [], am_T0 S) rfl rfl ?_
    rcases l2_i h with ⟨hc, h⟩ | ⟨hc, h⟩
    · refine am_Rn.ifT hc ?_
      refine am_Rn.op _ (40, [some (.ref 20), some (.int l1), some (.int l2), some (.int l3), some (.int ((l1 + (l2 * 4)) + l3))], [.int 1000000], am_T0 S) rfl rfl ?_
      exact rfX2_cell_40 d N 1000000 S _ h _ _ _ _ _
    · refine am_Rn.ifF hc ?_
      refine am_Rn.op _ (20, [some (.ref 20), some (.int l1), some (.int l2), some (.int l3), some (.int ((l1 + (l2 * 4)) + l3))], [.int ((l1 + (l2 * 4)) + l3)], am_T0 S) rfl rfl ?_
      refine am_Rn.op _ (21, [some (.ref 20), some (.int l1), some (.int l2), some (.int l3), some (.int ((l1 + (l2 * 4)) + l3))], [.ref 20, .int ((l1 + (l2 * 4)) + l3)], am_T0 S) rfl rfl ?_
      refine am_Rn.op _ (24, [some (.ref 20), some (.int l1), some (.int l2), some (.int l3), some (.int ((l1 + (l2 * 4)) + l3))], [.ref 30, .int ((l1 + (l2 * 4)) + l3)], am_T0 S) rfl rfl ?_
      refine am_Rn.op _ (25, [some (.ref 20), some (.int l1), some (.int l2), some (.int l3), some (.int ((l1 + (l2 * 4)) + l3))], [.int 23808, .int ((l1 + (l2 * 4)) + l3)], am_T0 S) rfl rfl ?_
      refine am_Rn.op _ (if 23808 ≤ ((l1 + (l2 * 4)) + l3) then 38 else 28, [some (.ref 20), some (.int l1), some (.int l2), some (.int l3), some (.int ((l1 + (l2 * 4)) + l3))], [], am_T0 S) rfl rfl ?_
      rcases l2_i h with ⟨hc, h⟩ | ⟨hc, h⟩
      · refine am_Rn.ifT hc ?_
        refine am_Rn.op _ (40, [some (.ref 20), some (.int l1), some (.int l2), some (.int l3), some (.int ((l1 + (l2 * 4)) + l3))], [.int 1000000], am_T0 S) rfl rfl ?_
        exact rfX2_cell_40 d N 1000000 S _ h _ _ _ _ _
      · refine am_Rn.ifF hc ?_
        refine am_Rn.op _ (29, [some (.ref 20), some (.int l1), some (.int l2), some (.int l3), some (.int ((l1 + (l2 * 4)) + l3))], [.ref 20], am_T0 S) rfl rfl ?_
        refine am_Rn.op _ (32, [some (.ref 20), some (.int l1), some (.int l2), some (.int l3), some (.int ((l1 + (l2 * 4)) + l3))], [.ref 30], am_T0 S) rfl rfl ?_
        refine am_Rn.op _ (34, [some (.ref 20), some (.int l1), some (.int l2), some (.int l3), some (.int ((l1 + (l2 * 4)) + l3))], [.int ((l1 + (l2 * 4)) + l3), .ref 30], am_T0 S) rfl rfl ?_
        obtain ⟨hb1, h⟩ := l2_n h
        refine am_Rn.iald (n := 23808) rfl rfl hb1 ?_
        show am_Rn _ _ _ _ (35, [some (.ref 20), some (.int l1), some (.int l2), some (.int l3), some (.int ((l1 + (l2 * 4)) + l3))], [.int (S.1 30 (Int32.toNatClampNeg ((l1 + (l2 * 4)) + l3)))], am_T0 S)
        refine am_Rn.op _ (40, [some (.ref 20), some (.int l1), some (.int l2), some (.int l3), some (.int ((l1 + (l2 * 4)) + l3))], [.int (S.1 30 (Int32.toNatClampNeg ((l1 + (l2 * 4)) + l3)))], am_T0 S) rfl rfl ?_
        exact rfX2_cell_40 d N (S.1 30 (Int32.toNatClampNeg ((l1 + (l2 * 4)) + l3))) S _ h _ _ _ _ _
-- X2_repeat
def PfX2_repeat_12 (d : Nat) (res : Option Value × am_S) (l2 : Int32) (l3 : Int32) (x : Int32 × St) : Prop := ∀ (w1 w5 w6 w7 : Option Value), am_Rn (am_C d) (am_ct 25) (am_rk 25) res (12, [some (.ref 20), w1, some (.int l2), some (.int l3), some (.int x.1), w5, w6, w7], [], am_T0 x.2)
def QfX2_repeat_12 (d : Nat) (res : Option Value × am_S) (l2 : Int32) (l3 : Int32) (y : St) : Prop := ∀ (w1 w4 w5 w6 w7 : Option Value), am_Rn (am_C d) (am_ct 25) (am_rk 25) res (90, [some (.ref 20), w1, some (.int l2), some (.int l3), w4, w5, w6, w7], [], am_T0 y)
def PfX2_repeat_21 (d : Nat) (res : Option Value × am_S) (l2 : Int32) (l3 : Int32) (l4 : Int32) (x : Int32 × St) : Prop := ∀ (w1 w6 w7 : Option Value), am_Rn (am_C d) (am_ct 25) (am_rk 25) res (21, [some (.ref 20), w1, some (.int l2), some (.int l3), some (.int l4), some (.int x.1), w6, w7], [], am_T0 x.2)
def QfX2_repeat_21 (d : Nat) (res : Option Value × am_S) (l2 : Int32) (l3 : Int32) (l4 : Int32) (y : St) : Prop := ∀ (w1 w5 w6 w7 : Option Value), am_Rn (am_C d) (am_ct 25) (am_rk 25) res (84, [some (.ref 20), w1, some (.int l2), some (.int l3), some (.int l4), w5, w6, w7], [], am_T0 y)
def PfX2_repeat_40 (d : Nat) (res : Option Value × am_S) (l2 : Int32) (l3 : Int32) (l4 : Int32) (l5 : Int32) (l6 : Int32) (x : Int32 × St) : Prop := ∀ (w1 : Option Value), am_Rn (am_C d) (am_ct 25) (am_rk 25) res (40, [some (.ref 20), w1, some (.int l2), some (.int l3), some (.int l4), some (.int l5), some (.int l6), some (.int x.1)], [], am_T0 x.2)
def QfX2_repeat_40 (d : Nat) (res : Option Value × am_S) (l2 : Int32) (l3 : Int32) (l4 : Int32) (l5 : Int32) (l6 : Int32) (y : St) : Prop := ∀ (w1 w6 w7 : Option Value), am_Rn (am_C d) (am_ct 25) (am_rk 25) res (78, [some (.ref 20), w1, some (.int l2), some (.int l3), some (.int l4), some (.int l5), w6, w7], [], am_T0 y)
def PfX2_repeat_108 (d : Nat) (res : Option Value × am_S) (l3 : Int32) (x : Int32 × St) : Prop := ∀ (w1 w2 w5 w6 w7 : Option Value), am_Rn (am_C d) (am_ct 25) (am_rk 25) res (108, [some (.ref 20), w1, w2, some (.int l3), some (.int x.1), w5, w6, w7], [], am_T0 x.2)
def QfX2_repeat_108 (d : Nat) (res : Option Value × am_S) (l3 : Int32) (y : (Int32 × St)) : Prop := res = (some (.int y.1), am_T0 y.2)
def bfX2_repeat_108 (N : Nat) (l3 : Int32) (x : Int32 × St) : Option ((Int32 × St) ⊕ ((Int32 × St))) := (if 4 ≤ x.1 then (fX2_goOn N 34 x.2).bind (fun q1 => (fX5_closeOf N (q1.2 10) l3 q1).bind (fun q2 => some (.inr ((q2.1 + 1), q2.2)))) else (if x.1 < 0 ∨ 4 ≤ Int32.toNatClampNeg x.1 then none else (fX7_lower N 34 (0 + x.1) (x.2.1 31 (Int32.toNatClampNeg x.1)) x.2).bind (fun q4 => some (.inl ((x.1 + 1), q4)))))
def fX2_repeat_108 (N : Nat) (l3 : Int32) (x : Int32 × St) : Option ((Int32 × St)) := whl N (bfX2_repeat_108 N l3 ) x
set_option maxRecDepth 20000 in
theorem rbfX2_repeat_108 (d N : Nat) (res : Option Value × am_S) (l3 : Int32) (x : Int32 × St) (z : (Int32 × St) ⊕ ((Int32 × St))) (h : bfX2_repeat_108 N l3 x = some z) (hz : Sum.elim (PfX2_repeat_108 (d + 3) res l3 ) (QfX2_repeat_108 (d + 3) res l3 ) z) : PfX2_repeat_108 (d + 3) res l3 x := by
  unfold bfX2_repeat_108 at h
  show ∀ (w1 w2 w5 w6 w7 : Option Value), am_Rn (am_C (d + 3)) (am_ct 25) (am_rk 25) res (108, [some (.ref 20), w1, w2, some (.int l3), some (.int x.1), w5, w6, w7], [], am_T0 x.2)
  intro w1 w2 w5 w6 w7
  refine am_Rn.op _ (110, [some (.ref 20), w1, w2, some (.int l3), some (.int x.1), w5, w6, w7], [.int x.1], am_T0 x.2) rfl rfl ?_
  refine am_Rn.op _ (111, [some (.ref 20), w1, w2, some (.int l3), some (.int x.1), w5, w6, w7], [.int 4, .int x.1], am_T0 x.2) rfl rfl ?_
  refine am_Rn.op _ (if 4 ≤ x.1 then 138 else 114, [some (.ref 20), w1, w2, some (.int l3), some (.int x.1), w5, w6, w7], [], am_T0 x.2) rfl rfl ?_
  rcases l2_i h with ⟨hc, h⟩ | ⟨hc, h⟩
  · refine am_Rn.ifT hc ?_
    refine am_Rn.op _ (139, [some (.ref 20), w1, w2, some (.int l3), some (.int x.1), w5, w6, w7], [.ref 20], am_T0 x.2) rfl rfl ?_
    refine am_Rn.op _ (140, [some (.ref 20), w1, w2, some (.int l3), some (.int x.1), w5, w6, w7], [.ref 20, .ref 20], am_T0 x.2) rfl rfl ?_
    refine am_Rn.op _ (143, [some (.ref 20), w1, w2, some (.int l3), some (.int x.1), w5, w6, w7], [.ref 34, .ref 20], am_T0 x.2) rfl rfl ?_
    obtain ⟨q1, hq1, h⟩ := l2_b h
    refine am_Rn.cl _ none (am_T0 q1) rfl rfl (rfX2_goOn (d + 1) N 34 rfl x.2 q1 hq1) ?_
    show am_Rn _ _ _ _ (146, [some (.ref 20), w1, w2, some (.int l3), some (.int x.1), w5, w6, w7], [], am_T0 q1)
    refine am_Rn.op _ (147, [some (.ref 20), w1, w2, some (.int l3), some (.int x.1), w5, w6, w7], [.ref 20], am_T0 q1) rfl rfl ?_
    refine am_Rn.op _ (150, [some (.ref 20), w1, w2, some (.int l3), some (.int x.1), w5, w6, w7], [.ref (TA (q1.2 10))], am_T0 q1) rfl rfl ?_
    refine am_Rn.op _ (151, [some (.ref 20), w1, w2, some (.int l3), some (.int x.1), w5, w6, w7], [.int l3, .ref (TA (q1.2 10))], am_T0 q1) rfl rfl ?_
    obtain ⟨q2, hq2, h⟩ := l2_b h
    refine am_Rn.cl _ (some (.int q2.1)) (am_T0 q2.2) rfl (o_clv rfl rfl rfl (l2_isO (q1.2 10) q1)) (rfX5_closeOf (d + 1) N (q1.2 10) l3 q1 q2 hq2) ?_
    show am_Rn _ _ _ _ (154, [some (.ref 20), w1, w2, some (.int l3), some (.int x.1), w5, w6, w7], [.int q2.1], am_T0 q2.2)
    refine am_Rn.op _ (155, [some (.ref 20), w1, w2, some (.int l3), some (.int x.1), w5, w6, w7], [.int 1, .int q2.1], am_T0 q2.2) rfl rfl ?_
    refine am_Rn.op _ (156, [some (.ref 20), w1, w2, some (.int l3), some (.int x.1), w5, w6, w7], [.int (q2.1 + 1)], am_T0 q2.2) rfl rfl ?_
    cases h
    exact am_Rn.rt2 _ rfl rfl hz
  · refine am_Rn.ifF hc ?_
    refine am_Rn.op _ (115, [some (.ref 20), w1, w2, some (.int l3), some (.int x.1), w5, w6, w7], [.ref 20], am_T0 x.2) rfl rfl ?_
    refine am_Rn.op _ (118, [some (.ref 20), w1, w2, some (.int l3), some (.int x.1), w5, w6, w7], [.ref 34], am_T0 x.2) rfl rfl ?_
    refine am_Rn.op _ (119, [some (.ref 20), w1, w2, some (.int l3), some (.int x.1), w5, w6, w7], [.int 0, .ref 34], am_T0 x.2) rfl rfl ?_
    refine am_Rn.op _ (121, [some (.ref 20), w1, w2, some (.int l3), some (.int x.1), w5, w6, w7], [.int x.1, .int 0, .ref 34], am_T0 x.2) rfl rfl ?_
    refine am_Rn.op _ (122, [some (.ref 20), w1, w2, some (.int l3), some (.int x.1), w5, w6, w7], [.int (0 + x.1), .ref 34], am_T0 x.2) rfl rfl ?_
    refine am_Rn.op _ (123, [some (.ref 20), w1, w2, some (.int l3), some (.int x.1), w5, w6, w7], [.ref 20, .int (0 + x.1), .ref 34], am_T0 x.2) rfl rfl ?_
    refine am_Rn.op _ (126, [some (.ref 20), w1, w2, some (.int l3), some (.int x.1), w5, w6, w7], [.ref 31, .int (0 + x.1), .ref 34], am_T0 x.2) rfl rfl ?_
    refine am_Rn.op _ (128, [some (.ref 20), w1, w2, some (.int l3), some (.int x.1), w5, w6, w7], [.int x.1, .ref 31, .int (0 + x.1), .ref 34], am_T0 x.2) rfl rfl ?_
    obtain ⟨hb3, h⟩ := l2_n h
    refine am_Rn.iald (n := 4) rfl rfl hb3 ?_
    show am_Rn _ _ _ _ (129, [some (.ref 20), w1, w2, some (.int l3), some (.int x.1), w5, w6, w7], [.int (x.2.1 31 (Int32.toNatClampNeg x.1)), .int (0 + x.1), .ref 34], am_T0 x.2)
    obtain ⟨q4, hq4, h⟩ := l2_b h
    refine am_Rn.cl _ none (am_T0 q4) rfl rfl (rfX7_lower (d + 2) N 34 (0 + x.1) (x.2.1 31 (Int32.toNatClampNeg x.1)) rfl x.2 q4 hq4) ?_
    show am_Rn _ _ _ _ (132, [some (.ref 20), w1, w2, some (.int l3), some (.int x.1), w5, w6, w7], [], am_T0 q4)
    refine am_Rn.op _ (135, [some (.ref 20), w1, w2, some (.int l3), some (.int (x.1 + 1)), w5, w6, w7], [], am_T0 q4) rfl rfl ?_
    refine am_Rn.op _ (108, [some (.ref 20), w1, w2, some (.int l3), some (.int (x.1 + 1)), w5, w6, w7], [], am_T0 q4) rfl rfl ?_
    cases h
    exact hz _ _ _ _ _
theorem rfX2_repeat_108 (d N : Nat) (res : Option Value × am_S) (l3 : Int32) (x : Int32 × St) (y : (Int32 × St)) (h : fX2_repeat_108 N l3 x = some y) (hq : QfX2_repeat_108 (d + 3) res l3 y) : PfX2_repeat_108 (d + 3) res l3 x := whl_ind _ _ (fun x z => rbfX2_repeat_108 d N res l3 x z) N x y h hq
def bfX2_repeat_40 (N : Nat) (l2 : Int32) (l3 : Int32) (l4 : Int32) (l5 : Int32) (l6 : Int32) (x : Int32 × St) : Option ((Int32 × St) ⊕ (St)) := (if 4 ≤ x.1 then some (.inr (x.2)) else (if l5 < 0 ∨ 4 ≤ Int32.toNatClampNeg l5 then none else (fX2_cell N l6 0 x.1 x.2).bind (fun q6 => (fX7_lower N 31 x.1 ((x.2.1 31 (Int32.toNatClampNeg l5)) + q6.1) q6.2).bind (fun q7 => some (.inl ((x.1 + 1), q7))))))
def fX2_repeat_40 (N : Nat) (l2 : Int32) (l3 : Int32) (l4 : Int32) (l5 : Int32) (l6 : Int32) (x : Int32 × St) : Option (St) := whl N (bfX2_repeat_40 N l2 l3 l4 l5 l6 ) x
set_option maxRecDepth 20000 in
theorem rbfX2_repeat_40 (d N : Nat) (res : Option Value × am_S) (l2 : Int32) (l3 : Int32) (l4 : Int32) (l5 : Int32) (l6 : Int32) (x : Int32 × St) (z : (Int32 × St) ⊕ (St)) (h : bfX2_repeat_40 N l2 l3 l4 l5 l6 x = some z) (hz : Sum.elim (PfX2_repeat_40 (d + 3) res l2 l3 l4 l5 l6 ) (QfX2_repeat_40 (d + 3) res l2 l3 l4 l5 l6 ) z) : PfX2_repeat_40 (d + 3) res l2 l3 l4 l5 l6 x := by
  unfold bfX2_repeat_40 at h
  show ∀ (w1 : Option Value), am_Rn (am_C (d + 3)) (am_ct 25) (am_rk 25) res (40, [some (.ref 20), w1, some (.int l2), some (.int l3), some (.int l4), some (.int l5), some (.int l6), some (.int x.1)], [], am_T0 x.2)
  intro w1
  refine am_Rn.op _ (42, [some (.ref 20), w1, some (.int l2), some (.int l3), some (.int l4), some (.int l5), some (.int l6), some (.int x.1)], [.int x.1], am_T0 x.2) rfl rfl ?_
  refine am_Rn.op _ (43, [some (.ref 20), w1, some (.int l2), some (.int l3), some (.int l4), some (.int l5), some (.int l6), some (.int x.1)], [.int 4, .int x.1], am_T0 x.2) rfl rfl ?_
  refine am_Rn.op _ (if 4 ≤ x.1 then 78 else 46, [some (.ref 20), w1, some (.int l2), some (.int l3), some (.int l4), some (.int l5), some (.int l6), some (.int x.1)], [], am_T0 x.2) rfl rfl ?_
  rcases l2_i h with ⟨hc, h⟩ | ⟨hc, h⟩
  · refine am_Rn.ifT hc ?_
    cases h
    exact hz _ _ _
  · refine am_Rn.ifF hc ?_
    refine am_Rn.op _ (47, [some (.ref 20), w1, some (.int l2), some (.int l3), some (.int l4), some (.int l5), some (.int l6), some (.int x.1)], [.ref 20], am_T0 x.2) rfl rfl ?_
    refine am_Rn.op _ (50, [some (.ref 20), w1, some (.int l2), some (.int l3), some (.int l4), some (.int l5), some (.int l6), some (.int x.1)], [.ref 31], am_T0 x.2) rfl rfl ?_
    refine am_Rn.op _ (52, [some (.ref 20), w1, some (.int l2), some (.int l3), some (.int l4), some (.int l5), some (.int l6), some (.int x.1)], [.int x.1, .ref 31], am_T0 x.2) rfl rfl ?_
    refine am_Rn.op _ (53, [some (.ref 20), w1, some (.int l2), some (.int l3), some (.int l4), some (.int l5), some (.int l6), some (.int x.1)], [.ref 20, .int x.1, .ref 31], am_T0 x.2) rfl rfl ?_
    refine am_Rn.op _ (56, [some (.ref 20), w1, some (.int l2), some (.int l3), some (.int l4), some (.int l5), some (.int l6), some (.int x.1)], [.ref 31, .int x.1, .ref 31], am_T0 x.2) rfl rfl ?_
    refine am_Rn.op _ (58, [some (.ref 20), w1, some (.int l2), some (.int l3), some (.int l4), some (.int l5), some (.int l6), some (.int x.1)], [.int l5, .ref 31, .int x.1, .ref 31], am_T0 x.2) rfl rfl ?_
    obtain ⟨hb5, h⟩ := l2_n h
    refine am_Rn.iald (n := 4) rfl rfl hb5 ?_
    show am_Rn _ _ _ _ (59, [some (.ref 20), w1, some (.int l2), some (.int l3), some (.int l4), some (.int l5), some (.int l6), some (.int x.1)], [.int (x.2.1 31 (Int32.toNatClampNeg l5)), .int x.1, .ref 31], am_T0 x.2)
    refine am_Rn.op _ (60, [some (.ref 20), w1, some (.int l2), some (.int l3), some (.int l4), some (.int l5), some (.int l6), some (.int x.1)], [.ref 20, .int (x.2.1 31 (Int32.toNatClampNeg l5)), .int x.1, .ref 31], am_T0 x.2) rfl rfl ?_
    refine am_Rn.op _ (62, [some (.ref 20), w1, some (.int l2), some (.int l3), some (.int l4), some (.int l5), some (.int l6), some (.int x.1)], [.int l6, .ref 20, .int (x.2.1 31 (Int32.toNatClampNeg l5)), .int x.1, .ref 31], am_T0 x.2) rfl rfl ?_
    refine am_Rn.op _ (63, [some (.ref 20), w1, some (.int l2), some (.int l3), some (.int l4), some (.int l5), some (.int l6), some (.int x.1)], [.int 0, .int l6, .ref 20, .int (x.2.1 31 (Int32.toNatClampNeg l5)), .int x.1, .ref 31], am_T0 x.2) rfl rfl ?_
    refine am_Rn.op _ (65, [some (.ref 20), w1, some (.int l2), some (.int l3), some (.int l4), some (.int l5), some (.int l6), some (.int x.1)], [.int x.1, .int 0, .int l6, .ref 20, .int (x.2.1 31 (Int32.toNatClampNeg l5)), .int x.1, .ref 31], am_T0 x.2) rfl rfl ?_
    obtain ⟨q6, hq6, h⟩ := l2_b h
    refine am_Rn.cl _ (some (.int q6.1)) (am_T0 q6.2) rfl rfl (rfX2_cell (d + 2) N l6 0 x.1 x.2 q6 hq6) ?_
    show am_Rn _ _ _ _ (68, [some (.ref 20), w1, some (.int l2), some (.int l3), some (.int l4), some (.int l5), some (.int l6), some (.int x.1)], [.int q6.1, .int (x.2.1 31 (Int32.toNatClampNeg l5)), .int x.1, .ref 31], am_T0 q6.2)
    refine am_Rn.op _ (69, [some (.ref 20), w1, some (.int l2), some (.int l3), some (.int l4), some (.int l5), some (.int l6), some (.int x.1)], [.int ((x.2.1 31 (Int32.toNatClampNeg l5)) + q6.1), .int x.1, .ref 31], am_T0 q6.2) rfl rfl ?_
    obtain ⟨q7, hq7, h⟩ := l2_b h
    refine am_Rn.cl _ none (am_T0 q7) rfl rfl (rfX7_lower (d + 2) N 31 x.1 ((x.2.1 31 (Int32.toNatClampNeg l5)) + q6.1) rfl q6.2 q7 hq7) ?_
    show am_Rn _ _ _ _ (72, [some (.ref 20), w1, some (.int l2), some (.int l3), some (.int l4), some (.int l5), some (.int l6), some (.int x.1)], [], am_T0 q7)
    refine am_Rn.op _ (75, [some (.ref 20), w1, some (.int l2), some (.int l3), some (.int l4), some (.int l5), some (.int l6), some (.int (x.1 + 1))], [], am_T0 q7) rfl rfl ?_
    refine am_Rn.op _ (40, [some (.ref 20), w1, some (.int l2), some (.int l3), some (.int l4), some (.int l5), some (.int l6), some (.int (x.1 + 1))], [], am_T0 q7) rfl rfl ?_
    cases h
    exact hz _
theorem rfX2_repeat_40 (d N : Nat) (res : Option Value × am_S) (l2 : Int32) (l3 : Int32) (l4 : Int32) (l5 : Int32) (l6 : Int32) (x : Int32 × St) (y : St) (h : fX2_repeat_40 N l2 l3 l4 l5 l6 x = some y) (hq : QfX2_repeat_40 (d + 3) res l2 l3 l4 l5 l6 y) : PfX2_repeat_40 (d + 3) res l2 l3 l4 l5 l6 x := whl_ind _ _ (fun x z => rbfX2_repeat_40 d N res l2 l3 l4 l5 l6 x z) N x y h hq
def bfX2_repeat_21 (N : Nat) (l2 : Int32) (l3 : Int32) (l4 : Int32) (x : Int32 × St) : Option ((Int32 × St) ⊕ (St)) := (if 4 ≤ x.1 then some (.inr (x.2)) else (fX2_rowOf N l3 l2 x.1 x.2).bind (fun q8 => (fX2_repeat_40 N l2 l3 l4 x.1 q8.1 (0, q8.2)).bind (fun y9 => some (.inl ((x.1 + 1), y9)))))
def fX2_repeat_21 (N : Nat) (l2 : Int32) (l3 : Int32) (l4 : Int32) (x : Int32 × St) : Option (St) := whl N (bfX2_repeat_21 N l2 l3 l4 ) x
set_option maxRecDepth 20000 in
theorem rbfX2_repeat_21 (d N : Nat) (res : Option Value × am_S) (l2 : Int32) (l3 : Int32) (l4 : Int32) (x : Int32 × St) (z : (Int32 × St) ⊕ (St)) (h : bfX2_repeat_21 N l2 l3 l4 x = some z) (hz : Sum.elim (PfX2_repeat_21 (d + 3) res l2 l3 l4 ) (QfX2_repeat_21 (d + 3) res l2 l3 l4 ) z) : PfX2_repeat_21 (d + 3) res l2 l3 l4 x := by
  unfold bfX2_repeat_21 at h
  show ∀ (w1 w6 w7 : Option Value), am_Rn (am_C (d + 3)) (am_ct 25) (am_rk 25) res (21, [some (.ref 20), w1, some (.int l2), some (.int l3), some (.int l4), some (.int x.1), w6, w7], [], am_T0 x.2)
  intro w1 w6 w7
  refine am_Rn.op _ (23, [some (.ref 20), w1, some (.int l2), some (.int l3), some (.int l4), some (.int x.1), w6, w7], [.int x.1], am_T0 x.2) rfl rfl ?_
  refine am_Rn.op _ (24, [some (.ref 20), w1, some (.int l2), some (.int l3), some (.int l4), some (.int x.1), w6, w7], [.int 4, .int x.1], am_T0 x.2) rfl rfl ?_
  refine am_Rn.op _ (if 4 ≤ x.1 then 84 else 27, [some (.ref 20), w1, some (.int l2), some (.int l3), some (.int l4), some (.int x.1), w6, w7], [], am_T0 x.2) rfl rfl ?_
  rcases l2_i h with ⟨hc, h⟩ | ⟨hc, h⟩
  · refine am_Rn.ifT hc ?_
    cases h
    exact hz _ _ _ _
  · refine am_Rn.ifF hc ?_
    refine am_Rn.op _ (28, [some (.ref 20), w1, some (.int l2), some (.int l3), some (.int l4), some (.int x.1), w6, w7], [.ref 20], am_T0 x.2) rfl rfl ?_
    refine am_Rn.op _ (29, [some (.ref 20), w1, some (.int l2), some (.int l3), some (.int l4), some (.int x.1), w6, w7], [.int l3, .ref 20], am_T0 x.2) rfl rfl ?_
    refine am_Rn.op _ (30, [some (.ref 20), w1, some (.int l2), some (.int l3), some (.int l4), some (.int x.1), w6, w7], [.int l2, .int l3, .ref 20], am_T0 x.2) rfl rfl ?_
    refine am_Rn.op _ (32, [some (.ref 20), w1, some (.int l2), some (.int l3), some (.int l4), some (.int x.1), w6, w7], [.int x.1, .int l2, .int l3, .ref 20], am_T0 x.2) rfl rfl ?_
    obtain ⟨q8, hq8, h⟩ := l2_b h
    refine am_Rn.cl _ (some (.int q8.1)) (am_T0 q8.2) rfl rfl (rfX2_rowOf (d + 1) N l3 l2 x.1 x.2 q8 hq8) ?_
    show am_Rn _ _ _ _ (35, [some (.ref 20), w1, some (.int l2), some (.int l3), some (.int l4), some (.int x.1), w6, w7], [.int q8.1], am_T0 q8.2)
    refine am_Rn.op _ (37, [some (.ref 20), w1, some (.int l2), some (.int l3), some (.int l4), some (.int x.1), some (.int q8.1), w7], [], am_T0 q8.2) rfl rfl ?_
    refine am_Rn.op _ (38, [some (.ref 20), w1, some (.int l2), some (.int l3), some (.int l4), some (.int x.1), some (.int q8.1), w7], [.int 0], am_T0 q8.2) rfl rfl ?_
    refine am_Rn.op _ (40, [some (.ref 20), w1, some (.int l2), some (.int l3), some (.int l4), some (.int x.1), some (.int q8.1), some (.int 0)], [], am_T0 q8.2) rfl rfl ?_
    obtain ⟨y9, hy9, h⟩ := l2_b h
    refine rfX2_repeat_40 d N _ l2 l3 l4 x.1 q8.1 (0, q8.2) y9 hy9 ?_ _
    intro w10 w11 w12
    show am_Rn _ _ _ _ (78, [some (.ref 20), w10, some (.int l2), some (.int l3), some (.int l4), some (.int x.1), w11, w12], [], am_T0 y9)
    refine am_Rn.op _ (81, [some (.ref 20), w10, some (.int l2), some (.int l3), some (.int l4), some (.int (x.1 + 1)), w11, w12], [], am_T0 y9) rfl rfl ?_
    refine am_Rn.op _ (21, [some (.ref 20), w10, some (.int l2), some (.int l3), some (.int l4), some (.int (x.1 + 1)), w11, w12], [], am_T0 y9) rfl rfl ?_
    cases h
    exact hz _ _ _
theorem rfX2_repeat_21 (d N : Nat) (res : Option Value × am_S) (l2 : Int32) (l3 : Int32) (l4 : Int32) (x : Int32 × St) (y : St) (h : fX2_repeat_21 N l2 l3 l4 x = some y) (hq : QfX2_repeat_21 (d + 3) res l2 l3 l4 y) : PfX2_repeat_21 (d + 3) res l2 l3 l4 x := whl_ind _ _ (fun x z => rbfX2_repeat_21 d N res l2 l3 l4 x z) N x y h hq
def bfX2_repeat_12 (N : Nat) (l2 : Int32) (l3 : Int32) (x : Int32 × St) : Option ((Int32 × St) ⊕ (St)) := (if 4 ≤ x.1 then some (.inr (x.2)) else (fX2_repeat_21 N l2 l3 x.1 (0, x.2)).bind (fun y13 => some (.inl ((x.1 + 1), y13))))
def fX2_repeat_12 (N : Nat) (l2 : Int32) (l3 : Int32) (x : Int32 × St) : Option (St) := whl N (bfX2_repeat_12 N l2 l3 ) x
set_option maxRecDepth 20000 in
theorem rbfX2_repeat_12 (d N : Nat) (res : Option Value × am_S) (l2 : Int32) (l3 : Int32) (x : Int32 × St) (z : (Int32 × St) ⊕ (St)) (h : bfX2_repeat_12 N l2 l3 x = some z) (hz : Sum.elim (PfX2_repeat_12 (d + 3) res l2 l3 ) (QfX2_repeat_12 (d + 3) res l2 l3 ) z) : PfX2_repeat_12 (d + 3) res l2 l3 x := by
  unfold bfX2_repeat_12 at h
  show ∀ (w1 w5 w6 w7 : Option Value), am_Rn (am_C (d + 3)) (am_ct 25) (am_rk 25) res (12, [some (.ref 20), w1, some (.int l2), some (.int l3), some (.int x.1), w5, w6, w7], [], am_T0 x.2)
  intro w1 w5 w6 w7
  refine am_Rn.op _ (14, [some (.ref 20), w1, some (.int l2), some (.int l3), some (.int x.1), w5, w6, w7], [.int x.1], am_T0 x.2) rfl rfl ?_
  refine am_Rn.op _ (15, [some (.ref 20), w1, some (.int l2), some (.int l3), some (.int x.1), w5, w6, w7], [.int 4, .int x.1], am_T0 x.2) rfl rfl ?_
  refine am_Rn.op _ (if 4 ≤ x.1 then 90 else 18, [some (.ref 20), w1, some (.int l2), some (.int l3), some (.int x.1), w5, w6, w7], [], am_T0 x.2) rfl rfl ?_
  rcases l2_i h with ⟨hc, h⟩ | ⟨hc, h⟩
  · refine am_Rn.ifT hc ?_
    cases h
    exact hz _ _ _ _ _
  · refine am_Rn.ifF hc ?_
    refine am_Rn.op _ (19, [some (.ref 20), w1, some (.int l2), some (.int l3), some (.int x.1), w5, w6, w7], [.int 0], am_T0 x.2) rfl rfl ?_
    refine am_Rn.op _ (21, [some (.ref 20), w1, some (.int l2), some (.int l3), some (.int x.1), some (.int 0), w6, w7], [], am_T0 x.2) rfl rfl ?_
    obtain ⟨y13, hy13, h⟩ := l2_b h
    refine rfX2_repeat_21 d N _ l2 l3 x.1 (0, x.2) y13 hy13 ?_ _ _ _
    intro w14 w15 w16 w17
    show am_Rn _ _ _ _ (84, [some (.ref 20), w14, some (.int l2), some (.int l3), some (.int x.1), w15, w16, w17], [], am_T0 y13)
    refine am_Rn.op _ (87, [some (.ref 20), w14, some (.int l2), some (.int l3), some (.int (x.1 + 1)), w15, w16, w17], [], am_T0 y13) rfl rfl ?_
    refine am_Rn.op _ (12, [some (.ref 20), w14, some (.int l2), some (.int l3), some (.int (x.1 + 1)), w15, w16, w17], [], am_T0 y13) rfl rfl ?_
    cases h
    exact hz _ _ _ _
theorem rfX2_repeat_12 (d N : Nat) (res : Option Value × am_S) (l2 : Int32) (l3 : Int32) (x : Int32 × St) (y : St) (h : fX2_repeat_12 N l2 l3 x = some y) (hq : QfX2_repeat_12 (d + 3) res l2 l3 y) : PfX2_repeat_12 (d + 3) res l2 l3 x := whl_ind _ _ (fun x z => rbfX2_repeat_12 d N res l2 l3 x z) N x y h hq
def fX2_repeat (N : Nat) (l1 : Int32) (l2 : Int32) (S : St) : Option (Int32 × St) := (fX5_blockAt N (S.2 10) l1 S).bind (fun q18 => (fX2_repeat_12 N l2 q18.1 (0, q18.2)).bind (fun y19 => (fJ7_fill_53178 N 34 1000000 y19).bind (fun q25 => (fX2_enter N q18.1 l2 q25).bind (fun q26 => (fX2_repeat_108 N q18.1 (0, q26)).bind (fun y27 => some (y27.1, y27.2))))))
set_option maxRecDepth 20000 in
theorem rfX2_repeat (d N : Nat) (l1 : Int32) (l2 : Int32) (S : St) (z : (Int32 × St)) (h : fX2_repeat N l1 l2 S = some z) : am_C (d + 4) 25 [.ref 20, .int l1, .int l2] (am_T0 S) (some (.int z.1), am_T0 z.2) := by
  unfold fX2_repeat at h
  show am_Rn (am_C (d + 3)) (am_ct 25) (am_rk 25) (some (.int z.1), am_T0 z.2) (0, [some (.ref 20), some (.int l1), some (.int l2), none, none, none, none, none], [], am_T0 S)
  refine am_Rn.op _ (1, [some (.ref 20), some (.int l1), some (.int l2), none, none, none, none, none], [.ref 20], am_T0 S) rfl rfl ?_
  refine am_Rn.op _ (4, [some (.ref 20), some (.int l1), some (.int l2), none, none, none, none, none], [.ref (TA (S.2 10))], am_T0 S) rfl rfl ?_
  refine am_Rn.op _ (5, [some (.ref 20), some (.int l1), some (.int l2), none, none, none, none, none], [.int l1, .ref (TA (S.2 10))], am_T0 S) rfl rfl ?_
  obtain ⟨q18, hq18, h⟩ := l2_b h
  refine am_Rn.cl _ (some (.int q18.1)) (am_T0 q18.2) rfl (o_clv rfl rfl rfl (l2_isO (S.2 10) S)) (rfX5_blockAt (d + 1) N (S.2 10) l1 S q18 hq18) ?_
  show am_Rn _ _ _ _ (8, [some (.ref 20), some (.int l1), some (.int l2), none, none, none, none, none], [.int q18.1], am_T0 q18.2)
  refine am_Rn.op _ (9, [some (.ref 20), some (.int l1), some (.int l2), some (.int q18.1), none, none, none, none], [], am_T0 q18.2) rfl rfl ?_
  refine am_Rn.op _ (10, [some (.ref 20), some (.int l1), some (.int l2), some (.int q18.1), none, none, none, none], [.int 0], am_T0 q18.2) rfl rfl ?_
  refine am_Rn.op _ (12, [some (.ref 20), some (.int l1), some (.int l2), some (.int q18.1), some (.int 0), none, none, none], [], am_T0 q18.2) rfl rfl ?_
  obtain ⟨y19, hy19, h⟩ := l2_b h
  refine rfX2_repeat_12 d N _ l2 q18.1 (0, q18.2) y19 hy19 ?_ _ _ _ _
  intro w20 w21 w22 w23 w24
  show am_Rn _ _ _ _ (90, [some (.ref 20), w20, some (.int l2), some (.int q18.1), w21, w22, w23, w24], [], am_T0 y19)
  refine am_Rn.op _ (91, [some (.ref 20), w20, some (.int l2), some (.int q18.1), w21, w22, w23, w24], [.ref 20], am_T0 y19) rfl rfl ?_
  refine am_Rn.op _ (94, [some (.ref 20), w20, some (.int l2), some (.int q18.1), w21, w22, w23, w24], [.ref 34], am_T0 y19) rfl rfl ?_
  refine am_Rn.op _ (96, [some (.ref 20), w20, some (.int l2), some (.int q18.1), w21, w22, w23, w24], [.int 1000000, .ref 34], am_T0 y19) rfl rfl ?_
  obtain ⟨q25, hq25, h⟩ := l2_b h
  refine am_Rn.cl _ none (am_T0 q25) rfl rfl (rfJ7_fill_53178 (d + 2) N 34 1000000 rfl y19 q25 hq25) ?_
  show am_Rn _ _ _ _ (99, [some (.ref 20), w20, some (.int l2), some (.int q18.1), w21, w22, w23, w24], [], am_T0 q25)
  refine am_Rn.op _ (100, [some (.ref 20), w20, some (.int l2), some (.int q18.1), w21, w22, w23, w24], [.ref 20], am_T0 q25) rfl rfl ?_
  refine am_Rn.op _ (101, [some (.ref 20), w20, some (.int l2), some (.int q18.1), w21, w22, w23, w24], [.int q18.1, .ref 20], am_T0 q25) rfl rfl ?_
  refine am_Rn.op _ (102, [some (.ref 20), w20, some (.int l2), some (.int q18.1), w21, w22, w23, w24], [.int l2, .int q18.1, .ref 20], am_T0 q25) rfl rfl ?_
  obtain ⟨q26, hq26, h⟩ := l2_b h
  refine am_Rn.cl _ none (am_T0 q26) rfl rfl (rfX2_enter (d + 0) N q18.1 l2 q25 q26 hq26) ?_
  show am_Rn _ _ _ _ (105, [some (.ref 20), w20, some (.int l2), some (.int q18.1), w21, w22, w23, w24], [], am_T0 q26)
  refine am_Rn.op _ (106, [some (.ref 20), w20, some (.int l2), some (.int q18.1), w21, w22, w23, w24], [.int 0], am_T0 q26) rfl rfl ?_
  refine am_Rn.op _ (108, [some (.ref 20), w20, some (.int l2), some (.int q18.1), some (.int 0), w22, w23, w24], [], am_T0 q26) rfl rfl ?_
  obtain ⟨y27, hy27, h⟩ := l2_b h
  refine rfX2_repeat_108 d N _ q18.1 (0, q26) y27 hy27 ?_ _ _ _ _ _
  cases h
  exact rfl
