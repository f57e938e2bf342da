-- X8_shuts
def fX8_shuts_63 (N : Nat) (l1 : Int32) (s0 : Int32) (S : St) : Option (Int32 × St) := (fX8_goesOn N l1 s0 (st_i (st_i S 128 15 ((S.1 128 15) - 1)) 128 7 (((st_i S 128 15 ((S.1 128 15) - 1)).1 128 7) + 1))).bind (fun q1 => (if q1.1 = 0 ∨ q1.1 = 1 then some (q1.1, q1.2) else none))
set_option maxRecDepth 20000 in
theorem rfX8_shuts_63 (d N : Nat) (l1 : Int32) (s0 : Int32) (S : St) (z : (Int32 × St)) (h : fX8_shuts_63 N l1 s0 S = some z) (w2 : Option Value) : am_Rn (am_C (d + 3)) (am_ct 125) (am_rk 125) (some (.int z.1), am_T0 z.2) (63, [some (.ref 128), some (.int l1), w2], [.int s0], am_T0 S) := by
  unfold fX8_shuts_63 at h
  refine am_Rn.op _ (64, [some (.ref 128), some (.int l1), some (.int s0)], [], am_T0 S) rfl rfl ?_
  refine am_Rn.op _ (65, [some (.ref 128), some (.int l1), some (.int s0)], [.ref 128], am_T0 S) rfl rfl ?_
  refine am_Rn.op _ (66, [some (.ref 128), some (.int l1), some (.int s0)], [.ref 128, .ref 128], am_T0 S) rfl rfl ?_
  refine am_Rn.op _ (69, [some (.ref 128), some (.int l1), some (.int s0)], [.int (S.1 128 15), .ref 128], am_T0 S) rfl rfl ?_
  refine am_Rn.op _ (70, [some (.ref 128), some (.int l1), some (.int s0)], [.int 1, .int (S.1 128 15), .ref 128], am_T0 S) rfl rfl ?_
  refine am_Rn.op _ (71, [some (.ref 128), some (.int l1), some (.int s0)], [.int ((S.1 128 15) - 1), .ref 128], am_T0 S) rfl rfl ?_
  refine am_Rn.op _ (74, [some (.ref 128), some (.int l1), some (.int s0)], [], am_T0 (st_i S 128 15 ((S.1 128 15) - 1))) rfl rfl ?_
  refine am_Rn.op _ (75, [some (.ref 128), some (.int l1), some (.int s0)], [.ref 128], am_T0 (st_i S 128 15 ((S.1 128 15) - 1))) rfl rfl ?_
  refine am_Rn.op _ (76, [some (.ref 128), some (.int l1), some (.int s0)], [.ref 128, .ref 128], am_T0 (st_i S 128 15 ((S.1 128 15) - 1))) rfl rfl ?_
  refine am_Rn.op _ (79, [some (.ref 128), some (.int l1), some (.int s0)], [.int ((st_i S 128 15 ((S.1 128 15) - 1)).1 128 7), .ref 128], am_T0 (st_i S 128 15 ((S.1 128 15) - 1))) rfl rfl ?_
  refine am_Rn.op _ (80, [some (.ref 128), some (.int l1), some (.int s0)], [.int 1, .int ((st_i S 128 15 ((S.1 128 15) - 1)).1 128 7), .ref 128], am_T0 (st_i S 128 15 ((S.1 128 15) - 1))) rfl rfl ?_
  refine am_Rn.op _ (81, [some (.ref 128), some (.int l1), some (.int s0)], [.int (((st_i S 128 15 ((S.1 128 15) - 1)).1 128 7) + 1), .ref 128], am_T0 (st_i S 128 15 ((S.1 128 15) - 1))) rfl rfl ?_
  refine am_Rn.op _ (84, [some (.ref 128), some (.int l1), some (.int s0)], [], am_T0 (st_i (st_i S 128 15 ((S.1 128 15) - 1)) 128 7 (((st_i S 128 15 ((S.1 128 15) - 1)).1 128 7) + 1))) rfl rfl ?_
  refine am_Rn.op _ (85, [some (.ref 128), some (.int l1), some (.int s0)], [.ref 128], am_T0 (st_i (st_i S 128 15 ((S.1 128 15) - 1)) 128 7 (((st_i S 128 15 ((S.1 128 15) - 1)).1 128 7) + 1))) rfl rfl ?_
  refine am_Rn.op _ (86, [some (.ref 128), some (.int l1), some (.int s0)], [.int l1, .ref 128], am_T0 (st_i (st_i S 128 15 ((S.1 128 15) - 1)) 128 7 (((st_i S 128 15 ((S.1 128 15) - 1)).1 128 7) + 1))) rfl rfl ?_
  refine am_Rn.op _ (87, [some (.ref 128), some (.int l1), some (.int s0)], [.int s0, .int l1, .ref 128], am_T0 (st_i (st_i S 128 15 ((S.1 128 15) - 1)) 128 7 (((st_i S 128 15 ((S.1 128 15) - 1)).1 128 7) + 1))) rfl rfl ?_
  obtain ⟨q1, hq1, h⟩ := l2_b h
  refine am_Rn.cl _ (some (.int q1.1)) (am_T0 q1.2) rfl rfl (rfX8_goesOn (d + 0) N l1 s0 (st_i (st_i S 128 15 ((S.1 128 15) - 1)) 128 7 (((st_i S 128 15 ((S.1 128 15) - 1)).1 128 7) + 1)) q1 hq1) ?_
  show am_Rn _ _ _ _ (90, [some (.ref 128), some (.int l1), some (.int s0)], [.int q1.1], am_T0 q1.2)
  obtain ⟨hb2, h⟩ := l2_y h
  cases h
  exact am_Rn.rt _ rfl (l2_rz hb2)
def fX8_shuts (N : Nat) (S : St) : Option (Int32 × St) := (if (S.1 128 15) = 0 then (fX8_wrong N 1 (S.1 128 7) S).bind (fun q3 => (if q3.1 = 0 ∨ q3.1 = 1 then some (q3.1, q3.2) else none)) else (if (S.1 128 15) < 0 ∨ 9 ≤ Int32.toNatClampNeg (S.1 128 15) then none else (if (S.1 136 (Int32.toNatClampNeg (S.1 128 15))) < 0 ∨ 60 ≤ Int32.toNatClampNeg (S.1 136 (Int32.toNatClampNeg (S.1 128 15))) then none else (if ((st_i S 135 (Int32.toNatClampNeg (S.1 136 (Int32.toNatClampNeg (S.1 128 15)))) (S.1 128 7)).1 128 15) < 0 ∨ 9 ≤ Int32.toNatClampNeg ((st_i S 135 (Int32.toNatClampNeg (S.1 136 (Int32.toNatClampNeg (S.1 128 15)))) (S.1 128 7)).1 128 15) then none else (if ((st_i S 135 (Int32.toNatClampNeg (S.1 136 (Int32.toNatClampNeg (S.1 128 15)))) (S.1 128 7)).1 137 (Int32.toNatClampNeg ((st_i S 135 (Int32.toNatClampNeg (S.1 136 (Int32.toNatClampNeg (S.1 128 15)))) (S.1 128 7)).1 128 15))) = 5 then (if ((st_i S 135 (Int32.toNatClampNeg (S.1 136 (Int32.toNatClampNeg (S.1 128 15)))) (S.1 128 7)).1 128 15) < 0 ∨ 9 ≤ Int32.toNatClampNeg ((st_i S 135 (Int32.toNatClampNeg (S.1 136 (Int32.toNatClampNeg (S.1 128 15)))) (S.1 128 7)).1 128 15) then none else fX8_shuts_63 N ((st_i S 135 (Int32.toNatClampNeg (S.1 136 (Int32.toNatClampNeg (S.1 128 15)))) (S.1 128 7)).1 137 (Int32.toNatClampNeg ((st_i S 135 (Int32.toNatClampNeg (S.1 136 (Int32.toNatClampNeg (S.1 128 15)))) (S.1 128 7)).1 128 15))) ((st_i S 135 (Int32.toNatClampNeg (S.1 136 (Int32.toNatClampNeg (S.1 128 15)))) (S.1 128 7)).1 138 (Int32.toNatClampNeg ((st_i S 135 (Int32.toNatClampNeg (S.1 136 (Int32.toNatClampNeg (S.1 128 15)))) (S.1 128 7)).1 128 15))) (st_i S 135 (Int32.toNatClampNeg (S.1 136 (Int32.toNatClampNeg (S.1 128 15)))) (S.1 128 7))) else fX8_shuts_63 N ((st_i S 135 (Int32.toNatClampNeg (S.1 136 (Int32.toNatClampNeg (S.1 128 15)))) (S.1 128 7)).1 137 (Int32.toNatClampNeg ((st_i S 135 (Int32.toNatClampNeg (S.1 136 (Int32.toNatClampNeg (S.1 128 15)))) (S.1 128 7)).1 128 15))) 0 (st_i S 135 (Int32.toNatClampNeg (S.1 136 (Int32.toNatClampNeg (S.1 128 15)))) (S.1 128 7)))))))
set_option maxRecDepth 20000 in
theorem rfX8_shuts (d N : Nat) (S : St) (z : (Int32 × St)) (h : fX8_shuts N S = some z) : am_C (d + 4) 125 [.ref 128] (am_T0 S) (some (.int z.1), am_T0 z.2) := by
  unfold fX8_shuts at h
  show am_Rn (am_C (d + 3)) (am_ct 125) (am_rk 125) (some (.int z.1), am_T0 z.2) (0, [some (.ref 128), none, none], [], am_T0 S)
  refine am_Rn.op _ (1, [some (.ref 128), none, none], [.ref 128], am_T0 S) rfl rfl ?_
  refine am_Rn.op _ (4, [some (.ref 128), none, none], [.int (S.1 128 15)], am_T0 S) rfl rfl ?_
  refine am_Rn.op _ (if (S.1 128 15) = 0 then 7 else 17, [some (.ref 128), none, none], [], am_T0 S) rfl rfl ?_
  rcases l2_i h with ⟨hc, h⟩ | ⟨hc, h⟩
  · refine am_Rn.ifT hc ?_
    refine am_Rn.op _ (8, [some (.ref 128), none, none], [.ref 128], am_T0 S) rfl rfl ?_
    refine am_Rn.op _ (9, [some (.ref 128), none, none], [.int 1, .ref 128], am_T0 S) rfl rfl ?_
    refine am_Rn.op _ (10, [some (.ref 128), none, none], [.ref 128, .int 1, .ref 128], am_T0 S) rfl rfl ?_
    refine am_Rn.op _ (13, [some (.ref 128), none, none], [.int (S.1 128 7), .int 1, .ref 128], am_T0 S) rfl rfl ?_
    obtain ⟨q3, hq3, h⟩ := l2_b h
    refine am_Rn.cl _ (some (.int q3.1)) (am_T0 q3.2) rfl rfl (rfX8_wrong (d + 2) N 1 (S.1 128 7) S q3 hq3) ?_
    show am_Rn _ _ _ _ (16, [some (.ref 128), none, none], [.int q3.1], am_T0 q3.2)
    obtain ⟨hb4, h⟩ := l2_y h
    cases h
    exact am_Rn.rt _ rfl (l2_rz hb4)
  · refine am_Rn.ifF hc ?_
    refine am_Rn.op _ (18, [some (.ref 128), none, none], [.ref 128], am_T0 S) rfl rfl ?_
    refine am_Rn.op _ (21, [some (.ref 128), none, none], [.ref 135], am_T0 S) rfl rfl ?_
    refine am_Rn.op _ (22, [some (.ref 128), none, none], [.ref 128, .ref 135], am_T0 S) rfl rfl ?_
    refine am_Rn.op _ (25, [some (.ref 128), none, none], [.ref 136, .ref 135], am_T0 S) rfl rfl ?_
    refine am_Rn.op _ (26, [some (.ref 128), none, none], [.ref 128, .ref 136, .ref 135], am_T0 S) rfl rfl ?_
    refine am_Rn.op _ (29, [some (.ref 128), none, none], [.int (S.1 128 15), .ref 136, .ref 135], am_T0 S) rfl rfl ?_
    obtain ⟨hb5, h⟩ := l2_n h
    refine am_Rn.iald (n := 9) rfl rfl hb5 ?_
    show am_Rn _ _ _ _ (30, [some (.ref 128), none, none], [.int (S.1 136 (Int32.toNatClampNeg (S.1 128 15))), .ref 135], am_T0 S)
    refine am_Rn.op _ (31, [some (.ref 128), none, none], [.ref 128, .int (S.1 136 (Int32.toNatClampNeg (S.1 128 15))), .ref 135], am_T0 S) rfl rfl ?_
    refine am_Rn.op _ (34, [some (.ref 128), none, none], [.int (S.1 128 7), .int (S.1 136 (Int32.toNatClampNeg (S.1 128 15))), .ref 135], am_T0 S) rfl rfl ?_
    obtain ⟨hb6, h⟩ := l2_n h
    refine am_Rn.iast (n := 60) rfl rfl hb6 ?_
    show am_Rn _ _ _ _ (35, [some (.ref 128), none, none], [], am_T0 (st_i S 135 (Int32.toNatClampNeg (S.1 136 (Int32.toNatClampNeg (S.1 128 15)))) (S.1 128 7)))
    refine am_Rn.op _ (36, [some (.ref 128), none, none], [.ref 128], am_T0 (st_i S 135 (Int32.toNatClampNeg (S.1 136 (Int32.toNatClampNeg (S.1 128 15)))) (S.1 128 7))) rfl rfl ?_
    refine am_Rn.op _ (39, [some (.ref 128), none, none], [.ref 137], am_T0 (st_i S 135 (Int32.toNatClampNeg (S.1 136 (Int32.toNatClampNeg (S.1 128 15)))) (S.1 128 7))) rfl rfl ?_
    refine am_Rn.op _ (40, [some (.ref 128), none, none], [.ref 128, .ref 137], am_T0 (st_i S 135 (Int32.toNatClampNeg (S.1 136 (Int32.toNatClampNeg (S.1 128 15)))) (S.1 128 7))) rfl rfl ?_
    refine am_Rn.op _ (43, [some (.ref 128), none, none], [.int ((st_i S 135 (Int32.toNatClampNeg (S.1 136 (Int32.toNatClampNeg (S.1 128 15)))) (S.1 128 7)).1 128 15), .ref 137], am_T0 (st_i S 135 (Int32.toNatClampNeg (S.1 136 (Int32.toNatClampNeg (S.1 128 15)))) (S.1 128 7))) rfl rfl ?_
    obtain ⟨hb7, h⟩ := l2_n h
    refine am_Rn.iald (n := 9) rfl rfl hb7 ?_
    show am_Rn _ _ _ _ (44, [some (.ref 128), none, none], [.int ((st_i S 135 (Int32.toNatClampNeg (S.1 136 (Int32.toNatClampNeg (S.1 128 15)))) (S.1 128 7)).1 137 (Int32.toNatClampNeg ((st_i S 135 (Int32.toNatClampNeg (S.1 136 (Int32.toNatClampNeg (S.1 128 15)))) (S.1 128 7)).1 128 15)))], am_T0 (st_i S 135 (Int32.toNatClampNeg (S.1 136 (Int32.toNatClampNeg (S.1 128 15)))) (S.1 128 7)))
    refine am_Rn.op _ (45, [some (.ref 128), some (.int ((st_i S 135 (Int32.toNatClampNeg (S.1 136 (Int32.toNatClampNeg (S.1 128 15)))) (S.1 128 7)).1 137 (Int32.toNatClampNeg ((st_i S 135 (Int32.toNatClampNeg (S.1 136 (Int32.toNatClampNeg (S.1 128 15)))) (S.1 128 7)).1 128 15)))), none], [], am_T0 (st_i S 135 (Int32.toNatClampNeg (S.1 136 (Int32.toNatClampNeg (S.1 128 15)))) (S.1 128 7))) rfl rfl ?_
    refine am_Rn.op _ (46, [some (.ref 128), some (.int ((st_i S 135 (Int32.toNatClampNeg (S.1 136 (Int32.toNatClampNeg (S.1 128 15)))) (S.1 128 7)).1 137 (Int32.toNatClampNeg ((st_i S 135 (Int32.toNatClampNeg (S.1 136 (Int32.toNatClampNeg (S.1 128 15)))) (S.1 128 7)).1 128 15)))), none], [.int ((st_i S 135 (Int32.toNatClampNeg (S.1 136 (Int32.toNatClampNeg (S.1 128 15)))) (S.1 128 7)).1 137 (Int32.toNatClampNeg ((st_i S 135 (Int32.toNatClampNeg (S.1 136 (Int32.toNatClampNeg (S.1 128 15)))) (S.1 128 7)).1 128 15)))], am_T0 (st_i S 135 (Int32.toNatClampNeg (S.1 136 (Int32.toNatClampNeg (S.1 128 15)))) (S.1 128 7))) rfl rfl ?_
    refine am_Rn.op _ (47, [some (.ref 128), some (.int ((st_i S 135 (Int32.toNatClampNeg (S.1 136 (Int32.toNatClampNeg (S.1 128 15)))) (S.1 128 7)).1 137 (Int32.toNatClampNeg ((st_i S 135 (Int32.toNatClampNeg (S.1 136 (Int32.toNatClampNeg (S.1 128 15)))) (S.1 128 7)).1 128 15)))), none], [.int 5, .int ((st_i S 135 (Int32.toNatClampNeg (S.1 136 (Int32.toNatClampNeg (S.1 128 15)))) (S.1 128 7)).1 137 (Int32.toNatClampNeg ((st_i S 135 (Int32.toNatClampNeg (S.1 136 (Int32.toNatClampNeg (S.1 128 15)))) (S.1 128 7)).1 128 15)))], am_T0 (st_i S 135 (Int32.toNatClampNeg (S.1 136 (Int32.toNatClampNeg (S.1 128 15)))) (S.1 128 7))) rfl rfl ?_
    refine am_Rn.op _ (if ((st_i S 135 (Int32.toNatClampNeg (S.1 136 (Int32.toNatClampNeg (S.1 128 15)))) (S.1 128 7)).1 137 (Int32.toNatClampNeg ((st_i S 135 (Int32.toNatClampNeg (S.1 136 (Int32.toNatClampNeg (S.1 128 15)))) (S.1 128 7)).1 128 15))) = 5 then 50 else 62, [some (.ref 128), some (.int ((st_i S 135 (Int32.toNatClampNeg (S.1 136 (Int32.toNatClampNeg (S.1 128 15)))) (S.1 128 7)).1 137 (Int32.toNatClampNeg ((st_i S 135 (Int32.toNatClampNeg (S.1 136 (Int32.toNatClampNeg (S.1 128 15)))) (S.1 128 7)).1 128 15)))), none], [], am_T0 (st_i S 135 (Int32.toNatClampNeg (S.1 136 (Int32.toNatClampNeg (S.1 128 15)))) (S.1 128 7))) rfl rfl ?_
    rcases l2_i h with ⟨hc, h⟩ | ⟨hc, h⟩
    · refine am_Rn.ifT hc ?_
      refine am_Rn.op _ (51, [some (.ref 128), some (.int ((st_i S 135 (Int32.toNatClampNeg (S.1 136 (Int32.toNatClampNeg (S.1 128 15)))) (S.1 128 7)).1 137 (Int32.toNatClampNeg ((st_i S 135 (Int32.toNatClampNeg (S.1 136 (Int32.toNatClampNeg (S.1 128 15)))) (S.1 128 7)).1 128 15)))), none], [.ref 128], am_T0 (st_i S 135 (Int32.toNatClampNeg (S.1 136 (Int32.toNatClampNeg (S.1 128 15)))) (S.1 128 7))) rfl rfl ?_
      refine am_Rn.op _ (54, [some (.ref 128), some (.int ((st_i S 135 (Int32.toNatClampNeg (S.1 136 (Int32.toNatClampNeg (S.1 128 15)))) (S.1 128 7)).1 137 (Int32.toNatClampNeg ((st_i S 135 (Int32.toNatClampNeg (S.1 136 (Int32.toNatClampNeg (S.1 128 15)))) (S.1 128 7)).1 128 15)))), none], [.ref 138], am_T0 (st_i S 135 (Int32.toNatClampNeg (S.1 136 (Int32.toNatClampNeg (S.1 128 15)))) (S.1 128 7))) rfl rfl ?_
      refine am_Rn.op _ (55, [some (.ref 128), some (.int ((st_i S 135 (Int32.toNatClampNeg (S.1 136 (Int32.toNatClampNeg (S.1 128 15)))) (S.1 128 7)).1 137 (Int32.toNatClampNeg ((st_i S 135 (Int32.toNatClampNeg (S.1 136 (Int32.toNatClampNeg (S.1 128 15)))) (S.1 128 7)).1 128 15)))), none], [.ref 128, .ref 138], am_T0 (st_i S 135 (Int32.toNatClampNeg (S.1 136 (Int32.toNatClampNeg (S.1 128 15)))) (S.1 128 7))) rfl rfl ?_
      refine am_Rn.op _ (58, [some (.ref 128), some (.int ((st_i S 135 (Int32.toNatClampNeg (S.1 136 (Int32.toNatClampNeg (S.1 128 15)))) (S.1 128 7)).1 137 (Int32.toNatClampNeg ((st_i S 135 (Int32.toNatClampNeg (S.1 136 (Int32.toNatClampNeg (S.1 128 15)))) (S.1 128 7)).1 128 15)))), none], [.int ((st_i S 135 (Int32.toNatClampNeg (S.1 136 (Int32.toNatClampNeg (S.1 128 15)))) (S.1 128 7)).1 128 15), .ref 138], am_T0 (st_i S 135 (Int32.toNatClampNeg (S.1 136 (Int32.toNatClampNeg (S.1 128 15)))) (S.1 128 7))) rfl rfl ?_
      obtain ⟨hb8, h⟩ := l2_n h
      refine am_Rn.iald (n := 9) rfl rfl hb8 ?_
      show am_Rn _ _ _ _ (59, [some (.ref 128), some (.int ((st_i S 135 (Int32.toNatClampNeg (S.1 136 (Int32.toNatClampNeg (S.1 128 15)))) (S.1 128 7)).1 137 (Int32.toNatClampNeg ((st_i S 135 (Int32.toNatClampNeg (S.1 136 (Int32.toNatClampNeg (S.1 128 15)))) (S.1 128 7)).1 128 15)))), none], [.int ((st_i S 135 (Int32.toNatClampNeg (S.1 136 (Int32.toNatClampNeg (S.1 128 15)))) (S.1 128 7)).1 138 (Int32.toNatClampNeg ((st_i S 135 (Int32.toNatClampNeg (S.1 136 (Int32.toNatClampNeg (S.1 128 15)))) (S.1 128 7)).1 128 15)))], am_T0 (st_i S 135 (Int32.toNatClampNeg (S.1 136 (Int32.toNatClampNeg (S.1 128 15)))) (S.1 128 7)))
      refine am_Rn.op _ (63, [some (.ref 128), some (.int ((st_i S 135 (Int32.toNatClampNeg (S.1 136 (Int32.toNatClampNeg (S.1 128 15)))) (S.1 128 7)).1 137 (Int32.toNatClampNeg ((st_i S 135 (Int32.toNatClampNeg (S.1 136 (Int32.toNatClampNeg (S.1 128 15)))) (S.1 128 7)).1 128 15)))), none], [.int ((st_i S 135 (Int32.toNatClampNeg (S.1 136 (Int32.toNatClampNeg (S.1 128 15)))) (S.1 128 7)).1 138 (Int32.toNatClampNeg ((st_i S 135 (Int32.toNatClampNeg (S.1 136 (Int32.toNatClampNeg (S.1 128 15)))) (S.1 128 7)).1 128 15)))], am_T0 (st_i S 135 (Int32.toNatClampNeg (S.1 136 (Int32.toNatClampNeg (S.1 128 15)))) (S.1 128 7))) rfl rfl ?_
      exact rfX8_shuts_63 d N ((st_i S 135 (Int32.toNatClampNeg (S.1 136 (Int32.toNatClampNeg (S.1 128 15)))) (S.1 128 7)).1 137 (Int32.toNatClampNeg ((st_i S 135 (Int32.toNatClampNeg (S.1 136 (Int32.toNatClampNeg (S.1 128 15)))) (S.1 128 7)).1 128 15))) ((st_i S 135 (Int32.toNatClampNeg (S.1 136 (Int32.toNatClampNeg (S.1 128 15)))) (S.1 128 7)).1 138 (Int32.toNatClampNeg ((st_i S 135 (Int32.toNatClampNeg (S.1 136 (Int32.toNatClampNeg (S.1 128 15)))) (S.1 128 7)).1 128 15))) (st_i S 135 (Int32.toNatClampNeg (S.1 136 (Int32.toNatClampNeg (S.1 128 15)))) (S.1 128 7)) _ h _
    · refine am_Rn.ifF hc ?_
      refine am_Rn.op _ (63, [some (.ref 128), some (.int ((st_i S 135 (Int32.toNatClampNeg (S.1 136 (Int32.toNatClampNeg (S.1 128 15)))) (S.1 128 7)).1 137 (Int32.toNatClampNeg ((st_i S 135 (Int32.toNatClampNeg (S.1 136 (Int32.toNatClampNeg (S.1 128 15)))) (S.1 128 7)).1 128 15)))), none], [.int 0], am_T0 (st_i S 135 (Int32.toNatClampNeg (S.1 136 (Int32.toNatClampNeg (S.1 128 15)))) (S.1 128 7))) rfl rfl ?_
      exact rfX8_shuts_63 d N ((st_i S 135 (Int32.toNatClampNeg (S.1 136 (Int32.toNatClampNeg (S.1 128 15)))) (S.1 128 7)).1 137 (Int32.toNatClampNeg ((st_i S 135 (Int32.toNatClampNeg (S.1 136 (Int32.toNatClampNeg (S.1 128 15)))) (S.1 128 7)).1 128 15))) 0 (st_i S 135 (Int32.toNatClampNeg (S.1 136 (Int32.toNatClampNeg (S.1 128 15)))) (S.1 128 7)) _ h _
-- X8_readsStatement
def fX8_readsStatement_326 (N : Nat) (s1 : Int32) (S : St) : Option (Int32 × St) := (fX8_opens N s1 S).bind (fun q1 => (if q1.1 = 0 ∨ q1.1 = 1 then some (q1.1, q1.2) else none))
set_option maxRecDepth 20000 in
theorem rfX8_readsStatement_326 (d N : Nat) (s1 : Int32) (S : St) (z : (Int32 × St)) (h : fX8_readsStatement_326 N s1 S = some z) (w0 : Option Value) (w1 : Option Value) : am_Rn (am_C (d + 4)) (am_ct 126) (am_rk 126) (some (.int z.1), am_T0 z.2) (326, [w0, w1], [.int s1, .ref 128], am_T0 S) := by
  unfold fX8_readsStatement_326 at h
  obtain ⟨q1, hq1, h⟩ := l2_b h
  refine am_Rn.cl _ (some (.int q1.1)) (am_T0 q1.2) rfl rfl (rfX8_opens (d + 2) N s1 S q1 hq1) ?_
  show am_Rn _ _ _ _ (329, [w0, w1], [.int q1.1], am_T0 q1.2)
  obtain ⟨hb2, h⟩ := l2_y h
  cases h
  exact am_Rn.rt _ rfl (l2_rz hb2)
def fX8_readsStatement_282 (N : Nat) (S : St) : Option (Int32 × St) := some (1, (st_i S 128 7 ((S.1 128 7) + 2)))
set_option maxRecDepth 20000 in
theorem rfX8_readsStatement_282 (d N : Nat) (S : St) (z : (Int32 × St)) (h : fX8_readsStatement_282 N S = some z) (w1 : Option Value) : am_Rn (am_C (d + 4)) (am_ct 126) (am_rk 126) (some (.int z.1), am_T0 z.2) (282, [some (.ref 128), w1], [], am_T0 S) := by
  unfold fX8_readsStatement_282 at h
  refine am_Rn.op _ (283, [some (.ref 128), w1], [.ref 128], am_T0 S) rfl rfl ?_
  refine am_Rn.op _ (284, [some (.ref 128), w1], [.ref 128, .ref 128], am_T0 S) rfl rfl ?_
  refine am_Rn.op _ (287, [some (.ref 128), w1], [.int (S.1 128 7), .ref 128], am_T0 S) rfl rfl ?_
  refine am_Rn.op _ (288, [some (.ref 128), w1], [.int 2, .int (S.1 128 7), .ref 128], am_T0 S) rfl rfl ?_
  refine am_Rn.op _ (289, [some (.ref 128), w1], [.int ((S.1 128 7) + 2), .ref 128], am_T0 S) rfl rfl ?_
  refine am_Rn.op _ (292, [some (.ref 128), w1], [], am_T0 (st_i S 128 7 ((S.1 128 7) + 2))) rfl rfl ?_
  refine am_Rn.op _ (293, [some (.ref 128), w1], [.int 1], am_T0 (st_i S 128 7 ((S.1 128 7) + 2))) rfl rfl ?_
  cases h
  exact am_Rn.rt _ rfl rfl
def fX8_readsStatement_216 (N : Nat) (S : St) : Option (Int32 × St) := (fX8_wrong N 1 ((S.1 128 7) + 1) S).bind (fun q3 => (if q3.1 = 0 ∨ q3.1 = 1 then some (q3.1, q3.2) else none))
set_option maxRecDepth 20000 in
theorem rfX8_readsStatement_216 (d N : Nat) (S : St) (z : (Int32 × St)) (h : fX8_readsStatement_216 N S = some z) (w1 : Option Value) : am_Rn (am_C (d + 4)) (am_ct 126) (am_rk 126) (some (.int z.1), am_T0 z.2) (216, [some (.ref 128), w1], [], am_T0 S) := by
  unfold fX8_readsStatement_216 at h
  refine am_Rn.op _ (217, [some (.ref 128), w1], [.ref 128], am_T0 S) rfl rfl ?_
  refine am_Rn.op _ (218, [some (.ref 128), w1], [.int 1, .ref 128], am_T0 S) rfl rfl ?_
  refine am_Rn.op _ (219, [some (.ref 128), w1], [.ref 128, .int 1, .ref 128], am_T0 S) rfl rfl ?_
  refine am_Rn.op _ (222, [some (.ref 128), w1], [.int (S.1 128 7), .int 1, .ref 128], am_T0 S) rfl rfl ?_
  refine am_Rn.op _ (223, [some (.ref 128), w1], [.int 1, .int (S.1 128 7), .int 1, .ref 128], am_T0 S) rfl rfl ?_
  refine am_Rn.op _ (224, [some (.ref 128), w1], [.int ((S.1 128 7) + 1), .int 1, .ref 128], am_T0 S) rfl rfl ?_
  obtain ⟨q3, hq3, h⟩ := l2_b h
  refine am_Rn.cl _ (some (.int q3.1)) (am_T0 q3.2) rfl rfl (rfX8_wrong (d + 3) N 1 ((S.1 128 7) + 1) S q3 hq3) ?_
  show am_Rn _ _ _ _ (227, [some (.ref 128), w1], [.int q3.1], am_T0 q3.2)
  obtain ⟨hb4, h⟩ := l2_y h
  cases h
  exact am_Rn.rt _ rfl (l2_rz hb4)
def fX8_readsStatement (N : Nat) (S : St) : Option (Int32 × St) := (fX8_sign N (S.1 128 7) S).bind (fun q5 => (if q5.1 = 33 then (fX8_sign N ((q5.2.1 128 7) + 1) q5.2).bind (fun q6 => (fX8_isLetter N q6.1 q6.2).bind (fun q7 => (if q7.1 = 0 then (fX8_wrong N 1 ((q7.2.1 128 7) + 1) q7.2).bind (fun q8 => (if q8.1 = 0 ∨ q8.1 = 1 then some (q8.1, q8.2) else none)) else some (1, (st_i q7.2 128 7 ((q7.2.1 128 7) + 2)))))) else (if q5.1 = 42 then (if q5.1 = 63 then fX8_readsStatement_326 N 1 (st_i q5.2 128 7 ((q5.2.1 128 7) + 1)) else (if q5.1 = 42 then fX8_readsStatement_326 N 3 (st_i q5.2 128 7 ((q5.2.1 128 7) + 1)) else fX8_readsStatement_326 N 4 (st_i q5.2 128 7 ((q5.2.1 128 7) + 1)))) else (if q5.1 = 43 then (fX8_sign N ((q5.2.1 128 7) + 1) q5.2).bind (fun q10 => (if q10.1 = 48 then fX8_readsStatement_282 N q10.2 else (fX8_sign N ((q10.2.1 128 7) + 1) q10.2).bind (fun q11 => (if q11.1 = 49 then fX8_readsStatement_282 N q11.2 else (fX8_wrong N 1 ((q11.2.1 128 7) + 1) q11.2).bind (fun q12 => (if q12.1 = 0 ∨ q12.1 = 1 then some (q12.1, q12.2) else none)))))) else (if q5.1 = 45 then (fX8_sign N ((q5.2.1 128 7) + 1) q5.2).bind (fun q14 => (if q14.1 = 48 then fX8_readsStatement_282 N q14.2 else (fX8_sign N ((q14.2.1 128 7) + 1) q14.2).bind (fun q15 => (if q15.1 = 49 then fX8_readsStatement_282 N q15.2 else (fX8_wrong N 1 ((q15.2.1 128 7) + 1) q15.2).bind (fun q16 => (if q16.1 = 0 ∨ q16.1 = 1 then some (q16.1, q16.2) else none)))))) else (if q5.1 = 46 then some (1, (st_i q5.2 128 7 ((q5.2.1 128 7) + 1))) else (if q5.1 = 63 then (if q5.1 = 63 then fX8_readsStatement_326 N 1 (st_i q5.2 128 7 ((q5.2.1 128 7) + 1)) else (if q5.1 = 42 then fX8_readsStatement_326 N 3 (st_i q5.2 128 7 ((q5.2.1 128 7) + 1)) else fX8_readsStatement_326 N 4 (st_i q5.2 128 7 ((q5.2.1 128 7) + 1)))) else (if q5.1 = 64 then (fX8_sign N ((q5.2.1 128 7) + 1) q5.2).bind (fun q18 => (if q18.1 < 97 then fX8_readsStatement_216 N q18.2 else (fX8_sign N ((q18.2.1 128 7) + 1) q18.2).bind (fun q19 => (if q19.1 ≤ 104 then some (1, (st_i q19.2 128 7 ((q19.2.1 128 7) + 2))) else fX8_readsStatement_216 N q19.2)))) else (if q5.1 = 84 then (if q5.1 = 63 then fX8_readsStatement_326 N 1 (st_i q5.2 128 7 ((q5.2.1 128 7) + 1)) else (if q5.1 = 42 then fX8_readsStatement_326 N 3 (st_i q5.2 128 7 ((q5.2.1 128 7) + 1)) else fX8_readsStatement_326 N 4 (st_i q5.2 128 7 ((q5.2.1 128 7) + 1)))) else (if q5.1 = 94 then (fX8_isTaking N q5.2).bind (fun q20 => (if q20.1 = 0 then (fX8_wrong N 1 (q20.2.1 128 7) q20.2).bind (fun q21 => (if q21.1 = 0 ∨ q21.1 = 1 then some (q21.1, q21.2) else none)) else some (1, (st_i q20.2 128 7 ((q20.2.1 128 7) + 1))))) else (if q5.1 = 125 then (fX8_shuts N q5.2).bind (fun q23 => (if q23.1 = 0 ∨ q23.1 = 1 then some (q23.1, q23.2) else none)) else (fX8_wrong N 1 (q5.2.1 128 7) q5.2).bind (fun q25 => (if q25.1 = 0 ∨ q25.1 = 1 then some (q25.1, q25.2) else none)))))))))))))
set_option maxRecDepth 20000 in
theorem rfX8_readsStatement (d N : Nat) (S : St) (z : (Int32 × St)) (h : fX8_readsStatement N S = some z) : am_C (d + 5) 126 [.ref 128] (am_T0 S) (some (.int z.1), am_T0 z.2) := by
  unfold fX8_readsStatement at h
  show am_Rn (am_C (d + 4)) (am_ct 126) (am_rk 126) (some (.int z.1), am_T0 z.2) (0, [some (.ref 128), none], [], am_T0 S)
  refine am_Rn.op _ (1, [some (.ref 128), none], [.ref 128], am_T0 S) rfl rfl ?_
  refine am_Rn.op _ (2, [some (.ref 128), none], [.ref 128, .ref 128], am_T0 S) rfl rfl ?_
  refine am_Rn.op _ (5, [some (.ref 128), none], [.int (S.1 128 7), .ref 128], am_T0 S) rfl rfl ?_
  obtain ⟨q5, hq5, h⟩ := l2_b h
  refine am_Rn.cl _ (some (.int q5.1)) (am_T0 q5.2) rfl rfl (rfX8_sign (d + 3) N (S.1 128 7) S q5 hq5) ?_
  show am_Rn _ _ _ _ (8, [some (.ref 128), none], [.int q5.1], am_T0 q5.2)
  refine am_Rn.op _ (9, [some (.ref 128), some (.int q5.1)], [], am_T0 q5.2) rfl rfl ?_
  refine am_Rn.op _ (10, [some (.ref 128), some (.int q5.1)], [.int q5.1], am_T0 q5.2) rfl rfl ?_
  refine am_Rn.op _ ((if q5.1 = 33 then 146 else (if q5.1 = 42 then 294 else (if q5.1 = 43 then 240 else (if q5.1 = 45 then 240 else (if q5.1 = 46 then 105 else (if q5.1 = 63 then 294 else (if q5.1 = 64 then 186 else (if q5.1 = 84 then 294 else (if q5.1 = 94 then 117 else (if q5.1 = 125 then 100 else 330)))))))))), [some (.ref 128), some (.int q5.1)], [], am_T0 q5.2) rfl rfl ?_
  rcases l2_i h with ⟨hc, h⟩ | ⟨hc, h⟩
  · refine am_Rn.ifT hc ?_
    refine am_Rn.op _ (147, [some (.ref 128), some (.int q5.1)], [.ref 128], am_T0 q5.2) rfl rfl ?_
    refine am_Rn.op _ (148, [some (.ref 128), some (.int q5.1)], [.ref 128, .ref 128], am_T0 q5.2) rfl rfl ?_
    refine am_Rn.op _ (151, [some (.ref 128), some (.int q5.1)], [.int (q5.2.1 128 7), .ref 128], am_T0 q5.2) rfl rfl ?_
    refine am_Rn.op _ (152, [some (.ref 128), some (.int q5.1)], [.int 1, .int (q5.2.1 128 7), .ref 128], am_T0 q5.2) rfl rfl ?_
    refine am_Rn.op _ (153, [some (.ref 128), some (.int q5.1)], [.int ((q5.2.1 128 7) + 1), .ref 128], am_T0 q5.2) rfl rfl ?_
    obtain ⟨q6, hq6, h⟩ := l2_b h
    refine am_Rn.cl _ (some (.int q6.1)) (am_T0 q6.2) rfl rfl (rfX8_sign (d + 3) N ((q5.2.1 128 7) + 1) q5.2 q6 hq6) ?_
    show am_Rn _ _ _ _ (156, [some (.ref 128), some (.int q5.1)], [.int q6.1], am_T0 q6.2)
    obtain ⟨q7, hq7, h⟩ := l2_b h
    refine am_Rn.cl _ (some (.int q7.1)) (am_T0 q7.2) rfl rfl (rfX8_isLetter (d + 3) N q6.1 q6.2 q7 hq7) ?_
    show am_Rn _ _ _ _ (159, [some (.ref 128), some (.int q5.1)], [.int q7.1], am_T0 q7.2)
    refine am_Rn.op _ (if q7.1 = 0 then 162 else 174, [some (.ref 128), some (.int q5.1)], [], am_T0 q7.2) rfl rfl ?_
    rcases l2_i h with ⟨hc, h⟩ | ⟨hc, h⟩
    · refine am_Rn.ifT hc ?_
      refine am_Rn.op _ (163, [some (.ref 128), some (.int q5.1)], [.ref 128], am_T0 q7.2) rfl rfl ?_
      refine am_Rn.op _ (164, [some (.ref 128), some (.int q5.1)], [.int 1, .ref 128], am_T0 q7.2) rfl rfl ?_
      refine am_Rn.op _ (165, [some (.ref 128), some (.int q5.1)], [.ref 128, .int 1, .ref 128], am_T0 q7.2) rfl rfl ?_
      refine am_Rn.op _ (168, [some (.ref 128), some (.int q5.1)], [.int (q7.2.1 128 7), .int 1, .ref 128], am_T0 q7.2) rfl rfl ?_
      refine am_Rn.op _ (169, [some (.ref 128), some (.int q5.1)], [.int 1, .int (q7.2.1 128 7), .int 1, .ref 128], am_T0 q7.2) rfl rfl ?_
      refine am_Rn.op _ (170, [some (.ref 128), some (.int q5.1)], [.int ((q7.2.1 128 7) + 1), .int 1, .ref 128], am_T0 q7.2) rfl rfl ?_
      obtain ⟨q8, hq8, h⟩ := l2_b h
      refine am_Rn.cl _ (some (.int q8.1)) (am_T0 q8.2) rfl rfl (rfX8_wrong (d + 3) N 1 ((q7.2.1 128 7) + 1) q7.2 q8 hq8) ?_
      show am_Rn _ _ _ _ (173, [some (.ref 128), some (.int q5.1)], [.int q8.1], am_T0 q8.2)
      obtain ⟨hb9, h⟩ := l2_y h
      cases h
      exact am_Rn.rt _ rfl (l2_rz hb9)
    · refine am_Rn.ifF hc ?_
      refine am_Rn.op _ (175, [some (.ref 128), some (.int q5.1)], [.ref 128], am_T0 q7.2) rfl rfl ?_
      refine am_Rn.op _ (176, [some (.ref 128), some (.int q5.1)], [.ref 128, .ref 128], am_T0 q7.2) rfl rfl ?_
      refine am_Rn.op _ (179, [some (.ref 128), some (.int q5.1)], [.int (q7.2.1 128 7), .ref 128], am_T0 q7.2) rfl rfl ?_
      refine am_Rn.op _ (180, [some (.ref 128), some (.int q5.1)], [.int 2, .int (q7.2.1 128 7), .ref 128], am_T0 q7.2) rfl rfl ?_
      refine am_Rn.op _ (181, [some (.ref 128), some (.int q5.1)], [.int ((q7.2.1 128 7) + 2), .ref 128], am_T0 q7.2) rfl rfl ?_
      refine am_Rn.op _ (184, [some (.ref 128), some (.int q5.1)], [], am_T0 (st_i q7.2 128 7 ((q7.2.1 128 7) + 2))) rfl rfl ?_
      refine am_Rn.op _ (185, [some (.ref 128), some (.int q5.1)], [.int 1], am_T0 (st_i q7.2 128 7 ((q7.2.1 128 7) + 2))) rfl rfl ?_
      cases h
      exact am_Rn.rt _ rfl rfl
  · refine am_Rn.ifF hc ?_
    rcases l2_i h with ⟨hc, h⟩ | ⟨hc, h⟩
    · refine am_Rn.ifT hc ?_
      refine am_Rn.op _ (295, [some (.ref 128), some (.int q5.1)], [.ref 128], am_T0 q5.2) rfl rfl ?_
      refine am_Rn.op _ (296, [some (.ref 128), some (.int q5.1)], [.ref 128, .ref 128], am_T0 q5.2) rfl rfl ?_
      refine am_Rn.op _ (299, [some (.ref 128), some (.int q5.1)], [.int (q5.2.1 128 7), .ref 128], am_T0 q5.2) rfl rfl ?_
      refine am_Rn.op _ (300, [some (.ref 128), some (.int q5.1)], [.int 1, .int (q5.2.1 128 7), .ref 128], am_T0 q5.2) rfl rfl ?_
      refine am_Rn.op _ (301, [some (.ref 128), some (.int q5.1)], [.int ((q5.2.1 128 7) + 1), .ref 128], am_T0 q5.2) rfl rfl ?_
      refine am_Rn.op _ (304, [some (.ref 128), some (.int q5.1)], [], am_T0 (st_i q5.2 128 7 ((q5.2.1 128 7) + 1))) rfl rfl ?_
      refine am_Rn.op _ (305, [some (.ref 128), some (.int q5.1)], [.ref 128], am_T0 (st_i q5.2 128 7 ((q5.2.1 128 7) + 1))) rfl rfl ?_
      refine am_Rn.op _ (306, [some (.ref 128), some (.int q5.1)], [.int q5.1, .ref 128], am_T0 (st_i q5.2 128 7 ((q5.2.1 128 7) + 1))) rfl rfl ?_
      refine am_Rn.op _ (308, [some (.ref 128), some (.int q5.1)], [.int 63, .int q5.1, .ref 128], am_T0 (st_i q5.2 128 7 ((q5.2.1 128 7) + 1))) rfl rfl ?_
      refine am_Rn.op _ (if q5.1 = 63 then 311 else 315, [some (.ref 128), some (.int q5.1)], [.ref 128], am_T0 (st_i q5.2 128 7 ((q5.2.1 128 7) + 1))) rfl rfl ?_
      rcases l2_i h with ⟨hc, h⟩ | ⟨hc, h⟩
      · refine am_Rn.ifT hc ?_
        refine am_Rn.op _ (312, [some (.ref 128), some (.int q5.1)], [.int 1, .ref 128], am_T0 (st_i q5.2 128 7 ((q5.2.1 128 7) + 1))) rfl rfl ?_
        refine am_Rn.op _ (326, [some (.ref 128), some (.int q5.1)], [.int 1, .ref 128], am_T0 (st_i q5.2 128 7 ((q5.2.1 128 7) + 1))) rfl rfl ?_
        exact rfX8_readsStatement_326 d N 1 (st_i q5.2 128 7 ((q5.2.1 128 7) + 1)) _ h _ _
      · refine am_Rn.ifF hc ?_
        refine am_Rn.op _ (316, [some (.ref 128), some (.int q5.1)], [.int q5.1, .ref 128], am_T0 (st_i q5.2 128 7 ((q5.2.1 128 7) + 1))) rfl rfl ?_
        refine am_Rn.op _ (318, [some (.ref 128), some (.int q5.1)], [.int 42, .int q5.1, .ref 128], am_T0 (st_i q5.2 128 7 ((q5.2.1 128 7) + 1))) rfl rfl ?_
        refine am_Rn.op _ (if q5.1 = 42 then 321 else 325, [some (.ref 128), some (.int q5.1)], [.ref 128], am_T0 (st_i q5.2 128 7 ((q5.2.1 128 7) + 1))) rfl rfl ?_
        rcases l2_i h with ⟨hc, h⟩ | ⟨hc, h⟩
        · refine am_Rn.ifT hc ?_
          refine am_Rn.op _ (322, [some (.ref 128), some (.int q5.1)], [.int 3, .ref 128], am_T0 (st_i q5.2 128 7 ((q5.2.1 128 7) + 1))) rfl rfl ?_
          refine am_Rn.op _ (326, [some (.ref 128), some (.int q5.1)], [.int 3, .ref 128], am_T0 (st_i q5.2 128 7 ((q5.2.1 128 7) + 1))) rfl rfl ?_
          exact rfX8_readsStatement_326 d N 3 (st_i q5.2 128 7 ((q5.2.1 128 7) + 1)) _ h _ _
        · refine am_Rn.ifF hc ?_
          refine am_Rn.op _ (326, [some (.ref 128), some (.int q5.1)], [.int 4, .ref 128], am_T0 (st_i q5.2 128 7 ((q5.2.1 128 7) + 1))) rfl rfl ?_
          exact rfX8_readsStatement_326 d N 4 (st_i q5.2 128 7 ((q5.2.1 128 7) + 1)) _ h _ _
    · refine am_Rn.ifF hc ?_
      rcases l2_i h with ⟨hc, h⟩ | ⟨hc, h⟩
      · refine am_Rn.ifT hc ?_
        refine am_Rn.op _ (241, [some (.ref 128), some (.int q5.1)], [.ref 128], am_T0 q5.2) rfl rfl ?_
        refine am_Rn.op _ (242, [some (.ref 128), some (.int q5.1)], [.ref 128, .ref 128], am_T0 q5.2) rfl rfl ?_
        refine am_Rn.op _ (245, [some (.ref 128), some (.int q5.1)], [.int (q5.2.1 128 7), .ref 128], am_T0 q5.2) rfl rfl ?_
        refine am_Rn.op _ (246, [some (.ref 128), some (.int q5.1)], [.int 1, .int (q5.2.1 128 7), .ref 128], am_T0 q5.2) rfl rfl ?_
        refine am_Rn.op _ (247, [some (.ref 128), some (.int q5.1)], [.int ((q5.2.1 128 7) + 1), .ref 128], am_T0 q5.2) rfl rfl ?_
        obtain ⟨q10, hq10, h⟩ := l2_b h
        refine am_Rn.cl _ (some (.int q10.1)) (am_T0 q10.2) rfl rfl (rfX8_sign (d + 3) N ((q5.2.1 128 7) + 1) q5.2 q10 hq10) ?_
        show am_Rn _ _ _ _ (250, [some (.ref 128), some (.int q5.1)], [.int q10.1], am_T0 q10.2)
        refine am_Rn.op _ (252, [some (.ref 128), some (.int q5.1)], [.int 48, .int q10.1], am_T0 q10.2) rfl rfl ?_
        refine am_Rn.op _ (if q10.1 = 48 then 282 else 255, [some (.ref 128), some (.int q5.1)], [], am_T0 q10.2) rfl rfl ?_
        rcases l2_i h with ⟨hc, h⟩ | ⟨hc, h⟩
        · refine am_Rn.ifT hc ?_
          exact rfX8_readsStatement_282 d N q10.2 _ h _
        · refine am_Rn.ifF hc ?_
          refine am_Rn.op _ (256, [some (.ref 128), some (.int q5.1)], [.ref 128], am_T0 q10.2) rfl rfl ?_
          refine am_Rn.op _ (257, [some (.ref 128), some (.int q5.1)], [.ref 128, .ref 128], am_T0 q10.2) rfl rfl ?_
          refine am_Rn.op _ (260, [some (.ref 128), some (.int q5.1)], [.int (q10.2.1 128 7), .ref 128], am_T0 q10.2) rfl rfl ?_
          refine am_Rn.op _ (261, [some (.ref 128), some (.int q5.1)], [.int 1, .int (q10.2.1 128 7), .ref 128], am_T0 q10.2) rfl rfl ?_
          refine am_Rn.op _ (262, [some (.ref 128), some (.int q5.1)], [.int ((q10.2.1 128 7) + 1), .ref 128], am_T0 q10.2) rfl rfl ?_
          obtain ⟨q11, hq11, h⟩ := l2_b h
          refine am_Rn.cl _ (some (.int q11.1)) (am_T0 q11.2) rfl rfl (rfX8_sign (d + 3) N ((q10.2.1 128 7) + 1) q10.2 q11 hq11) ?_
          show am_Rn _ _ _ _ (265, [some (.ref 128), some (.int q5.1)], [.int q11.1], am_T0 q11.2)
          refine am_Rn.op _ (267, [some (.ref 128), some (.int q5.1)], [.int 49, .int q11.1], am_T0 q11.2) rfl rfl ?_
          refine am_Rn.op _ (if q11.1 = 49 then 282 else 270, [some (.ref 128), some (.int q5.1)], [], am_T0 q11.2) rfl rfl ?_
          rcases l2_i h with ⟨hc, h⟩ | ⟨hc, h⟩
          · refine am_Rn.ifT hc ?_
            exact rfX8_readsStatement_282 d N q11.2 _ h _
          · refine am_Rn.ifF hc ?_
            refine am_Rn.op _ (271, [some (.ref 128), some (.int q5.1)], [.ref 128], am_T0 q11.2) rfl rfl ?_
            refine am_Rn.op _ (272, [some (.ref 128), some (.int q5.1)], [.int 1, .ref 128], am_T0 q11.2) rfl rfl ?_
            refine am_Rn.op _ (273, [some (.ref 128), some (.int q5.1)], [.ref 128, .int 1, .ref 128], am_T0 q11.2) rfl rfl ?_
            refine am_Rn.op _ (276, [some (.ref 128), some (.int q5.1)], [.int (q11.2.1 128 7), .int 1, .ref 128], am_T0 q11.2) rfl rfl ?_
            refine am_Rn.op _ (277, [some (.ref 128), some (.int q5.1)], [.int 1, .int (q11.2.1 128 7), .int 1, .ref 128], am_T0 q11.2) rfl rfl ?_
            refine am_Rn.op _ (278, [some (.ref 128), some (.int q5.1)], [.int ((q11.2.1 128 7) + 1), .int 1, .ref 128], am_T0 q11.2) rfl rfl ?_
            obtain ⟨q12, hq12, h⟩ := l2_b h
            refine am_Rn.cl _ (some (.int q12.1)) (am_T0 q12.2) rfl rfl (rfX8_wrong (d + 3) N 1 ((q11.2.1 128 7) + 1) q11.2 q12 hq12) ?_
            show am_Rn _ _ _ _ (281, [some (.ref 128), some (.int q5.1)], [.int q12.1], am_T0 q12.2)
            obtain ⟨hb13, h⟩ := l2_y h
            cases h
            exact am_Rn.rt _ rfl (l2_rz hb13)
      · refine am_Rn.ifF hc ?_
        rcases l2_i h with ⟨hc, h⟩ | ⟨hc, h⟩
        · refine am_Rn.ifT hc ?_
          refine am_Rn.op _ (241, [some (.ref 128), some (.int q5.1)], [.ref 128], am_T0 q5.2) rfl rfl ?_
          refine am_Rn.op _ (242, [some (.ref 128), some (.int q5.1)], [.ref 128, .ref 128], am_T0 q5.2) rfl rfl ?_
          refine am_Rn.op _ (245, [some (.ref 128), some (.int q5.1)], [.int (q5.2.1 128 7), .ref 128], am_T0 q5.2) rfl rfl ?_
          refine am_Rn.op _ (246, [some (.ref 128), some (.int q5.1)], [.int 1, .int (q5.2.1 128 7), .ref 128], am_T0 q5.2) rfl rfl ?_
          refine am_Rn.op _ (247, [some (.ref 128), some (.int q5.1)], [.int ((q5.2.1 128 7) + 1), .ref 128], am_T0 q5.2) rfl rfl ?_
          obtain ⟨q14, hq14, h⟩ := l2_b h
          refine am_Rn.cl _ (some (.int q14.1)) (am_T0 q14.2) rfl rfl (rfX8_sign (d + 3) N ((q5.2.1 128 7) + 1) q5.2 q14 hq14) ?_
          show am_Rn _ _ _ _ (250, [some (.ref 128), some (.int q5.1)], [.int q14.1], am_T0 q14.2)
          refine am_Rn.op _ (252, [some (.ref 128), some (.int q5.1)], [.int 48, .int q14.1], am_T0 q14.2) rfl rfl ?_
          refine am_Rn.op _ (if q14.1 = 48 then 282 else 255, [some (.ref 128), some (.int q5.1)], [], am_T0 q14.2) rfl rfl ?_
          rcases l2_i h with ⟨hc, h⟩ | ⟨hc, h⟩
          · refine am_Rn.ifT hc ?_
            exact rfX8_readsStatement_282 d N q14.2 _ h _
          · refine am_Rn.ifF hc ?_
            refine am_Rn.op _ (256, [some (.ref 128), some (.int q5.1)], [.ref 128], am_T0 q14.2) rfl rfl ?_
            refine am_Rn.op _ (257, [some (.ref 128), some (.int q5.1)], [.ref 128, .ref 128], am_T0 q14.2) rfl rfl ?_
            refine am_Rn.op _ (260, [some (.ref 128), some (.int q5.1)], [.int (q14.2.1 128 7), .ref 128], am_T0 q14.2) rfl rfl ?_
            refine am_Rn.op _ (261, [some (.ref 128), some (.int q5.1)], [.int 1, .int (q14.2.1 128 7), .ref 128], am_T0 q14.2) rfl rfl ?_
            refine am_Rn.op _ (262, [some (.ref 128), some (.int q5.1)], [.int ((q14.2.1 128 7) + 1), .ref 128], am_T0 q14.2) rfl rfl ?_
            obtain ⟨q15, hq15, h⟩ := l2_b h
            refine am_Rn.cl _ (some (.int q15.1)) (am_T0 q15.2) rfl rfl (rfX8_sign (d + 3) N ((q14.2.1 128 7) + 1) q14.2 q15 hq15) ?_
            show am_Rn _ _ _ _ (265, [some (.ref 128), some (.int q5.1)], [.int q15.1], am_T0 q15.2)
            refine am_Rn.op _ (267, [some (.ref 128), some (.int q5.1)], [.int 49, .int q15.1], am_T0 q15.2) rfl rfl ?_
            refine am_Rn.op _ (if q15.1 = 49 then 282 else 270, [some (.ref 128), some (.int q5.1)], [], am_T0 q15.2) rfl rfl ?_
            rcases l2_i h with ⟨hc, h⟩ | ⟨hc, h⟩
            · refine am_Rn.ifT hc ?_
              exact rfX8_readsStatement_282 d N q15.2 _ h _
            · refine am_Rn.ifF hc ?_
              refine am_Rn.op _ (271, [some (.ref 128), some (.int q5.1)], [.ref 128], am_T0 q15.2) rfl rfl ?_
              refine am_Rn.op _ (272, [some (.ref 128), some (.int q5.1)], [.int 1, .ref 128], am_T0 q15.2) rfl rfl ?_
              refine am_Rn.op _ (273, [some (.ref 128), some (.int q5.1)], [.ref 128, .int 1, .ref 128], am_T0 q15.2) rfl rfl ?_
              refine am_Rn.op _ (276, [some (.ref 128), some (.int q5.1)], [.int (q15.2.1 128 7), .int 1, .ref 128], am_T0 q15.2) rfl rfl ?_
              refine am_Rn.op _ (277, [some (.ref 128), some (.int q5.1)], [.int 1, .int (q15.2.1 128 7), .int 1, .ref 128], am_T0 q15.2) rfl rfl ?_
              refine am_Rn.op _ (278, [some (.ref 128), some (.int q5.1)], [.int ((q15.2.1 128 7) + 1), .int 1, .ref 128], am_T0 q15.2) rfl rfl ?_
              obtain ⟨q16, hq16, h⟩ := l2_b h
              refine am_Rn.cl _ (some (.int q16.1)) (am_T0 q16.2) rfl rfl (rfX8_wrong (d + 3) N 1 ((q15.2.1 128 7) + 1) q15.2 q16 hq16) ?_
              show am_Rn _ _ _ _ (281, [some (.ref 128), some (.int q5.1)], [.int q16.1], am_T0 q16.2)
              obtain ⟨hb17, h⟩ := l2_y h
              cases h
              exact am_Rn.rt _ rfl (l2_rz hb17)
        · refine am_Rn.ifF hc ?_
          rcases l2_i h with ⟨hc, h⟩ | ⟨hc, h⟩
          · refine am_Rn.ifT hc ?_
            refine am_Rn.op _ (106, [some (.ref 128), some (.int q5.1)], [.ref 128], am_T0 q5.2) rfl rfl ?_
            refine am_Rn.op _ (107, [some (.ref 128), some (.int q5.1)], [.ref 128, .ref 128], am_T0 q5.2) rfl rfl ?_
            refine am_Rn.op _ (110, [some (.ref 128), some (.int q5.1)], [.int (q5.2.1 128 7), .ref 128], am_T0 q5.2) rfl rfl ?_
            refine am_Rn.op _ (111, [some (.ref 128), some (.int q5.1)], [.int 1, .int (q5.2.1 128 7), .ref 128], am_T0 q5.2) rfl rfl ?_
            refine am_Rn.op _ (112, [some (.ref 128), some (.int q5.1)], [.int ((q5.2.1 128 7) + 1), .ref 128], am_T0 q5.2) rfl rfl ?_
            refine am_Rn.op _ (115, [some (.ref 128), some (.int q5.1)], [], am_T0 (st_i q5.2 128 7 ((q5.2.1 128 7) + 1))) rfl rfl ?_
            refine am_Rn.op _ (116, [some (.ref 128), some (.int q5.1)], [.int 1], am_T0 (st_i q5.2 128 7 ((q5.2.1 128 7) + 1))) rfl rfl ?_
            cases h
            exact am_Rn.rt _ rfl rfl
          · refine am_Rn.ifF hc ?_
            rcases l2_i h with ⟨hc, h⟩ | ⟨hc, h⟩
            · refine am_Rn.ifT hc ?_
              refine am_Rn.op _ (295, [some (.ref 128), some (.int q5.1)], [.ref 128], am_T0 q5.2) rfl rfl ?_
              refine am_Rn.op _ (296, [some (.ref 128), some (.int q5.1)], [.ref 128, .ref 128], am_T0 q5.2) rfl rfl ?_
              refine am_Rn.op _ (299, [some (.ref 128), some (.int q5.1)], [.int (q5.2.1 128 7), .ref 128], am_T0 q5.2) rfl rfl ?_
              refine am_Rn.op _ (300, [some (.ref 128), some (.int q5.1)], [.int 1, .int (q5.2.1 128 7), .ref 128], am_T0 q5.2) rfl rfl ?_
              refine am_Rn.op _ (301, [some (.ref 128), some (.int q5.1)], [.int ((q5.2.1 128 7) + 1), .ref 128], am_T0 q5.2) rfl rfl ?_
              refine am_Rn.op _ (304, [some (.ref 128), some (.int q5.1)], [], am_T0 (st_i q5.2 128 7 ((q5.2.1 128 7) + 1))) rfl rfl ?_
              refine am_Rn.op _ (305, [some (.ref 128), some (.int q5.1)], [.ref 128], am_T0 (st_i q5.2 128 7 ((q5.2.1 128 7) + 1))) rfl rfl ?_
              refine am_Rn.op _ (306, [some (.ref 128), some (.int q5.1)], [.int q5.1, .ref 128], am_T0 (st_i q5.2 128 7 ((q5.2.1 128 7) + 1))) rfl rfl ?_
              refine am_Rn.op _ (308, [some (.ref 128), some (.int q5.1)], [.int 63, .int q5.1, .ref 128], am_T0 (st_i q5.2 128 7 ((q5.2.1 128 7) + 1))) rfl rfl ?_
              refine am_Rn.op _ (if q5.1 = 63 then 311 else 315, [some (.ref 128), some (.int q5.1)], [.ref 128], am_T0 (st_i q5.2 128 7 ((q5.2.1 128 7) + 1))) rfl rfl ?_
              rcases l2_i h with ⟨hc, h⟩ | ⟨hc, h⟩
              · refine am_Rn.ifT hc ?_
                refine am_Rn.op _ (312, [some (.ref 128), some (.int q5.1)], [.int 1, .ref 128], am_T0 (st_i q5.2 128 7 ((q5.2.1 128 7) + 1))) rfl rfl ?_
                refine am_Rn.op _ (326, [some (.ref 128), some (.int q5.1)], [.int 1, .ref 128], am_T0 (st_i q5.2 128 7 ((q5.2.1 128 7) + 1))) rfl rfl ?_
                exact rfX8_readsStatement_326 d N 1 (st_i q5.2 128 7 ((q5.2.1 128 7) + 1)) _ h _ _
              · refine am_Rn.ifF hc ?_
                refine am_Rn.op _ (316, [some (.ref 128), some (.int q5.1)], [.int q5.1, .ref 128], am_T0 (st_i q5.2 128 7 ((q5.2.1 128 7) + 1))) rfl rfl ?_
                refine am_Rn.op _ (318, [some (.ref 128), some (.int q5.1)], [.int 42, .int q5.1, .ref 128], am_T0 (st_i q5.2 128 7 ((q5.2.1 128 7) + 1))) rfl rfl ?_
                refine am_Rn.op _ (if q5.1 = 42 then 321 else 325, [some (.ref 128), some (.int q5.1)], [.ref 128], am_T0 (st_i q5.2 128 7 ((q5.2.1 128 7) + 1))) rfl rfl ?_
                rcases l2_i h with ⟨hc, h⟩ | ⟨hc, h⟩
                · refine am_Rn.ifT hc ?_
                  refine am_Rn.op _ (322, [some (.ref 128), some (.int q5.1)], [.int 3, .ref 128], am_T0 (st_i q5.2 128 7 ((q5.2.1 128 7) + 1))) rfl rfl ?_
                  refine am_Rn.op _ (326, [some (.ref 128), some (.int q5.1)], [.int 3, .ref 128], am_T0 (st_i q5.2 128 7 ((q5.2.1 128 7) + 1))) rfl rfl ?_
                  exact rfX8_readsStatement_326 d N 3 (st_i q5.2 128 7 ((q5.2.1 128 7) + 1)) _ h _ _
                · refine am_Rn.ifF hc ?_
                  refine am_Rn.op _ (326, [some (.ref 128), some (.int q5.1)], [.int 4, .ref 128], am_T0 (st_i q5.2 128 7 ((q5.2.1 128 7) + 1))) rfl rfl ?_
                  exact rfX8_readsStatement_326 d N 4 (st_i q5.2 128 7 ((q5.2.1 128 7) + 1)) _ h _ _
            · refine am_Rn.ifF hc ?_
              rcases l2_i h with ⟨hc, h⟩ | ⟨hc, h⟩
              · refine am_Rn.ifT hc ?_
                refine am_Rn.op _ (187, [some (.ref 128), some (.int q5.1)], [.ref 128], am_T0 q5.2) rfl rfl ?_
                refine am_Rn.op _ (188, [some (.ref 128), some (.int q5.1)], [.ref 128, .ref 128], am_T0 q5.2) rfl rfl ?_
                refine am_Rn.op _ (191, [some (.ref 128), some (.int q5.1)], [.int (q5.2.1 128 7), .ref 128], am_T0 q5.2) rfl rfl ?_
                refine am_Rn.op _ (192, [some (.ref 128), some (.int q5.1)], [.int 1, .int (q5.2.1 128 7), .ref 128], am_T0 q5.2) rfl rfl ?_
                refine am_Rn.op _ (193, [some (.ref 128), some (.int q5.1)], [.int ((q5.2.1 128 7) + 1), .ref 128], am_T0 q5.2) rfl rfl ?_
                obtain ⟨q18, hq18, h⟩ := l2_b h
                refine am_Rn.cl _ (some (.int q18.1)) (am_T0 q18.2) rfl rfl (rfX8_sign (d + 3) N ((q5.2.1 128 7) + 1) q5.2 q18 hq18) ?_
                show am_Rn _ _ _ _ (196, [some (.ref 128), some (.int q5.1)], [.int q18.1], am_T0 q18.2)
                refine am_Rn.op _ (198, [some (.ref 128), some (.int q5.1)], [.int 97, .int q18.1], am_T0 q18.2) rfl rfl ?_
                refine am_Rn.op _ (if q18.1 < 97 then 216 else 201, [some (.ref 128), some (.int q5.1)], [], am_T0 q18.2) rfl rfl ?_
                rcases l2_i h with ⟨hc, h⟩ | ⟨hc, h⟩
                · refine am_Rn.ifT hc ?_
                  exact rfX8_readsStatement_216 d N q18.2 _ h _
                · refine am_Rn.ifF hc ?_
                  refine am_Rn.op _ (202, [some (.ref 128), some (.int q5.1)], [.ref 128], am_T0 q18.2) rfl rfl ?_
                  refine am_Rn.op _ (203, [some (.ref 128), some (.int q5.1)], [.ref 128, .ref 128], am_T0 q18.2) rfl rfl ?_
                  refine am_Rn.op _ (206, [some (.ref 128), some (.int q5.1)], [.int (q18.2.1 128 7), .ref 128], am_T0 q18.2) rfl rfl ?_
                  refine am_Rn.op _ (207, [some (.ref 128), some (.int q5.1)], [.int 1, .int (q18.2.1 128 7), .ref 128], am_T0 q18.2) rfl rfl ?_
                  refine am_Rn.op _ (208, [some (.ref 128), some (.int q5.1)], [.int ((q18.2.1 128 7) + 1), .ref 128], am_T0 q18.2) rfl rfl ?_
                  obtain ⟨q19, hq19, h⟩ := l2_b h
                  refine am_Rn.cl _ (some (.int q19.1)) (am_T0 q19.2) rfl rfl (rfX8_sign (d + 3) N ((q18.2.1 128 7) + 1) q18.2 q19 hq19) ?_
                  show am_Rn _ _ _ _ (211, [some (.ref 128), some (.int q5.1)], [.int q19.1], am_T0 q19.2)
                  refine am_Rn.op _ (213, [some (.ref 128), some (.int q5.1)], [.int 104, .int q19.1], am_T0 q19.2) rfl rfl ?_
                  refine am_Rn.op _ (if q19.1 ≤ 104 then 228 else 216, [some (.ref 128), some (.int q5.1)], [], am_T0 q19.2) rfl rfl ?_
                  rcases l2_i h with ⟨hc, h⟩ | ⟨hc, h⟩
                  · refine am_Rn.ifT hc ?_
                    refine am_Rn.op _ (229, [some (.ref 128), some (.int q5.1)], [.ref 128], am_T0 q19.2) rfl rfl ?_
                    refine am_Rn.op _ (230, [some (.ref 128), some (.int q5.1)], [.ref 128, .ref 128], am_T0 q19.2) rfl rfl ?_
                    refine am_Rn.op _ (233, [some (.ref 128), some (.int q5.1)], [.int (q19.2.1 128 7), .ref 128], am_T0 q19.2) rfl rfl ?_
                    refine am_Rn.op _ (234, [some (.ref 128), some (.int q5.1)], [.int 2, .int (q19.2.1 128 7), .ref 128], am_T0 q19.2) rfl rfl ?_
                    refine am_Rn.op _ (235, [some (.ref 128), some (.int q5.1)], [.int ((q19.2.1 128 7) + 2), .ref 128], am_T0 q19.2) rfl rfl ?_
                    refine am_Rn.op _ (238, [some (.ref 128), some (.int q5.1)], [], am_T0 (st_i q19.2 128 7 ((q19.2.1 128 7) + 2))) rfl rfl ?_
                    refine am_Rn.op _ (239, [some (.ref 128), some (.int q5.1)], [.int 1], am_T0 (st_i q19.2 128 7 ((q19.2.1 128 7) + 2))) rfl rfl ?_
                    cases h
                    exact am_Rn.rt _ rfl rfl
                  · refine am_Rn.ifF hc ?_
                    exact rfX8_readsStatement_216 d N q19.2 _ h _
              · refine am_Rn.ifF hc ?_
                rcases l2_i h with ⟨hc, h⟩ | ⟨hc, h⟩
                · refine am_Rn.ifT hc ?_
                  refine am_Rn.op _ (295, [some (.ref 128), some (.int q5.1)], [.ref 128], am_T0 q5.2) rfl rfl ?_
                  refine am_Rn.op _ (296, [some (.ref 128), some (.int q5.1)], [.ref 128, .ref 128], am_T0 q5.2) rfl rfl ?_
                  refine am_Rn.op _ (299, [some (.ref 128), some (.int q5.1)], [.int (q5.2.1 128 7), .ref 128], am_T0 q5.2) rfl rfl ?_
                  refine am_Rn.op _ (300, [some (.ref 128), some (.int q5.1)], [.int 1, .int (q5.2.1 128 7), .ref 128], am_T0 q5.2) rfl rfl ?_
                  refine am_Rn.op _ (301, [some (.ref 128), some (.int q5.1)], [.int ((q5.2.1 128 7) + 1), .ref 128], am_T0 q5.2) rfl rfl ?_
                  refine am_Rn.op _ (304, [some (.ref 128), some (.int q5.1)], [], am_T0 (st_i q5.2 128 7 ((q5.2.1 128 7) + 1))) rfl rfl ?_
                  refine am_Rn.op _ (305, [some (.ref 128), some (.int q5.1)], [.ref 128], am_T0 (st_i q5.2 128 7 ((q5.2.1 128 7) + 1))) rfl rfl ?_
                  refine am_Rn.op _ (306, [some (.ref 128), some (.int q5.1)], [.int q5.1, .ref 128], am_T0 (st_i q5.2 128 7 ((q5.2.1 128 7) + 1))) rfl rfl ?_
                  refine am_Rn.op _ (308, [some (.ref 128), some (.int q5.1)], [.int 63, .int q5.1, .ref 128], am_T0 (st_i q5.2 128 7 ((q5.2.1 128 7) + 1))) rfl rfl ?_
                  refine am_Rn.op _ (if q5.1 = 63 then 311 else 315, [some (.ref 128), some (.int q5.1)], [.ref 128], am_T0 (st_i q5.2 128 7 ((q5.2.1 128 7) + 1))) rfl rfl ?_
                  rcases l2_i h with ⟨hc, h⟩ | ⟨hc, h⟩
                  · refine am_Rn.ifT hc ?_
                    refine am_Rn.op _ (312, [some (.ref 128), some (.int q5.1)], [.int 1, .ref 128], am_T0 (st_i q5.2 128 7 ((q5.2.1 128 7) + 1))) rfl rfl ?_
                    refine am_Rn.op _ (326, [some (.ref 128), some (.int q5.1)], [.int 1, .ref 128], am_T0 (st_i q5.2 128 7 ((q5.2.1 128 7) + 1))) rfl rfl ?_
                    exact rfX8_readsStatement_326 d N 1 (st_i q5.2 128 7 ((q5.2.1 128 7) + 1)) _ h _ _
                  · refine am_Rn.ifF hc ?_
                    refine am_Rn.op _ (316, [some (.ref 128), some (.int q5.1)], [.int q5.1, .ref 128], am_T0 (st_i q5.2 128 7 ((q5.2.1 128 7) + 1))) rfl rfl ?_
                    refine am_Rn.op _ (318, [some (.ref 128), some (.int q5.1)], [.int 42, .int q5.1, .ref 128], am_T0 (st_i q5.2 128 7 ((q5.2.1 128 7) + 1))) rfl rfl ?_
                    refine am_Rn.op _ (if q5.1 = 42 then 321 else 325, [some (.ref 128), some (.int q5.1)], [.ref 128], am_T0 (st_i q5.2 128 7 ((q5.2.1 128 7) + 1))) rfl rfl ?_
                    rcases l2_i h with ⟨hc, h⟩ | ⟨hc, h⟩
                    · refine am_Rn.ifT hc ?_
                      refine am_Rn.op _ (322, [some (.ref 128), some (.int q5.1)], [.int 3, .ref 128], am_T0 (st_i q5.2 128 7 ((q5.2.1 128 7) + 1))) rfl rfl ?_
                      refine am_Rn.op _ (326, [some (.ref 128), some (.int q5.1)], [.int 3, .ref 128], am_T0 (st_i q5.2 128 7 ((q5.2.1 128 7) + 1))) rfl rfl ?_
                      exact rfX8_readsStatement_326 d N 3 (st_i q5.2 128 7 ((q5.2.1 128 7) + 1)) _ h _ _
                    · refine am_Rn.ifF hc ?_
                      refine am_Rn.op _ (326, [some (.ref 128), some (.int q5.1)], [.int 4, .ref 128], am_T0 (st_i q5.2 128 7 ((q5.2.1 128 7) + 1))) rfl rfl ?_
                      exact rfX8_readsStatement_326 d N 4 (st_i q5.2 128 7 ((q5.2.1 128 7) + 1)) _ h _ _
                · refine am_Rn.ifF hc ?_
                  rcases l2_i h with ⟨hc, h⟩ | ⟨hc, h⟩
                  · refine am_Rn.ifT hc ?_
                    refine am_Rn.op _ (118, [some (.ref 128), some (.int q5.1)], [.ref 128], am_T0 q5.2) rfl rfl ?_
                    obtain ⟨q20, hq20, h⟩ := l2_b h
                    refine am_Rn.cl _ (some (.int q20.1)) (am_T0 q20.2) rfl rfl (rfX8_isTaking (d + 3) N q5.2 q20 hq20) ?_
                    show am_Rn _ _ _ _ (121, [some (.ref 128), some (.int q5.1)], [.int q20.1], am_T0 q20.2)
                    refine am_Rn.op _ (if q20.1 = 0 then 124 else 134, [some (.ref 128), some (.int q5.1)], [], am_T0 q20.2) rfl rfl ?_
                    rcases l2_i h with ⟨hc, h⟩ | ⟨hc, h⟩
                    · refine am_Rn.ifT hc ?_
                      refine am_Rn.op _ (125, [some (.ref 128), some (.int q5.1)], [.ref 128], am_T0 q20.2) rfl rfl ?_
                      refine am_Rn.op _ (126, [some (.ref 128), some (.int q5.1)], [.int 1, .ref 128], am_T0 q20.2) rfl rfl ?_
                      refine am_Rn.op _ (127, [some (.ref 128), some (.int q5.1)], [.ref 128, .int 1, .ref 128], am_T0 q20.2) rfl rfl ?_
                      refine am_Rn.op _ (130, [some (.ref 128), some (.int q5.1)], [.int (q20.2.1 128 7), .int 1, .ref 128], am_T0 q20.2) rfl rfl ?_
                      obtain ⟨q21, hq21, h⟩ := l2_b h
                      refine am_Rn.cl _ (some (.int q21.1)) (am_T0 q21.2) rfl rfl (rfX8_wrong (d + 3) N 1 (q20.2.1 128 7) q20.2 q21 hq21) ?_
                      show am_Rn _ _ _ _ (133, [some (.ref 128), some (.int q5.1)], [.int q21.1], am_T0 q21.2)
                      obtain ⟨hb22, h⟩ := l2_y h
                      cases h
                      exact am_Rn.rt _ rfl (l2_rz hb22)
                    · refine am_Rn.ifF hc ?_
                      refine am_Rn.op _ (135, [some (.ref 128), some (.int q5.1)], [.ref 128], am_T0 q20.2) rfl rfl ?_
                      refine am_Rn.op _ (136, [some (.ref 128), some (.int q5.1)], [.ref 128, .ref 128], am_T0 q20.2) rfl rfl ?_
                      refine am_Rn.op _ (139, [some (.ref 128), some (.int q5.1)], [.int (q20.2.1 128 7), .ref 128], am_T0 q20.2) rfl rfl ?_
                      refine am_Rn.op _ (140, [some (.ref 128), some (.int q5.1)], [.int 1, .int (q20.2.1 128 7), .ref 128], am_T0 q20.2) rfl rfl ?_
                      refine am_Rn.op _ (141, [some (.ref 128), some (.int q5.1)], [.int ((q20.2.1 128 7) + 1), .ref 128], am_T0 q20.2) rfl rfl ?_
                      refine am_Rn.op _ (144, [some (.ref 128), some (.int q5.1)], [], am_T0 (st_i q20.2 128 7 ((q20.2.1 128 7) + 1))) rfl rfl ?_
                      refine am_Rn.op _ (145, [some (.ref 128), some (.int q5.1)], [.int 1], am_T0 (st_i q20.2 128 7 ((q20.2.1 128 7) + 1))) rfl rfl ?_
                      cases h
                      exact am_Rn.rt _ rfl rfl
                  · refine am_Rn.ifF hc ?_
                    rcases l2_i h with ⟨hc, h⟩ | ⟨hc, h⟩
                    · refine am_Rn.ifT hc ?_
                      refine am_Rn.op _ (101, [some (.ref 128), some (.int q5.1)], [.ref 128], am_T0 q5.2) rfl rfl ?_
                      obtain ⟨q23, hq23, h⟩ := l2_b h
                      refine am_Rn.cl _ (some (.int q23.1)) (am_T0 q23.2) rfl rfl (rfX8_shuts (d + 0) N q5.2 q23 hq23) ?_
                      show am_Rn _ _ _ _ (104, [some (.ref 128), some (.int q5.1)], [.int q23.1], am_T0 q23.2)
                      obtain ⟨hb24, h⟩ := l2_y h
                      cases h
                      exact am_Rn.rt _ rfl (l2_rz hb24)
                    · refine am_Rn.ifF hc ?_
                      refine am_Rn.op _ (331, [some (.ref 128), some (.int q5.1)], [.ref 128], am_T0 q5.2) rfl rfl ?_
                      refine am_Rn.op _ (332, [some (.ref 128), some (.int q5.1)], [.int 1, .ref 128], am_T0 q5.2) rfl rfl ?_
                      refine am_Rn.op _ (333, [some (.ref 128), some (.int q5.1)], [.ref 128, .int 1, .ref 128], am_T0 q5.2) rfl rfl ?_
                      refine am_Rn.op _ (336, [some (.ref 128), some (.int q5.1)], [.int (q5.2.1 128 7), .int 1, .ref 128], am_T0 q5.2) rfl rfl ?_
                      obtain ⟨q25, hq25, h⟩ := l2_b h
                      refine am_Rn.cl _ (some (.int q25.1)) (am_T0 q25.2) rfl rfl (rfX8_wrong (d + 3) N 1 (q5.2.1 128 7) q5.2 q25 hq25) ?_
                      show am_Rn _ _ _ _ (339, [some (.ref 128), some (.int q5.1)], [.int q25.1], am_T0 q25.2)
                      obtain ⟨hb26, h⟩ := l2_y h
                      cases h
                      exact am_Rn.rt _ rfl (l2_rz hb26)
-- X8_text
def PfX8_text_57 (d : Nat) (res : Option Value × am_S) (l1 : Int32) (l2 : Int32) (x : Int32 × St) : Prop := ∀ (w4 : Option Value), am_Rn (am_C d) (am_ct 127) (am_rk 127) res (57, [some (.ref 128), some (.int l1), some (.int l2), some (.int x.1), w4], [], am_T0 x.2)
def QfX8_text_57 (d : Nat) (res : Option Value × am_S) (l1 : Int32) (l2 : Int32) (y : Int32 × St) : Prop := ∀ (w4 : Option Value), am_Rn (am_C d) (am_ct 127) (am_rk 127) res (80, [some (.ref 128), some (.int l1), some (.int l2), some (.int y.1), w4], [], am_T0 y.2)
def PfX8_text_133 (d : Nat) (res : Option Value × am_S) (l1 : Int32) (l2 : Int32) (x : Int32 × St) : Prop := ∀ (w3 : Option Value), am_Rn (am_C d) (am_ct 127) (am_rk 127) res (133, [some (.ref 128), some (.int l1), some (.int l2), w3, some (.int x.1)], [], am_T0 x.2)
def QfX8_text_133 (d : Nat) (res : Option Value × am_S) (l1 : Int32) (l2 : Int32) (y : (Int32 × St)) : Prop := res = (some (.int y.1), am_T0 y.2)
def bfX8_text_133 (N : Nat) (l1 : Int32) (l2 : Int32) (x : Int32 × St) : Option ((Int32 × St) ⊕ ((Int32 × St))) := (if l2 ≤ x.1 then some (.inr (0, (st_i x.2 128 29 0))) else (if x.1 < 0 ∨ 80 ≤ Int32.toNatClampNeg x.1 then none else (if ((60 * l1) + x.1) < 0 ∨ 480 ≤ Int32.toNatClampNeg ((60 * l1) + x.1) then none else (if x.1 < 0 ∨ 60 ≤ Int32.toNatClampNeg x.1 then none else (if ((60 * l1) + x.1) < 0 ∨ 480 ≤ Int32.toNatClampNeg ((60 * l1) + x.1) then none else some (.inl ((x.1 + 1), (st_i (st_i x.2 132 (Int32.toNatClampNeg ((60 * l1) + x.1)) (Int8.toInt32 (Int32.toInt8 (x.2.1 131 (Int32.toNatClampNeg x.1))))) 134 (Int32.toNatClampNeg ((60 * l1) + x.1)) ((st_i x.2 132 (Int32.toNatClampNeg ((60 * l1) + x.1)) (Int8.toInt32 (Int32.toInt8 (x.2.1 131 (Int32.toNatClampNeg x.1))))).1 135 (Int32.toNatClampNeg x.1))))))))))
def fX8_text_133 (N : Nat) (l1 : Int32) (l2 : Int32) (x : Int32 × St) : Option ((Int32 × St)) := whl N (bfX8_text_133 N l1 l2 ) x
set_option maxRecDepth 20000 in
theorem rbfX8_text_133 (d N : Nat) (res : Option Value × am_S) (l1 : Int32) (l2 : Int32) (x : Int32 × St) (z : (Int32 × St) ⊕ ((Int32 × St))) (h : bfX8_text_133 N l1 l2 x = some z) (hz : Sum.elim (PfX8_text_133 (d + 5) res l1 l2 ) (QfX8_text_133 (d + 5) res l1 l2 ) z) : PfX8_text_133 (d + 5) res l1 l2 x := by
  unfold bfX8_text_133 at h
  show ∀ (w3 : Option Value), am_Rn (am_C (d + 5)) (am_ct 127) (am_rk 127) res (133, [some (.ref 128), some (.int l1), some (.int l2), w3, some (.int x.1)], [], am_T0 x.2)
  intro w3
  refine am_Rn.op _ (135, [some (.ref 128), some (.int l1), some (.int l2), w3, some (.int x.1)], [.int x.1], am_T0 x.2) rfl rfl ?_
  refine am_Rn.op _ (136, [some (.ref 128), some (.int l1), some (.int l2), w3, some (.int x.1)], [.int l2, .int x.1], am_T0 x.2) rfl rfl ?_
  refine am_Rn.op _ (if l2 ≤ x.1 then 183 else 139, [some (.ref 128), some (.int l1), some (.int l2), w3, some (.int x.1)], [], am_T0 x.2) rfl rfl ?_
  rcases l2_i h with ⟨hc, h⟩ | ⟨hc, h⟩
  · refine am_Rn.ifT hc ?_
    refine am_Rn.op _ (184, [some (.ref 128), some (.int l1), some (.int l2), w3, some (.int x.1)], [.ref 128], am_T0 x.2) rfl rfl ?_
    refine am_Rn.op _ (185, [some (.ref 128), some (.int l1), some (.int l2), w3, some (.int x.1)], [.int 0, .ref 128], am_T0 x.2) rfl rfl ?_
    refine am_Rn.op _ (188, [some (.ref 128), some (.int l1), some (.int l2), w3, some (.int x.1)], [], am_T0 (st_i x.2 128 29 0)) rfl rfl ?_
    refine am_Rn.op _ (189, [some (.ref 128), some (.int l1), some (.int l2), w3, some (.int x.1)], [.int 0], am_T0 (st_i x.2 128 29 0)) rfl rfl ?_
    cases h
    exact am_Rn.rt2 _ rfl rfl hz
  · refine am_Rn.ifF hc ?_
    refine am_Rn.op _ (140, [some (.ref 128), some (.int l1), some (.int l2), w3, some (.int x.1)], [.ref 128], am_T0 x.2) rfl rfl ?_
    refine am_Rn.op _ (143, [some (.ref 128), some (.int l1), some (.int l2), w3, some (.int x.1)], [.ref 132], am_T0 x.2) rfl rfl ?_
    refine am_Rn.op _ (145, [some (.ref 128), some (.int l1), some (.int l2), w3, some (.int x.1)], [.int 60, .ref 132], am_T0 x.2) rfl rfl ?_
    refine am_Rn.op _ (146, [some (.ref 128), some (.int l1), some (.int l2), w3, some (.int x.1)], [.int l1, .int 60, .ref 132], am_T0 x.2) rfl rfl ?_
    refine am_Rn.op _ (147, [some (.ref 128), some (.int l1), some (.int l2), w3, some (.int x.1)], [.int (60 * l1), .ref 132], am_T0 x.2) rfl rfl ?_
    refine am_Rn.op _ (149, [some (.ref 128), some (.int l1), some (.int l2), w3, some (.int x.1)], [.int x.1, .int (60 * l1), .ref 132], am_T0 x.2) rfl rfl ?_
    refine am_Rn.op _ (150, [some (.ref 128), some (.int l1), some (.int l2), w3, some (.int x.1)], [.int ((60 * l1) + x.1), .ref 132], am_T0 x.2) rfl rfl ?_
    refine am_Rn.op _ (151, [some (.ref 128), some (.int l1), some (.int l2), w3, some (.int x.1)], [.ref 128, .int ((60 * l1) + x.1), .ref 132], am_T0 x.2) rfl rfl ?_
    refine am_Rn.op _ (154, [some (.ref 128), some (.int l1), some (.int l2), w3, some (.int x.1)], [.ref 131, .int ((60 * l1) + x.1), .ref 132], am_T0 x.2) rfl rfl ?_
    refine am_Rn.op _ (156, [some (.ref 128), some (.int l1), some (.int l2), w3, some (.int x.1)], [.int x.1, .ref 131, .int ((60 * l1) + x.1), .ref 132], am_T0 x.2) rfl rfl ?_
    obtain ⟨hb1, h⟩ := l2_n h
    refine am_Rn.bald1 (n := 80) rfl rfl hb1 ?_
    show am_Rn _ _ _ _ (157, [some (.ref 128), some (.int l1), some (.int l2), w3, some (.int x.1)], [.int (x.2.1 131 (Int32.toNatClampNeg x.1)), .int ((60 * l1) + x.1), .ref 132], am_T0 x.2)
    obtain ⟨hb2, h⟩ := l2_n h
    refine am_Rn.bast1 (n := 480) rfl rfl hb2 ?_
    show am_Rn _ _ _ _ (158, [some (.ref 128), some (.int l1), some (.int l2), w3, some (.int x.1)], [], am_T0 (st_i x.2 132 (Int32.toNatClampNeg ((60 * l1) + x.1)) (Int8.toInt32 (Int32.toInt8 (x.2.1 131 (Int32.toNatClampNeg x.1))))))
    refine am_Rn.op _ (159, [some (.ref 128), some (.int l1), some (.int l2), w3, some (.int x.1)], [.ref 128], am_T0 (st_i x.2 132 (Int32.toNatClampNeg ((60 * l1) + x.1)) (Int8.toInt32 (Int32.toInt8 (x.2.1 131 (Int32.toNatClampNeg x.1)))))) rfl rfl ?_
    refine am_Rn.op _ (162, [some (.ref 128), some (.int l1), some (.int l2), w3, some (.int x.1)], [.ref 134], am_T0 (st_i x.2 132 (Int32.toNatClampNeg ((60 * l1) + x.1)) (Int8.toInt32 (Int32.toInt8 (x.2.1 131 (Int32.toNatClampNeg x.1)))))) rfl rfl ?_
    refine am_Rn.op _ (164, [some (.ref 128), some (.int l1), some (.int l2), w3, some (.int x.1)], [.int 60, .ref 134], am_T0 (st_i x.2 132 (Int32.toNatClampNeg ((60 * l1) + x.1)) (Int8.toInt32 (Int32.toInt8 (x.2.1 131 (Int32.toNatClampNeg x.1)))))) rfl rfl ?_
    refine am_Rn.op _ (165, [some (.ref 128), some (.int l1), some (.int l2), w3, some (.int x.1)], [.int l1, .int 60, .ref 134], am_T0 (st_i x.2 132 (Int32.toNatClampNeg ((60 * l1) + x.1)) (Int8.toInt32 (Int32.toInt8 (x.2.1 131 (Int32.toNatClampNeg x.1)))))) rfl rfl ?_
    refine am_Rn.op _ (166, [some (.ref 128), some (.int l1), some (.int l2), w3, some (.int x.1)], [.int (60 * l1), .ref 134], am_T0 (st_i x.2 132 (Int32.toNatClampNeg ((60 * l1) + x.1)) (Int8.toInt32 (Int32.toInt8 (x.2.1 131 (Int32.toNatClampNeg x.1)))))) rfl rfl ?_
    refine am_Rn.op _ (168, [some (.ref 128), some (.int l1), some (.int l2), w3, some (.int x.1)], [.int x.1, .int (60 * l1), .ref 134], am_T0 (st_i x.2 132 (Int32.toNatClampNeg ((60 * l1) + x.1)) (Int8.toInt32 (Int32.toInt8 (x.2.1 131 (Int32.toNatClampNeg x.1)))))) rfl rfl ?_
    refine am_Rn.op _ (169, [some (.ref 128), some (.int l1), some (.int l2), w3, some (.int x.1)], [.int ((60 * l1) + x.1), .ref 134], am_T0 (st_i x.2 132 (Int32.toNatClampNeg ((60 * l1) + x.1)) (Int8.toInt32 (Int32.toInt8 (x.2.1 131 (Int32.toNatClampNeg x.1)))))) rfl rfl ?_
    refine am_Rn.op _ (170, [some (.ref 128), some (.int l1), some (.int l2), w3, some (.int x.1)], [.ref 128, .int ((60 * l1) + x.1), .ref 134], am_T0 (st_i x.2 132 (Int32.toNatClampNeg ((60 * l1) + x.1)) (Int8.toInt32 (Int32.toInt8 (x.2.1 131 (Int32.toNatClampNeg x.1)))))) rfl rfl ?_
    refine am_Rn.op _ (173, [some (.ref 128), some (.int l1), some (.int l2), w3, some (.int x.1)], [.ref 135, .int ((60 * l1) + x.1), .ref 134], am_T0 (st_i x.2 132 (Int32.toNatClampNeg ((60 * l1) + x.1)) (Int8.toInt32 (Int32.toInt8 (x.2.1 131 (Int32.toNatClampNeg x.1)))))) rfl rfl ?_
    refine am_Rn.op _ (175, [some (.ref 128), some (.int l1), some (.int l2), w3, some (.int x.1)], [.int x.1, .ref 135, .int ((60 * l1) + x.1), .ref 134], am_T0 (st_i x.2 132 (Int32.toNatClampNeg ((60 * l1) + x.1)) (Int8.toInt32 (Int32.toInt8 (x.2.1 131 (Int32.toNatClampNeg x.1)))))) rfl rfl ?_
    obtain ⟨hb3, h⟩ := l2_n h
    refine am_Rn.iald (n := 60) rfl rfl hb3 ?_
    show am_Rn _ _ _ _ (176, [some (.ref 128), some (.int l1), some (.int l2), w3, some (.int x.1)], [.int ((st_i x.2 132 (Int32.toNatClampNeg ((60 * l1) + x.1)) (Int8.toInt32 (Int32.toInt8 (x.2.1 131 (Int32.toNatClampNeg x.1))))).1 135 (Int32.toNatClampNeg x.1)), .int ((60 * l1) + x.1), .ref 134], am_T0 (st_i x.2 132 (Int32.toNatClampNeg ((60 * l1) + x.1)) (Int8.toInt32 (Int32.toInt8 (x.2.1 131 (Int32.toNatClampNeg x.1))))))
    obtain ⟨hb4, h⟩ := l2_n h
    refine am_Rn.iast (n := 480) rfl rfl hb4 ?_
    show am_Rn _ _ _ _ (177, [some (.ref 128), some (.int l1), some (.int l2), w3, some (.int x.1)], [], am_T0 (st_i (st_i x.2 132 (Int32.toNatClampNeg ((60 * l1) + x.1)) (Int8.toInt32 (Int32.toInt8 (x.2.1 131 (Int32.toNatClampNeg x.1))))) 134 (Int32.toNatClampNeg ((60 * l1) + x.1)) ((st_i x.2 132 (Int32.toNatClampNeg ((60 * l1) + x.1)) (Int8.toInt32 (Int32.toInt8 (x.2.1 131 (Int32.toNatClampNeg x.1))))).1 135 (Int32.toNatClampNeg x.1))))
    refine am_Rn.op _ (180, [some (.ref 128), some (.int l1), some (.int l2), w3, some (.int (x.1 + 1))], [], am_T0 (st_i (st_i x.2 132 (Int32.toNatClampNeg ((60 * l1) + x.1)) (Int8.toInt32 (Int32.toInt8 (x.2.1 131 (Int32.toNatClampNeg x.1))))) 134 (Int32.toNatClampNeg ((60 * l1) + x.1)) ((st_i x.2 132 (Int32.toNatClampNeg ((60 * l1) + x.1)) (Int8.toInt32 (Int32.toInt8 (x.2.1 131 (Int32.toNatClampNeg x.1))))).1 135 (Int32.toNatClampNeg x.1)))) rfl rfl ?_
    refine am_Rn.op _ (133, [some (.ref 128), some (.int l1), some (.int l2), w3, some (.int (x.1 + 1))], [], am_T0 (st_i (st_i x.2 132 (Int32.toNatClampNeg ((60 * l1) + x.1)) (Int8.toInt32 (Int32.toInt8 (x.2.1 131 (Int32.toNatClampNeg x.1))))) 134 (Int32.toNatClampNeg ((60 * l1) + x.1)) ((st_i x.2 132 (Int32.toNatClampNeg ((60 * l1) + x.1)) (Int8.toInt32 (Int32.toInt8 (x.2.1 131 (Int32.toNatClampNeg x.1))))).1 135 (Int32.toNatClampNeg x.1)))) rfl rfl ?_
    cases h
    exact hz _
theorem rfX8_text_133 (d N : Nat) (res : Option Value × am_S) (l1 : Int32) (l2 : Int32) (x : Int32 × St) (y : (Int32 × St)) (h : fX8_text_133 N l1 l2 x = some y) (hq : QfX8_text_133 (d + 5) res l1 l2 y) : PfX8_text_133 (d + 5) res l1 l2 x := whl_ind _ _ (fun x z => rbfX8_text_133 d N res l1 l2 x z) N x y h hq
def fX8_text_101 (N : Nat) (l1 : Int32) (l2 : Int32) (l3 : Int32) (S : St) : Option (Int32 × St) := (if l3 = 0 then some (((100 * ((st_i S 128 4 0).1 128 5)) + ((st_i S 128 4 0).1 128 6)), (st_i S 128 4 0)) else (if l1 < 0 ∨ 8 ≤ Int32.toNatClampNeg l1 then none else (fX8_text_133 N l1 l2 (0, (st_i (st_i S 128 4 0) 133 (Int32.toNatClampNeg l1) l2))).bind (fun y6 => some (y6.1, y6.2))))
set_option maxRecDepth 20000 in
theorem rfX8_text_101 (d N : Nat) (l1 : Int32) (l2 : Int32) (l3 : Int32) (S : St) (z : (Int32 × St)) (h : fX8_text_101 N l1 l2 l3 S = some z) (w4 : Option Value) : am_Rn (am_C (d + 5)) (am_ct 127) (am_rk 127) (some (.int z.1), am_T0 z.2) (101, [some (.ref 128), some (.int l1), some (.int l2), some (.int l3), w4], [], am_T0 S) := by
  unfold fX8_text_101 at h
  refine am_Rn.op _ (102, [some (.ref 128), some (.int l1), some (.int l2), some (.int l3), w4], [.ref 128], am_T0 S) rfl rfl ?_
  refine am_Rn.op _ (103, [some (.ref 128), some (.int l1), some (.int l2), some (.int l3), w4], [.int 0, .ref 128], am_T0 S) rfl rfl ?_
  refine am_Rn.op _ (106, [some (.ref 128), some (.int l1), some (.int l2), some (.int l3), w4], [], am_T0 (st_i S 128 4 0)) rfl rfl ?_
  refine am_Rn.op _ (107, [some (.ref 128), some (.int l1), some (.int l2), some (.int l3), w4], [.int l3], am_T0 (st_i S 128 4 0)) rfl rfl ?_
  refine am_Rn.op _ (if l3 = 0 then 110 else 123, [some (.ref 128), some (.int l1), some (.int l2), some (.int l3), w4], [], am_T0 (st_i S 128 4 0)) rfl rfl ?_
  rcases l2_i h with ⟨hc, h⟩ | ⟨hc, h⟩
  · refine am_Rn.ifT hc ?_
    refine am_Rn.op _ (112, [some (.ref 128), some (.int l1), some (.int l2), some (.int l3), w4], [.int 100], am_T0 (st_i S 128 4 0)) rfl rfl ?_
    refine am_Rn.op _ (113, [some (.ref 128), some (.int l1), some (.int l2), some (.int l3), w4], [.ref 128, .int 100], am_T0 (st_i S 128 4 0)) rfl rfl ?_
    refine am_Rn.op _ (116, [some (.ref 128), some (.int l1), some (.int l2), some (.int l3), w4], [.int ((st_i S 128 4 0).1 128 5), .int 100], am_T0 (st_i S 128 4 0)) rfl rfl ?_
    refine am_Rn.op _ (117, [some (.ref 128), some (.int l1), some (.int l2), some (.int l3), w4], [.int (100 * ((st_i S 128 4 0).1 128 5))], am_T0 (st_i S 128 4 0)) rfl rfl ?_
    refine am_Rn.op _ (118, [some (.ref 128), some (.int l1), some (.int l2), some (.int l3), w4], [.ref 128, .int (100 * ((st_i S 128 4 0).1 128 5))], am_T0 (st_i S 128 4 0)) rfl rfl ?_
    refine am_Rn.op _ (121, [some (.ref 128), some (.int l1), some (.int l2), some (.int l3), w4], [.int ((st_i S 128 4 0).1 128 6), .int (100 * ((st_i S 128 4 0).1 128 5))], am_T0 (st_i S 128 4 0)) rfl rfl ?_
    refine am_Rn.op _ (122, [some (.ref 128), some (.int l1), some (.int l2), some (.int l3), w4], [.int ((100 * ((st_i S 128 4 0).1 128 5)) + ((st_i S 128 4 0).1 128 6))], am_T0 (st_i S 128 4 0)) rfl rfl ?_
    cases h
    exact am_Rn.rt _ rfl rfl
  · refine am_Rn.ifF hc ?_
    refine am_Rn.op _ (124, [some (.ref 128), some (.int l1), some (.int l2), some (.int l3), w4], [.ref 128], am_T0 (st_i S 128 4 0)) rfl rfl ?_
    refine am_Rn.op _ (127, [some (.ref 128), some (.int l1), some (.int l2), some (.int l3), w4], [.ref 133], am_T0 (st_i S 128 4 0)) rfl rfl ?_
    refine am_Rn.op _ (128, [some (.ref 128), some (.int l1), some (.int l2), some (.int l3), w4], [.int l1, .ref 133], am_T0 (st_i S 128 4 0)) rfl rfl ?_
    refine am_Rn.op _ (129, [some (.ref 128), some (.int l1), some (.int l2), some (.int l3), w4], [.int l2, .int l1, .ref 133], am_T0 (st_i S 128 4 0)) rfl rfl ?_
    obtain ⟨hb5, h⟩ := l2_n h
    refine am_Rn.iast (n := 8) rfl rfl hb5 ?_
    show am_Rn _ _ _ _ (130, [some (.ref 128), some (.int l1), some (.int l2), some (.int l3), w4], [], am_T0 (st_i (st_i S 128 4 0) 133 (Int32.toNatClampNeg l1) l2))
    refine am_Rn.op _ (131, [some (.ref 128), some (.int l1), some (.int l2), some (.int l3), w4], [.int 0], am_T0 (st_i (st_i S 128 4 0) 133 (Int32.toNatClampNeg l1) l2)) rfl rfl ?_
    refine am_Rn.op _ (133, [some (.ref 128), some (.int l1), some (.int l2), some (.int l3), some (.int 0)], [], am_T0 (st_i (st_i S 128 4 0) 133 (Int32.toNatClampNeg l1) l2)) rfl rfl ?_
    obtain ⟨y6, hy6, h⟩ := l2_b h
    refine rfX8_text_133 d N _ l1 l2 (0, (st_i (st_i S 128 4 0) 133 (Int32.toNatClampNeg l1) l2)) y6 hy6 ?_ _
    cases h
    exact rfl
def bfX8_text_57 (N : Nat) (l1 : Int32) (l2 : Int32) (x : Int32 × St) : Option ((Int32 × St) ⊕ (Int32 × St)) := (if x.1 = 0 then some (.inr (x.1, x.2)) else (if (x.2.1 128 8) ≤ (x.2.1 128 7) then some (.inr (x.1, x.2)) else (fX8_readsStatement N x.2).bind (fun q7 => some (.inl (q7.1, q7.2)))))
def fX8_text_57 (N : Nat) (l1 : Int32) (l2 : Int32) (x : Int32 × St) : Option (Int32 × St) := whl N (bfX8_text_57 N l1 l2 ) x
set_option maxRecDepth 20000 in
theorem rbfX8_text_57 (d N : Nat) (res : Option Value × am_S) (l1 : Int32) (l2 : Int32) (x : Int32 × St) (z : (Int32 × St) ⊕ (Int32 × St)) (h : bfX8_text_57 N l1 l2 x = some z) (hz : Sum.elim (PfX8_text_57 (d + 5) res l1 l2 ) (QfX8_text_57 (d + 5) res l1 l2 ) z) : PfX8_text_57 (d + 5) res l1 l2 x := by
  unfold bfX8_text_57 at h
  show ∀ (w4 : Option Value), am_Rn (am_C (d + 5)) (am_ct 127) (am_rk 127) res (57, [some (.ref 128), some (.int l1), some (.int l2), some (.int x.1), w4], [], am_T0 x.2)
  intro w4
  refine am_Rn.op _ (58, [some (.ref 128), some (.int l1), some (.int l2), some (.int x.1), w4], [.int x.1], am_T0 x.2) rfl rfl ?_
  refine am_Rn.op _ (if x.1 = 0 then 80 else 61, [some (.ref 128), some (.int l1), some (.int l2), some (.int x.1), w4], [], am_T0 x.2) rfl rfl ?_
  rcases l2_i h with ⟨hc, h⟩ | ⟨hc, h⟩
  · refine am_Rn.ifT hc ?_
    cases h
    exact hz _
  · refine am_Rn.ifF hc ?_
    refine am_Rn.op _ (62, [some (.ref 128), some (.int l1), some (.int l2), some (.int x.1), w4], [.ref 128], am_T0 x.2) rfl rfl ?_
    refine am_Rn.op _ (65, [some (.ref 128), some (.int l1), some (.int l2), some (.int x.1), w4], [.int (x.2.1 128 7)], am_T0 x.2) rfl rfl ?_
    refine am_Rn.op _ (66, [some (.ref 128), some (.int l1), some (.int l2), some (.int x.1), w4], [.ref 128, .int (x.2.1 128 7)], am_T0 x.2) rfl rfl ?_
    refine am_Rn.op _ (69, [some (.ref 128), some (.int l1), some (.int l2), some (.int x.1), w4], [.int (x.2.1 128 8), .int (x.2.1 128 7)], am_T0 x.2) rfl rfl ?_
    refine am_Rn.op _ (if (x.2.1 128 8) ≤ (x.2.1 128 7) then 80 else 72, [some (.ref 128), some (.int l1), some (.int l2), some (.int x.1), w4], [], am_T0 x.2) rfl rfl ?_
    rcases l2_i h with ⟨hc, h⟩ | ⟨hc, h⟩
    · refine am_Rn.ifT hc ?_
      cases h
      exact hz _
    · refine am_Rn.ifF hc ?_
      refine am_Rn.op _ (73, [some (.ref 128), some (.int l1), some (.int l2), some (.int x.1), w4], [.ref 128], am_T0 x.2) rfl rfl ?_
      obtain ⟨q7, hq7, h⟩ := l2_b h
      refine am_Rn.cl _ (some (.int q7.1)) (am_T0 q7.2) rfl rfl (rfX8_readsStatement (d + 0) N x.2 q7 hq7) ?_
      show am_Rn _ _ _ _ (76, [some (.ref 128), some (.int l1), some (.int l2), some (.int x.1), w4], [.int q7.1], am_T0 q7.2)
      refine am_Rn.op _ (77, [some (.ref 128), some (.int l1), some (.int l2), some (.int q7.1), w4], [], am_T0 q7.2) rfl rfl ?_
      refine am_Rn.op _ (57, [some (.ref 128), some (.int l1), some (.int l2), some (.int q7.1), w4], [], am_T0 q7.2) rfl rfl ?_
      cases h
      exact hz _
theorem rfX8_text_57 (d N : Nat) (res : Option Value × am_S) (l1 : Int32) (l2 : Int32) (x : Int32 × St) (y : Int32 × St) (h : fX8_text_57 N l1 l2 x = some y) (hq : QfX8_text_57 (d + 5) res l1 l2 y) : PfX8_text_57 (d + 5) res l1 l2 x := whl_ind _ _ (fun x z => rbfX8_text_57 d N res l1 l2 x z) N x y h hq
def fX8_text (N : Nat) (l1 : Int32) (l2 : Int32) (S : St) : Option (Int32 × St) := (if l1 < 0 then some ((-1), S) else (if 8 ≤ l1 then some ((-1), S) else (if l2 < 0 then some ((-1), S) else (if 60 < l2 then some ((-1), S) else (if l2 ≤ (S.1 128 4) then (fX8_text_57 N l1 l2 (1, (st_i (st_i (st_i (st_i (st_i S 128 5 0) 128 6 (-1)) 128 7 0) 128 8 l2) 128 15 0))).bind (fun y8 => (if y8.1 = 0 then fX8_text_101 N l1 l2 y8.1 y8.2 else (if (y8.2.1 128 15) ≤ 0 then fX8_text_101 N l1 l2 y8.1 y8.2 else (fX8_wrong N 1 (y8.2.1 128 8) y8.2).bind (fun q10 => fX8_text_101 N l1 l2 q10.1 q10.2)))) else some ((-1), S))))))
set_option maxRecDepth 20000 in
theorem rfX8_text (d N : Nat) (l1 : Int32) (l2 : Int32) (S : St) (z : (Int32 × St)) (h : fX8_text N l1 l2 S = some z) : am_C (d + 6) 127 [.ref 128, .int l1, .int l2] (am_T0 S) (some (.int z.1), am_T0 z.2) := by
  unfold fX8_text at h
  show am_Rn (am_C (d + 5)) (am_ct 127) (am_rk 127) (some (.int z.1), am_T0 z.2) (0, [some (.ref 128), some (.int l1), some (.int l2), none, none], [], am_T0 S)
  refine am_Rn.op _ (1, [some (.ref 128), some (.int l1), some (.int l2), none, none], [.int l1], am_T0 S) rfl rfl ?_
  refine am_Rn.op _ (if l1 < 0 then 28 else 4, [some (.ref 128), some (.int l1), some (.int l2), none, none], [], am_T0 S) rfl rfl ?_
  rcases l2_i h with ⟨hc, h⟩ | ⟨hc, h⟩
  · refine am_Rn.ifT hc ?_
    refine am_Rn.op _ (29, [some (.ref 128), some (.int l1), some (.int l2), none, none], [.int (-1)], am_T0 S) rfl rfl ?_
    cases h
    exact am_Rn.rt _ rfl rfl
  · refine am_Rn.ifF hc ?_
    refine am_Rn.op _ (5, [some (.ref 128), some (.int l1), some (.int l2), none, none], [.int l1], am_T0 S) rfl rfl ?_
    refine am_Rn.op _ (7, [some (.ref 128), some (.int l1), some (.int l2), none, none], [.int 8, .int l1], am_T0 S) rfl rfl ?_
    refine am_Rn.op _ (if 8 ≤ l1 then 28 else 10, [some (.ref 128), some (.int l1), some (.int l2), none, none], [], am_T0 S) rfl rfl ?_
    rcases l2_i h with ⟨hc, h⟩ | ⟨hc, h⟩
    · refine am_Rn.ifT hc ?_
      refine am_Rn.op _ (29, [some (.ref 128), some (.int l1), some (.int l2), none, none], [.int (-1)], am_T0 S) rfl rfl ?_
      cases h
      exact am_Rn.rt _ rfl rfl
    · refine am_Rn.ifF hc ?_
      refine am_Rn.op _ (11, [some (.ref 128), some (.int l1), some (.int l2), none, none], [.int l2], am_T0 S) rfl rfl ?_
      refine am_Rn.op _ (if l2 < 0 then 28 else 14, [some (.ref 128), some (.int l1), some (.int l2), none, none], [], am_T0 S) rfl rfl ?_
      rcases l2_i h with ⟨hc, h⟩ | ⟨hc, h⟩
      · refine am_Rn.ifT hc ?_
        refine am_Rn.op _ (29, [some (.ref 128), some (.int l1), some (.int l2), none, none], [.int (-1)], am_T0 S) rfl rfl ?_
        cases h
        exact am_Rn.rt _ rfl rfl
      · refine am_Rn.ifF hc ?_
        refine am_Rn.op _ (15, [some (.ref 128), some (.int l1), some (.int l2), none, none], [.int l2], am_T0 S) rfl rfl ?_
        refine am_Rn.op _ (17, [some (.ref 128), some (.int l1), some (.int l2), none, none], [.int 60, .int l2], am_T0 S) rfl rfl ?_
        refine am_Rn.op _ (if 60 < l2 then 28 else 20, [some (.ref 128), some (.int l1), some (.int l2), none, none], [], am_T0 S) rfl rfl ?_
        rcases l2_i h with ⟨hc, h⟩ | ⟨hc, h⟩
        · refine am_Rn.ifT hc ?_
          refine am_Rn.op _ (29, [some (.ref 128), some (.int l1), some (.int l2), none, none], [.int (-1)], am_T0 S) rfl rfl ?_
          cases h
          exact am_Rn.rt _ rfl rfl
        · refine am_Rn.ifF hc ?_
          refine am_Rn.op _ (21, [some (.ref 128), some (.int l1), some (.int l2), none, none], [.int l2], am_T0 S) rfl rfl ?_
          refine am_Rn.op _ (22, [some (.ref 128), some (.int l1), some (.int l2), none, none], [.ref 128, .int l2], am_T0 S) rfl rfl ?_
          refine am_Rn.op _ (25, [some (.ref 128), some (.int l1), some (.int l2), none, none], [.int (S.1 128 4), .int l2], am_T0 S) rfl rfl ?_
          refine am_Rn.op _ (if l2 ≤ (S.1 128 4) then 30 else 28, [some (.ref 128), some (.int l1), some (.int l2), none, none], [], am_T0 S) rfl rfl ?_
          rcases l2_i h with ⟨hc, h⟩ | ⟨hc, h⟩
          · refine am_Rn.ifT hc ?_
            refine am_Rn.op _ (31, [some (.ref 128), some (.int l1), some (.int l2), none, none], [.ref 128], am_T0 S) rfl rfl ?_
            refine am_Rn.op _ (32, [some (.ref 128), some (.int l1), some (.int l2), none, none], [.int 0, .ref 128], am_T0 S) rfl rfl ?_
            refine am_Rn.op _ (35, [some (.ref 128), some (.int l1), some (.int l2), none, none], [], am_T0 (st_i S 128 5 0)) rfl rfl ?_
            refine am_Rn.op _ (36, [some (.ref 128), some (.int l1), some (.int l2), none, none], [.ref 128], am_T0 (st_i S 128 5 0)) rfl rfl ?_
            refine am_Rn.op _ (37, [some (.ref 128), some (.int l1), some (.int l2), none, none], [.int (-1), .ref 128], am_T0 (st_i S 128 5 0)) rfl rfl ?_
            refine am_Rn.op _ (40, [some (.ref 128), some (.int l1), some (.int l2), none, none], [], am_T0 (st_i (st_i S 128 5 0) 128 6 (-1))) rfl rfl ?_
            refine am_Rn.op _ (41, [some (.ref 128), some (.int l1), some (.int l2), none, none], [.ref 128], am_T0 (st_i (st_i S 128 5 0) 128 6 (-1))) rfl rfl ?_
            refine am_Rn.op _ (42, [some (.ref 128), some (.int l1), some (.int l2), none, none], [.int 0, .ref 128], am_T0 (st_i (st_i S 128 5 0) 128 6 (-1))) rfl rfl ?_
            refine am_Rn.op _ (45, [some (.ref 128), some (.int l1), some (.int l2), none, none], [], am_T0 (st_i (st_i (st_i S 128 5 0) 128 6 (-1)) 128 7 0)) rfl rfl ?_
            refine am_Rn.op _ (46, [some (.ref 128), some (.int l1), some (.int l2), none, none], [.ref 128], am_T0 (st_i (st_i (st_i S 128 5 0) 128 6 (-1)) 128 7 0)) rfl rfl ?_
            refine am_Rn.op _ (47, [some (.ref 128), some (.int l1), some (.int l2), none, none], [.int l2, .ref 128], am_T0 (st_i (st_i (st_i S 128 5 0) 128 6 (-1)) 128 7 0)) rfl rfl ?_
            refine am_Rn.op _ (50, [some (.ref 128), some (.int l1), some (.int l2), none, none], [], am_T0 (st_i (st_i (st_i (st_i S 128 5 0) 128 6 (-1)) 128 7 0) 128 8 l2)) rfl rfl ?_
            refine am_Rn.op _ (51, [some (.ref 128), some (.int l1), some (.int l2), none, none], [.ref 128], am_T0 (st_i (st_i (st_i (st_i S 128 5 0) 128 6 (-1)) 128 7 0) 128 8 l2)) rfl rfl ?_
            refine am_Rn.op _ (52, [some (.ref 128), some (.int l1), some (.int l2), none, none], [.int 0, .ref 128], am_T0 (st_i (st_i (st_i (st_i S 128 5 0) 128 6 (-1)) 128 7 0) 128 8 l2)) rfl rfl ?_
            refine am_Rn.op _ (55, [some (.ref 128), some (.int l1), some (.int l2), none, none], [], am_T0 (st_i (st_i (st_i (st_i (st_i S 128 5 0) 128 6 (-1)) 128 7 0) 128 8 l2) 128 15 0)) rfl rfl ?_
            refine am_Rn.op _ (56, [some (.ref 128), some (.int l1), some (.int l2), none, none], [.int 1], am_T0 (st_i (st_i (st_i (st_i (st_i S 128 5 0) 128 6 (-1)) 128 7 0) 128 8 l2) 128 15 0)) rfl rfl ?_
            refine am_Rn.op _ (57, [some (.ref 128), some (.int l1), some (.int l2), some (.int 1), none], [], am_T0 (st_i (st_i (st_i (st_i (st_i S 128 5 0) 128 6 (-1)) 128 7 0) 128 8 l2) 128 15 0)) rfl rfl ?_
            obtain ⟨y8, hy8, h⟩ := l2_b h
            refine rfX8_text_57 d N _ l1 l2 (1, (st_i (st_i (st_i (st_i (st_i S 128 5 0) 128 6 (-1)) 128 7 0) 128 8 l2) 128 15 0)) y8 hy8 ?_ _
            intro w9
            show am_Rn _ _ _ _ (80, [some (.ref 128), some (.int l1), some (.int l2), some (.int y8.1), w9], [], am_T0 y8.2)
            refine am_Rn.op _ (81, [some (.ref 128), some (.int l1), some (.int l2), some (.int y8.1), w9], [.int y8.1], am_T0 y8.2) rfl rfl ?_
            refine am_Rn.op _ (if y8.1 = 0 then 101 else 84, [some (.ref 128), some (.int l1), some (.int l2), some (.int y8.1), w9], [], am_T0 y8.2) rfl rfl ?_
            rcases l2_i h with ⟨hc, h⟩ | ⟨hc, h⟩
            · refine am_Rn.ifT hc ?_
              exact rfX8_text_101 d N l1 l2 y8.1 y8.2 _ h _
            · refine am_Rn.ifF hc ?_
              refine am_Rn.op _ (85, [some (.ref 128), some (.int l1), some (.int l2), some (.int y8.1), w9], [.ref 128], am_T0 y8.2) rfl rfl ?_
              refine am_Rn.op _ (88, [some (.ref 128), some (.int l1), some (.int l2), some (.int y8.1), w9], [.int (y8.2.1 128 15)], am_T0 y8.2) rfl rfl ?_
              refine am_Rn.op _ (if (y8.2.1 128 15) ≤ 0 then 101 else 91, [some (.ref 128), some (.int l1), some (.int l2), some (.int y8.1), w9], [], am_T0 y8.2) rfl rfl ?_
              rcases l2_i h with ⟨hc, h⟩ | ⟨hc, h⟩
              · refine am_Rn.ifT hc ?_
                exact rfX8_text_101 d N l1 l2 y8.1 y8.2 _ h _
              · refine am_Rn.ifF hc ?_
                refine am_Rn.op _ (92, [some (.ref 128), some (.int l1), some (.int l2), some (.int y8.1), w9], [.ref 128], am_T0 y8.2) rfl rfl ?_
                refine am_Rn.op _ (93, [some (.ref 128), some (.int l1), some (.int l2), some (.int y8.1), w9], [.int 1, .ref 128], am_T0 y8.2) rfl rfl ?_
                refine am_Rn.op _ (94, [some (.ref 128), some (.int l1), some (.int l2), some (.int y8.1), w9], [.ref 128, .int 1, .ref 128], am_T0 y8.2) rfl rfl ?_
                refine am_Rn.op _ (97, [some (.ref 128), some (.int l1), some (.int l2), some (.int y8.1), w9], [.int (y8.2.1 128 8), .int 1, .ref 128], am_T0 y8.2) rfl rfl ?_
                obtain ⟨q10, hq10, h⟩ := l2_b h
                refine am_Rn.cl _ (some (.int q10.1)) (am_T0 q10.2) rfl rfl (rfX8_wrong (d + 4) N 1 (y8.2.1 128 8) y8.2 q10 hq10) ?_
                show am_Rn _ _ _ _ (100, [some (.ref 128), some (.int l1), some (.int l2), some (.int y8.1), w9], [.int q10.1], am_T0 q10.2)
                refine am_Rn.op _ (101, [some (.ref 128), some (.int l1), some (.int l2), some (.int q10.1), w9], [], am_T0 q10.2) rfl rfl ?_
                exact rfX8_text_101 d N l1 l2 q10.1 q10.2 _ h _
          · refine am_Rn.ifF hc ?_
            refine am_Rn.op _ (29, [some (.ref 128), some (.int l1), some (.int l2), none, none], [.int (-1)], am_T0 S) rfl rfl ?_
            cases h
            exact am_Rn.rt _ rfl rfl
-- X8_cell
def fX8_cell (N : Nat) (l0 : Int32) (l1 : Int32) (l2 : Int32) (l3 : Int32) (S : St) : Option (Int32 × St) := some (((((((l0 * 4) + l1) * 8) + l2) * 4) + l3), S)
set_option maxRecDepth 20000 in
theorem rfX8_cell (d N : Nat) (l0 : Int32) (l1 : Int32) (l2 : Int32) (l3 : Int32) (S : St) (z : (Int32 × St)) (h : fX8_cell N l0 l1 l2 l3 S = some z) : am_C (d + 1) 128 [.int l0, .int l1, .int l2, .int l3] (am_T0 S) (some (.int z.1), am_T0 z.2) := by
  unfold fX8_cell at h
  show am_Rn (am_C (d + 0)) (am_ct 128) (am_rk 128) (some (.int z.1), am_T0 z.2) (0, [some (.int l0), some (.int l1), some (.int l2), some (.int l3)], [], am_T0 S)
  refine am_Rn.op _ (1, [some (.int l0), some (.int l1), some (.int l2), some (.int l3)], [.int l0], am_T0 S) rfl rfl ?_
  refine am_Rn.op _ (2, [some (.int l0), some (.int l1), some (.int l2), some (.int l3)], [.int 4, .int l0], am_T0 S) rfl rfl ?_
  refine am_Rn.op _ (3, [some (.int l0), some (.int l1), some (.int l2), some (.int l3)], [.int (l0 * 4)], am_T0 S) rfl rfl ?_
  refine am_Rn.op _ (4, [some (.int l0), some (.int l1), some (.int l2), some (.int l3)], [.int l1, .int (l0 * 4)], am_T0 S) rfl rfl ?_
  refine am_Rn.op _ (5, [some (.int l0), some (.int l1), some (.int l2), some (.int l3)], [.int ((l0 * 4) + l1)], am_T0 S) rfl rfl ?_
  refine am_Rn.op _ (7, [some (.int l0), some (.int l1), some (.int l2), some (.int l3)], [.int 8, .int ((l0 * 4) + l1)], am_T0 S) rfl rfl ?_
  refine am_Rn.op _ (8, [some (.int l0), some (.int l1), some (.int l2), some (.int l3)], [.int (((l0 * 4) + l1) * 8)], am_T0 S) rfl rfl ?_
  refine am_Rn.op _ (9, [some (.int l0), some (.int l1), some (.int l2), some (.int l3)], [.int l2, .int (((l0 * 4) + l1) * 8)], am_T0 S) rfl rfl ?_
  refine am_Rn.op _ (10, [some (.int l0), some (.int l1), some (.int l2), some (.int l3)], [.int ((((l0 * 4) + l1) * 8) + l2)], am_T0 S) rfl rfl ?_
  refine am_Rn.op _ (11, [some (.int l0), some (.int l1), some (.int l2), some (.int l3)], [.int 4, .int ((((l0 * 4) + l1) * 8) + l2)], am_T0 S) rfl rfl ?_
  refine am_Rn.op _ (12, [some (.int l0), some (.int l1), some (.int l2), some (.int l3)], [.int (((((l0 * 4) + l1) * 8) + l2) * 4)], am_T0 S) rfl rfl ?_
  refine am_Rn.op _ (13, [some (.int l0), some (.int l1), some (.int l2), some (.int l3)], [.int l3, .int (((((l0 * 4) + l1) * 8) + l2) * 4)], am_T0 S) rfl rfl ?_
  refine am_Rn.op _ (14, [some (.int l0), some (.int l1), some (.int l2), some (.int l3)], [.int ((((((l0 * 4) + l1) * 8) + l2) * 4) + l3)], am_T0 S) rfl rfl ?_
  cases h
  exact am_Rn.rt _ rfl rfl
-- X8_allOf
def fX8_allOf (N : Nat) (l1 : Int32) (l2 : Int32) (l3 : Int32) (l4 : Int32) (l5 : Int32) (l6 : Int32) (S : St) : Option (Int32 × St) := (fX8_cell N l3 l4 l5 l6 S).bind (fun q1 => (if ((((61 * l1) + l2) * 896) + q1.1) < 0 ∨ 437248 ≤ Int32.toNatClampNeg ((((61 * l1) + l2) * 896) + q1.1) then none else some ((q1.2.1 139 (Int32.toNatClampNeg ((((61 * l1) + l2) * 896) + q1.1))), q1.2)))
set_option maxRecDepth 20000 in
theorem rfX8_allOf (d N : Nat) (l1 : Int32) (l2 : Int32) (l3 : Int32) (l4 : Int32) (l5 : Int32) (l6 : Int32) (S : St) (z : (Int32 × St)) (h : fX8_allOf N l1 l2 l3 l4 l5 l6 S = some z) : am_C (d + 2) 129 [.ref 128, .int l1, .int l2, .int l3, .int l4, .int l5, .int l6] (am_T0 S) (some (.int z.1), am_T0 z.2) := by
  unfold fX8_allOf at h
  show am_Rn (am_C (d + 1)) (am_ct 129) (am_rk 129) (some (.int z.1), am_T0 z.2) (0, [some (.ref 128), some (.int l1), some (.int l2), some (.int l3), some (.int l4), some (.int l5), some (.int l6)], [], am_T0 S)
  refine am_Rn.op _ (1, [some (.ref 128), some (.int l1), some (.int l2), some (.int l3), some (.int l4), some (.int l5), some (.int l6)], [.ref 128], am_T0 S) rfl rfl ?_
  refine am_Rn.op _ (4, [some (.ref 128), some (.int l1), some (.int l2), some (.int l3), some (.int l4), some (.int l5), some (.int l6)], [.ref 139], am_T0 S) rfl rfl ?_
  refine am_Rn.op _ (6, [some (.ref 128), some (.int l1), some (.int l2), some (.int l3), some (.int l4), some (.int l5), some (.int l6)], [.int 61, .ref 139], am_T0 S) rfl rfl ?_
  refine am_Rn.op _ (7, [some (.ref 128), some (.int l1), some (.int l2), some (.int l3), some (.int l4), some (.int l5), some (.int l6)], [.int l1, .int 61, .ref 139], am_T0 S) rfl rfl ?_
  refine am_Rn.op _ (8, [some (.ref 128), some (.int l1), some (.int l2), some (.int l3), some (.int l4), some (.int l5), some (.int l6)], [.int (61 * l1), .ref 139], am_T0 S) rfl rfl ?_
  refine am_Rn.op _ (9, [some (.ref 128), some (.int l1), some (.int l2), some (.int l3), some (.int l4), some (.int l5), some (.int l6)], [.int l2, .int (61 * l1), .ref 139], am_T0 S) rfl rfl ?_
  refine am_Rn.op _ (10, [some (.ref 128), some (.int l1), some (.int l2), some (.int l3), some (.int l4), some (.int l5), some (.int l6)], [.int ((61 * l1) + l2), .ref 139], am_T0 S) rfl rfl ?_
  refine am_Rn.op _ (13, [some (.ref 128), some (.int l1), some (.int l2), some (.int l3), some (.int l4), some (.int l5), some (.int l6)], [.int 896, .int ((61 * l1) + l2), .ref 139], am_T0 S) rfl rfl ?_
  refine am_Rn.op _ (14, [some (.ref 128), some (.int l1), some (.int l2), some (.int l3), some (.int l4), some (.int l5), some (.int l6)], [.int (((61 * l1) + l2) * 896), .ref 139], am_T0 S) rfl rfl ?_
  refine am_Rn.op _ (15, [some (.ref 128), some (.int l1), some (.int l2), some (.int l3), some (.int l4), some (.int l5), some (.int l6)], [.int l3, .int (((61 * l1) + l2) * 896), .ref 139], am_T0 S) rfl rfl ?_
  refine am_Rn.op _ (17, [some (.ref 128), some (.int l1), some (.int l2), some (.int l3), some (.int l4), some (.int l5), some (.int l6)], [.int l4, .int l3, .int (((61 * l1) + l2) * 896), .ref 139], am_T0 S) rfl rfl ?_
  refine am_Rn.op _ (19, [some (.ref 128), some (.int l1), some (.int l2), some (.int l3), some (.int l4), some (.int l5), some (.int l6)], [.int l5, .int l4, .int l3, .int (((61 * l1) + l2) * 896), .ref 139], am_T0 S) rfl rfl ?_
  refine am_Rn.op _ (21, [some (.ref 128), some (.int l1), some (.int l2), some (.int l3), some (.int l4), some (.int l5), some (.int l6)], [.int l6, .int l5, .int l4, .int l3, .int (((61 * l1) + l2) * 896), .ref 139], am_T0 S) rfl rfl ?_
  obtain ⟨q1, hq1, h⟩ := l2_b h
  refine am_Rn.cl _ (some (.int q1.1)) (am_T0 q1.2) rfl rfl (rfX8_cell (d + 0) N l3 l4 l5 l6 S q1 hq1) ?_
  show am_Rn _ _ _ _ (24, [some (.ref 128), some (.int l1), some (.int l2), some (.int l3), some (.int l4), some (.int l5), some (.int l6)], [.int q1.1, .int (((61 * l1) + l2) * 896), .ref 139], am_T0 q1.2)
  refine am_Rn.op _ (25, [some (.ref 128), some (.int l1), some (.int l2), some (.int l3), some (.int l4), some (.int l5), some (.int l6)], [.int ((((61 * l1) + l2) * 896) + q1.1), .ref 139], am_T0 q1.2) rfl rfl ?_
  obtain ⟨hb2, h⟩ := l2_n h
  refine am_Rn.iald (n := 437248) rfl rfl hb2 ?_
  show am_Rn _ _ _ _ (26, [some (.ref 128), some (.int l1), some (.int l2), some (.int l3), some (.int l4), some (.int l5), some (.int l6)], [.int (q1.2.1 139 (Int32.toNatClampNeg ((((61 * l1) + l2) * 896) + q1.1)))], am_T0 q1.2)
  cases h
  exact am_Rn.rt _ rfl rfl
-- X8_metOf
def fX8_metOf (N : Nat) (l1 : Int32) (l2 : Int32) (l3 : Int32) (S : St) : Option (Int32 × St) := (if ((((l1 * 7) + l2) * 4) + l3) < 0 ∨ 1708 ≤ Int32.toNatClampNeg ((((l1 * 7) + l2) * 4) + l3) then none else (if (S.1 140 (Int32.toNatClampNeg ((((l1 * 7) + l2) * 4) + l3))) = 0 ∨ (S.1 140 (Int32.toNatClampNeg ((((l1 * 7) + l2) * 4) + l3))) = 1 then some ((S.1 140 (Int32.toNatClampNeg ((((l1 * 7) + l2) * 4) + l3))), S) else none))
set_option maxRecDepth 20000 in
theorem rfX8_metOf (d N : Nat) (l1 : Int32) (l2 : Int32) (l3 : Int32) (S : St) (z : (Int32 × St)) (h : fX8_metOf N l1 l2 l3 S = some z) : am_C (d + 1) 130 [.ref 128, .int l1, .int l2, .int l3] (am_T0 S) (some (.int z.1), am_T0 z.2) := by
  unfold fX8_metOf at h
  show am_Rn (am_C (d + 0)) (am_ct 130) (am_rk 130) (some (.int z.1), am_T0 z.2) (0, [some (.ref 128), some (.int l1), some (.int l2), some (.int l3)], [], am_T0 S)
  refine am_Rn.op _ (1, [some (.ref 128), some (.int l1), some (.int l2), some (.int l3)], [.ref 128], am_T0 S) rfl rfl ?_
  refine am_Rn.op _ (4, [some (.ref 128), some (.int l1), some (.int l2), some (.int l3)], [.ref 140], am_T0 S) rfl rfl ?_
  refine am_Rn.op _ (5, [some (.ref 128), some (.int l1), some (.int l2), some (.int l3)], [.int l1, .ref 140], am_T0 S) rfl rfl ?_
  refine am_Rn.op _ (7, [some (.ref 128), some (.int l1), some (.int l2), some (.int l3)], [.int 7, .int l1, .ref 140], am_T0 S) rfl rfl ?_
  refine am_Rn.op _ (8, [some (.ref 128), some (.int l1), some (.int l2), some (.int l3)], [.int (l1 * 7), .ref 140], am_T0 S) rfl rfl ?_
  refine am_Rn.op _ (9, [some (.ref 128), some (.int l1), some (.int l2), some (.int l3)], [.int l2, .int (l1 * 7), .ref 140], am_T0 S) rfl rfl ?_
  refine am_Rn.op _ (10, [some (.ref 128), some (.int l1), some (.int l2), some (.int l3)], [.int ((l1 * 7) + l2), .ref 140], am_T0 S) rfl rfl ?_
  refine am_Rn.op _ (11, [some (.ref 128), some (.int l1), some (.int l2), some (.int l3)], [.int 4, .int ((l1 * 7) + l2), .ref 140], am_T0 S) rfl rfl ?_
  refine am_Rn.op _ (12, [some (.ref 128), some (.int l1), some (.int l2), some (.int l3)], [.int (((l1 * 7) + l2) * 4), .ref 140], am_T0 S) rfl rfl ?_
  refine am_Rn.op _ (13, [some (.ref 128), some (.int l1), some (.int l2), some (.int l3)], [.int l3, .int (((l1 * 7) + l2) * 4), .ref 140], am_T0 S) rfl rfl ?_
  refine am_Rn.op _ (14, [some (.ref 128), some (.int l1), some (.int l2), some (.int l3)], [.int ((((l1 * 7) + l2) * 4) + l3), .ref 140], am_T0 S) rfl rfl ?_
  obtain ⟨hb1, h⟩ := l2_n h
  refine am_Rn.bald2 (n := 1708) rfl rfl hb1 ?_
  show am_Rn _ _ _ _ (15, [some (.ref 128), some (.int l1), some (.int l2), some (.int l3)], [.int (S.1 140 (Int32.toNatClampNeg ((((l1 * 7) + l2) * 4) + l3)))], am_T0 S)
  obtain ⟨hb2, h⟩ := l2_y h
  cases h
  exact am_Rn.rt _ rfl (l2_rz hb2)
-- X8_less
def fX8_less_10 (N : Nat) (s0 : Int32) (S : St) : Option (Int32 × St) := some (s0, S)
set_option maxRecDepth 20000 in
theorem rfX8_less_10 (d N : Nat) (s0 : Int32) (S : St) (z : (Int32 × St)) (h : fX8_less_10 N s0 S = some z) (w0 : Option Value) (w1 : Option Value) : am_Rn (am_C (d + 0)) (am_ct 131) (am_rk 131) (some (.int z.1), am_T0 z.2) (10, [w0, w1], [.int s0], am_T0 S) := by
  unfold fX8_less_10 at h
  cases h
  exact am_Rn.rt _ rfl rfl
def fX8_less (N : Nat) (l0 : Int32) (l1 : Int32) (S : St) : Option (Int32 × St) := (if l1 ≤ l0 then fX8_less_10 N l1 S else fX8_less_10 N l0 S)
set_option maxRecDepth 20000 in
theorem rfX8_less (d N : Nat) (l0 : Int32) (l1 : Int32) (S : St) (z : (Int32 × St)) (h : fX8_less N l0 l1 S = some z) : am_C (d + 1) 131 [.int l0, .int l1] (am_T0 S) (some (.int z.1), am_T0 z.2) := by
  unfold fX8_less at h
  show am_Rn (am_C (d + 0)) (am_ct 131) (am_rk 131) (some (.int z.1), am_T0 z.2) (0, [some (.int l0), some (.int l1)], [], am_T0 S)
  refine am_Rn.op _ (1, [some (.int l0), some (.int l1)], [.int l0], am_T0 S) rfl rfl ?_
  refine am_Rn.op _ (2, [some (.int l0), some (.int l1)], [.int l1, .int l0], am_T0 S) rfl rfl ?_
  refine am_Rn.op _ (if l1 ≤ l0 then 9 else 5, [some (.int l0), some (.int l1)], [], am_T0 S) rfl rfl ?_
  rcases l2_i h with ⟨hc, h⟩ | ⟨hc, h⟩
  · refine am_Rn.ifT hc ?_
    refine am_Rn.op _ (10, [some (.int l0), some (.int l1)], [.int l1], am_T0 S) rfl rfl ?_
    exact rfX8_less_10 d N l1 S _ h _ _
  · refine am_Rn.ifF hc ?_
    refine am_Rn.op _ (6, [some (.int l0), some (.int l1)], [.int l0], am_T0 S) rfl rfl ?_
    refine am_Rn.op _ (10, [some (.int l0), some (.int l1)], [.int l0], am_T0 S) rfl rfl ?_
    exact rfX8_less_10 d N l0 S _ h _ _
-- X8_sum
def fX8_sum_26 (N : Nat) (s0 : Int32) (S : St) : Option (Int32 × St) := some (s0, S)
set_option maxRecDepth 20000 in
theorem rfX8_sum_26 (d N : Nat) (s0 : Int32) (S : St) (z : (Int32 × St)) (h : fX8_sum_26 N s0 S = some z) (w0 : Option Value) (w1 : Option Value) : am_Rn (am_C (d + 1)) (am_ct 132) (am_rk 132) (some (.int z.1), am_T0 z.2) (26, [w0, w1], [.int s0], am_T0 S) := by
  unfold fX8_sum_26 at h
  cases h
  exact am_Rn.rt _ rfl rfl
def fX8_sum_12 (N : Nat) (S : St) : Option (Int32 × St) := fX8_sum_26 N 100000 S
set_option maxRecDepth 20000 in
theorem rfX8_sum_12 (d N : Nat) (S : St) (z : (Int32 × St)) (h : fX8_sum_12 N S = some z) (w0 : Option Value) (w1 : Option Value) : am_Rn (am_C (d + 1)) (am_ct 132) (am_rk 132) (some (.int z.1), am_T0 z.2) (12, [w0, w1], [], am_T0 S) := by
  unfold fX8_sum_12 at h
  refine am_Rn.op _ (14, [w0, w1], [.int 100000], am_T0 S) rfl rfl ?_
  refine am_Rn.op _ (26, [w0, w1], [.int 100000], am_T0 S) rfl rfl ?_
  exact rfX8_sum_26 d N 100000 S _ h _ _
def fX8_sum (N : Nat) (l0 : Int32) (l1 : Int32) (S : St) : Option (Int32 × St) := (if 100000 ≤ l0 then fX8_sum_12 N S else (if l1 < 100000 then (fX8_less N (l0 + l1) 999 S).bind (fun q1 => fX8_sum_26 N q1.1 q1.2) else fX8_sum_12 N S))
set_option maxRecDepth 20000 in
theorem rfX8_sum (d N : Nat) (l0 : Int32) (l1 : Int32) (S : St) (z : (Int32 × St)) (h : fX8_sum N l0 l1 S = some z) : am_C (d + 2) 132 [.int l0, .int l1] (am_T0 S) (some (.int z.1), am_T0 z.2) := by
  unfold fX8_sum at h
  show am_Rn (am_C (d + 1)) (am_ct 132) (am_rk 132) (some (.int z.1), am_T0 z.2) (0, [some (.int l0), some (.int l1)], [], am_T0 S)
  refine am_Rn.op _ (1, [some (.int l0), some (.int l1)], [.int l0], am_T0 S) rfl rfl ?_
  refine am_Rn.op _ (3, [some (.int l0), some (.int l1)], [.int 100000, .int l0], am_T0 S) rfl rfl ?_
  refine am_Rn.op _ (if 100000 ≤ l0 then 12 else 6, [some (.int l0), some (.int l1)], [], am_T0 S) rfl rfl ?_
  rcases l2_i h with ⟨hc, h⟩ | ⟨hc, h⟩
  · refine am_Rn.ifT hc ?_
    exact rfX8_sum_12 d N S _ h _ _
  · refine am_Rn.ifF hc ?_
    refine am_Rn.op _ (7, [some (.int l0), some (.int l1)], [.int l1], am_T0 S) rfl rfl ?_
    refine am_Rn.op _ (9, [some (.int l0), some (.int l1)], [.int 100000, .int l1], am_T0 S) rfl rfl ?_
    refine am_Rn.op _ (if l1 < 100000 then 17 else 12, [some (.int l0), some (.int l1)], [], am_T0 S) rfl rfl ?_
    rcases l2_i h with ⟨hc, h⟩ | ⟨hc, h⟩
    · refine am_Rn.ifT hc ?_
      refine am_Rn.op _ (18, [some (.int l0), some (.int l1)], [.int l0], am_T0 S) rfl rfl ?_
      refine am_Rn.op _ (19, [some (.int l0), some (.int l1)], [.int l1, .int l0], am_T0 S) rfl rfl ?_
      refine am_Rn.op _ (20, [some (.int l0), some (.int l1)], [.int (l0 + l1)], am_T0 S) rfl rfl ?_
      refine am_Rn.op _ (23, [some (.int l0), some (.int l1)], [.int 999, .int (l0 + l1)], am_T0 S) rfl rfl ?_
      obtain ⟨q1, hq1, h⟩ := l2_b h
      refine am_Rn.cl _ (some (.int q1.1)) (am_T0 q1.2) rfl rfl (rfX8_less (d + 0) N (l0 + l1) 999 S q1 hq1) ?_
      show am_Rn _ _ _ _ (26, [some (.int l0), some (.int l1)], [.int q1.1], am_T0 q1.2)
      exact rfX8_sum_26 d N q1.1 q1.2 _ h _ _
    · refine am_Rn.ifF hc ?_
      exact rfX8_sum_12 d N S _ h _ _
-- X8_clears
def PfX8_clears_2 (d : Nat) (res : Option Value × am_S) (a0 : Nat) (x : Int32 × St) : Prop := am_Rn (am_C d) (am_ct 133) (am_rk 133) res (2, [some (.ref a0), some (.int x.1)], [], am_T0 x.2)
def QfX8_clears_2 (d : Nat) (res : Option Value × am_S) (a0 : Nat) (y : St) : Prop := res = (none, am_T0 y)
def bfX8_clears_2 (N : Nat) (a0 : Nat) (x : Int32 × St) : Option ((Int32 × St) ⊕ (St)) := (if 32 ≤ x.1 then some (.inr x.2) else (if x.1 < 0 ∨ (alen a0) ≤ Int32.toNatClampNeg x.1 then none else some (.inl ((x.1 + 1), (st_i x.2 a0 (Int32.toNatClampNeg x.1) 100000)))))
def fX8_clears_2 (N : Nat) (a0 : Nat) (x : Int32 × St) : Option (St) := whl N (bfX8_clears_2 N a0 ) x
set_option maxRecDepth 20000 in
theorem rbfX8_clears_2 (d N : Nat) (res : Option Value × am_S) (a0 : Nat) (ha0 : isIA a0 = true) (x : Int32 × St) (z : (Int32 × St) ⊕ (St)) (h : bfX8_clears_2 N a0 x = some z) (hz : Sum.elim (PfX8_clears_2 (d + 0) res a0 ) (QfX8_clears_2 (d + 0) res a0 ) z) : PfX8_clears_2 (d + 0) res a0 x := by
  unfold bfX8_clears_2 at h
  show am_Rn (am_C (d + 0)) (am_ct 133) (am_rk 133) res (2, [some (.ref a0), some (.int x.1)], [], am_T0 x.2)
  refine am_Rn.op _ (3, [some (.ref a0), some (.int x.1)], [.int x.1], am_T0 x.2) rfl rfl ?_
  refine am_Rn.op _ (5, [some (.ref a0), some (.int x.1)], [.int 32, .int x.1], am_T0 x.2) rfl rfl ?_
  refine am_Rn.op _ (if 32 ≤ x.1 then 19 else 8, [some (.ref a0), some (.int x.1)], [], am_T0 x.2) rfl rfl ?_
  rcases l2_i h with ⟨hc, h⟩ | ⟨hc, h⟩
  · refine am_Rn.ifT hc ?_
    cases h
    exact am_Rn.rt2 _ rfl rfl hz
  · refine am_Rn.ifF hc ?_
    refine am_Rn.op _ (9, [some (.ref a0), some (.int x.1)], [.ref a0], am_T0 x.2) rfl rfl ?_
    refine am_Rn.op _ (10, [some (.ref a0), some (.int x.1)], [.int x.1, .ref a0], am_T0 x.2) rfl rfl ?_
    refine am_Rn.op _ (12, [some (.ref a0), some (.int x.1)], [.int 100000, .int x.1, .ref a0], am_T0 x.2) rfl rfl ?_
    obtain ⟨hb1, h⟩ := l2_n h
    refine am_Rn.iast (n := (alen a0)) rfl (l2_ia ha0 x.2) hb1 ?_
    show am_Rn _ _ _ _ (13, [some (.ref a0), some (.int x.1)], [], am_T0 (st_i x.2 a0 (Int32.toNatClampNeg x.1) 100000))
    refine am_Rn.op _ (16, [some (.ref a0), some (.int (x.1 + 1))], [], am_T0 (st_i x.2 a0 (Int32.toNatClampNeg x.1) 100000)) rfl rfl ?_
    refine am_Rn.op _ (2, [some (.ref a0), some (.int (x.1 + 1))], [], am_T0 (st_i x.2 a0 (Int32.toNatClampNeg x.1) 100000)) rfl rfl ?_
    cases h
    exact hz 
theorem rfX8_clears_2 (d N : Nat) (res : Option Value × am_S) (a0 : Nat) (ha0 : isIA a0 = true) (x : Int32 × St) (y : St) (h : fX8_clears_2 N a0 x = some y) (hq : QfX8_clears_2 (d + 0) res a0 y) : PfX8_clears_2 (d + 0) res a0 x := whl_ind _ _ (fun x z => rbfX8_clears_2 d N res a0 ha0 x z) N x y h hq
def fX8_clears (N : Nat) (a0 : Nat) (S : St) : Option St := (fX8_clears_2 N a0 (0, S)).bind (fun y2 => some y2)
set_option maxRecDepth 20000 in
theorem rfX8_clears (d N : Nat) (a0 : Nat) (ha0 : isIA a0 = true) (S : St) (z : St) (h : fX8_clears N a0 S = some z) : am_C (d + 1) 133 [.ref a0] (am_T0 S) (none, am_T0 z) := by
  unfold fX8_clears at h
  show am_Rn (am_C (d + 0)) (am_ct 133) (am_rk 133) (none, am_T0 z) (0, [some (.ref a0), none], [], am_T0 S)
  refine am_Rn.op _ (1, [some (.ref a0), none], [.int 0], am_T0 S) rfl rfl ?_
  refine am_Rn.op _ (2, [some (.ref a0), some (.int 0)], [], am_T0 S) rfl rfl ?_
  obtain ⟨y2, hy2, h⟩ := l2_b h
  refine rfX8_clears_2 d N _ a0 ha0 (0, S) y2 hy2 ?_ 
  cases h
  exact rfl
-- X8_puts
def fX8_puts (N : Nat) (l1 : Int32) (l2 : Int32) (l3 : Int32) (S : St) : Option St := (if ((l1 * 4) + l2) < 0 ∨ 32 ≤ Int32.toNatClampNeg ((l1 * 4) + l2) then none else (fX8_less N (S.1 142 (Int32.toNatClampNeg ((l1 * 4) + l2))) l3 S).bind (fun q2 => (if ((l1 * 4) + l2) < 0 ∨ 32 ≤ Int32.toNatClampNeg ((l1 * 4) + l2) then none else some (st_i q2.2 142 (Int32.toNatClampNeg ((l1 * 4) + l2)) q2.1))))
set_option maxRecDepth 20000 in
theorem rfX8_puts (d N : Nat) (l1 : Int32) (l2 : Int32) (l3 : Int32) (S : St) (z : St) (h : fX8_puts N l1 l2 l3 S = some z) : am_C (d + 2) 134 [.ref 128, .int l1, .int l2, .int l3] (am_T0 S) (none, am_T0 z) := by
  unfold fX8_puts at h
  show am_Rn (am_C (d + 1)) (am_ct 134) (am_rk 134) (none, am_T0 z) (0, [some (.ref 128), some (.int l1), some (.int l2), some (.int l3)], [], am_T0 S)
  refine am_Rn.op _ (1, [some (.ref 128), some (.int l1), some (.int l2), some (.int l3)], [.ref 128], am_T0 S) rfl rfl ?_
  refine am_Rn.op _ (4, [some (.ref 128), some (.int l1), some (.int l2), some (.int l3)], [.ref 142], am_T0 S) rfl rfl ?_
  refine am_Rn.op _ (5, [some (.ref 128), some (.int l1), some (.int l2), some (.int l3)], [.int l1, .ref 142], am_T0 S) rfl rfl ?_
  refine am_Rn.op _ (6, [some (.ref 128), some (.int l1), some (.int l2), some (.int l3)], [.int 4, .int l1, .ref 142], am_T0 S) rfl rfl ?_
  refine am_Rn.op _ (7, [some (.ref 128), some (.int l1), some (.int l2), some (.int l3)], [.int (l1 * 4), .ref 142], am_T0 S) rfl rfl ?_
  refine am_Rn.op _ (8, [some (.ref 128), some (.int l1), some (.int l2), some (.int l3)], [.int l2, .int (l1 * 4), .ref 142], am_T0 S) rfl rfl ?_
  refine am_Rn.op _ (9, [some (.ref 128), some (.int l1), some (.int l2), some (.int l3)], [.int ((l1 * 4) + l2), .ref 142], am_T0 S) rfl rfl ?_
  refine am_Rn.op _ (10, [some (.ref 128), some (.int l1), some (.int l2), some (.int l3)], [.ref 128, .int ((l1 * 4) + l2), .ref 142], am_T0 S) rfl rfl ?_
  refine am_Rn.op _ (13, [some (.ref 128), some (.int l1), some (.int l2), some (.int l3)], [.ref 142, .int ((l1 * 4) + l2), .ref 142], am_T0 S) rfl rfl ?_
  refine am_Rn.op _ (14, [some (.ref 128), some (.int l1), some (.int l2), some (.int l3)], [.int l1, .ref 142, .int ((l1 * 4) + l2), .ref 142], am_T0 S) rfl rfl ?_
  refine am_Rn.op _ (15, [some (.ref 128), some (.int l1), some (.int l2), some (.int l3)], [.int 4, .int l1, .ref 142, .int ((l1 * 4) + l2), .ref 142], am_T0 S) rfl rfl ?_
  refine am_Rn.op _ (16, [some (.ref 128), some (.int l1), some (.int l2), some (.int l3)], [.int (l1 * 4), .ref 142, .int ((l1 * 4) + l2), .ref 142], am_T0 S) rfl rfl ?_
  refine am_Rn.op _ (17, [some (.ref 128), some (.int l1), some (.int l2), some (.int l3)], [.int l2, .int (l1 * 4), .ref 142, .int ((l1 * 4) + l2), .ref 142], am_T0 S) rfl rfl ?_
  refine am_Rn.op _ (18, [some (.ref 128), some (.int l1), some (.int l2), some (.int l3)], [.int ((l1 * 4) + l2), .ref 142, .int ((l1 * 4) + l2), .ref 142], am_T0 S) rfl rfl ?_
  obtain ⟨hb1, h⟩ := l2_n h
  refine am_Rn.iald (n := 32) rfl rfl hb1 ?_
  show am_Rn _ _ _ _ (19, [some (.ref 128), some (.int l1), some (.int l2), some (.int l3)], [.int (S.1 142 (Int32.toNatClampNeg ((l1 * 4) + l2))), .int ((l1 * 4) + l2), .ref 142], am_T0 S)
  refine am_Rn.op _ (20, [some (.ref 128), some (.int l1), some (.int l2), some (.int l3)], [.int l3, .int (S.1 142 (Int32.toNatClampNeg ((l1 * 4) + l2))), .int ((l1 * 4) + l2), .ref 142], am_T0 S) rfl rfl ?_
  obtain ⟨q2, hq2, h⟩ := l2_b h
  refine am_Rn.cl _ (some (.int q2.1)) (am_T0 q2.2) rfl rfl (rfX8_less (d + 0) N (S.1 142 (Int32.toNatClampNeg ((l1 * 4) + l2))) l3 S q2 hq2) ?_
  show am_Rn _ _ _ _ (23, [some (.ref 128), some (.int l1), some (.int l2), some (.int l3)], [.int q2.1, .int ((l1 * 4) + l2), .ref 142], am_T0 q2.2)
  obtain ⟨hb3, h⟩ := l2_n h
  refine am_Rn.iast (n := 32) rfl rfl hb3 ?_
  show am_Rn _ _ _ _ (24, [some (.ref 128), some (.int l1), some (.int l2), some (.int l3)], [], am_T0 (st_i q2.2 142 (Int32.toNatClampNeg ((l1 * 4) + l2)) q2.1))
  cases h
  exact am_Rn.rt _ rfl rfl
-- X8_putsMid
def fX8_putsMid (N : Nat) (l1 : Int32) (l2 : Int32) (l3 : Int32) (S : St) : Option St := (if ((l1 * 4) + l2) < 0 ∨ 32 ≤ Int32.toNatClampNeg ((l1 * 4) + l2) then none else (fX8_less N (S.1 143 (Int32.toNatClampNeg ((l1 * 4) + l2))) l3 S).bind (fun q2 => (if ((l1 * 4) + l2) < 0 ∨ 32 ≤ Int32.toNatClampNeg ((l1 * 4) + l2) then none else some (st_i q2.2 143 (Int32.toNatClampNeg ((l1 * 4) + l2)) q2.1))))
set_option maxRecDepth 20000 in
theorem rfX8_putsMid (d N : Nat) (l1 : Int32) (l2 : Int32) (l3 : Int32) (S : St) (z : St) (h : fX8_putsMid N l1 l2 l3 S = some z) : am_C (d + 2) 135 [.ref 128, .int l1, .int l2, .int l3] (am_T0 S) (none, am_T0 z) := by
  unfold fX8_putsMid at h
  show am_Rn (am_C (d + 1)) (am_ct 135) (am_rk 135) (none, am_T0 z) (0, [some (.ref 128), some (.int l1), some (.int l2), some (.int l3)], [], am_T0 S)
  refine am_Rn.op _ (1, [some (.ref 128), some (.int l1), some (.int l2), some (.int l3)], [.ref 128], am_T0 S) rfl rfl ?_
  refine am_Rn.op _ (4, [some (.ref 128), some (.int l1), some (.int l2), some (.int l3)], [.ref 143], am_T0 S) rfl rfl ?_
  refine am_Rn.op _ (5, [some (.ref 128), some (.int l1), some (.int l2), some (.int l3)], [.int l1, .ref 143], am_T0 S) rfl rfl ?_
  refine am_Rn.op _ (6, [some (.ref 128), some (.int l1), some (.int l2), some (.int l3)], [.int 4, .int l1, .ref 143], am_T0 S) rfl rfl ?_
  refine am_Rn.op _ (7, [some (.ref 128), some (.int l1), some (.int l2), some (.int l3)], [.int (l1 * 4), .ref 143], am_T0 S) rfl rfl ?_
  refine am_Rn.op _ (8, [some (.ref 128), some (.int l1), some (.int l2), some (.int l3)], [.int l2, .int (l1 * 4), .ref 143], am_T0 S) rfl rfl ?_
  refine am_Rn.op _ (9, [some (.ref 128), some (.int l1), some (.int l2), some (.int l3)], [.int ((l1 * 4) + l2), .ref 143], am_T0 S) rfl rfl ?_
  refine am_Rn.op _ (10, [some (.ref 128), some (.int l1), some (.int l2), some (.int l3)], [.ref 128, .int ((l1 * 4) + l2), .ref 143], am_T0 S) rfl rfl ?_
  refine am_Rn.op _ (13, [some (.ref 128), some (.int l1), some (.int l2), some (.int l3)], [.ref 143, .int ((l1 * 4) + l2), .ref 143], am_T0 S) rfl rfl ?_
  refine am_Rn.op _ (14, [some (.ref 128), some (.int l1), some (.int l2), some (.int l3)], [.int l1, .ref 143, .int ((l1 * 4) + l2), .ref 143], am_T0 S) rfl rfl ?_
  refine am_Rn.op _ (15, [some (.ref 128), some (.int l1), some (.int l2), some (.int l3)], [.int 4, .int l1, .ref 143, .int ((l1 * 4) + l2), .ref 143], am_T0 S) rfl rfl ?_
  refine am_Rn.op _ (16, [some (.ref 128), some (.int l1), some (.int l2), some (.int l3)], [.int (l1 * 4), .ref 143, .int ((l1 * 4) + l2), .ref 143], am_T0 S) rfl rfl ?_
  refine am_Rn.op _ (17, [some (.ref 128), some (.int l1), some (.int l2), some (.int l3)], [.int l2, .int (l1 * 4), .ref 143, .int ((l1 * 4) + l2), .ref 143], am_T0 S) rfl rfl ?_
  refine am_Rn.op _ (18, [some (.ref 128), some (.int l1), some (.int l2), some (.int l3)], [.int ((l1 * 4) + l2), .ref 143, .int ((l1 * 4) + l2), .ref 143], am_T0 S) rfl rfl ?_
  obtain ⟨hb1, h⟩ := l2_n h
  refine am_Rn.iald (n := 32) rfl rfl hb1 ?_
  show am_Rn _ _ _ _ (19, [some (.ref 128), some (.int l1), some (.int l2), some (.int l3)], [.int (S.1 143 (Int32.toNatClampNeg ((l1 * 4) + l2))), .int ((l1 * 4) + l2), .ref 143], am_T0 S)
  refine am_Rn.op _ (20, [some (.ref 128), some (.int l1), some (.int l2), some (.int l3)], [.int l3, .int (S.1 143 (Int32.toNatClampNeg ((l1 * 4) + l2))), .int ((l1 * 4) + l2), .ref 143], am_T0 S) rfl rfl ?_
  obtain ⟨q2, hq2, h⟩ := l2_b h
  refine am_Rn.cl _ (some (.int q2.1)) (am_T0 q2.2) rfl rfl (rfX8_less (d + 0) N (S.1 143 (Int32.toNatClampNeg ((l1 * 4) + l2))) l3 S q2 hq2) ?_
  show am_Rn _ _ _ _ (23, [some (.ref 128), some (.int l1), some (.int l2), some (.int l3)], [.int q2.1, .int ((l1 * 4) + l2), .ref 143], am_T0 q2.2)
  obtain ⟨hb3, h⟩ := l2_n h
  refine am_Rn.iast (n := 32) rfl rfl hb3 ?_
  show am_Rn _ _ _ _ (24, [some (.ref 128), some (.int l1), some (.int l2), some (.int l3)], [], am_T0 (st_i q2.2 143 (Int32.toNatClampNeg ((l1 * 4) + l2)) q2.1))
  cases h
  exact am_Rn.rt _ rfl rfl
