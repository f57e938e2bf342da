-- X6_traceBlock
def PfX6_traceBlock_27 (d : Nat) (res : Option Value × am_S) (l2 : Int32) (l4 : Int32) (x : Int32 × Int32 × St) : Prop := ∀ (w1 w6 : Option Value), am_Rn (am_C d) (am_ct 78) (am_rk 78) res (27, [some (.ref 36), w1, some (.int l2), some (.int x.1), some (.int l4), some (.int x.2.1), w6], [], am_T0 x.2.2)
def QfX6_traceBlock_27 (d : Nat) (res : Option Value × am_S) (l2 : Int32) (l4 : Int32) (y : St) : Prop := res = (none, am_T0 y)
def fX6_traceBlock_213 (N : Nat) (l2 : Int32) (l3 : Int32) (l4 : Int32) (l5 : Int32) (S : St) : Option ((Int32 × Int32 × St) ⊕ (St)) := some (.inl (l3, (l5 + 1), S))
set_option maxRecDepth 20000 in
theorem rfX6_traceBlock_213 (d N : Nat) (res : Option Value × am_S) (l2 : Int32) (l3 : Int32) (l4 : Int32) (l5 : Int32) (S : St) (z : (Int32 × Int32 × St) ⊕ (St)) (h : fX6_traceBlock_213 N l2 l3 l4 l5 S = some z) (hz : Sum.elim (PfX6_traceBlock_27 (d + 4) res l2 l4 ) (QfX6_traceBlock_27 (d + 4) res l2 l4 ) z) (w1 : Option Value) (w6 : Option Value) : am_Rn (am_C (d + 4)) (am_ct 78) (am_rk 78) res (213, [some (.ref 36), w1, some (.int l2), some (.int l3), some (.int l4), some (.int l5), w6], [], am_T0 S) := by
  unfold fX6_traceBlock_213 at h
  refine am_Rn.op _ (216, [some (.ref 36), w1, some (.int l2), some (.int l3), some (.int l4), some (.int (l5 + 1)), w6], [], am_T0 S) rfl rfl ?_
  refine am_Rn.op _ (27, [some (.ref 36), w1, some (.int l2), some (.int l3), some (.int l4), some (.int (l5 + 1)), w6], [], am_T0 S) rfl rfl ?_
  cases h
  exact hz _ _
def bfX6_traceBlock_27 (N : Nat) (l2 : Int32) (l4 : Int32) (x : Int32 × Int32 × St) : Option ((Int32 × Int32 × St) ⊕ (St)) := (if 60 ≤ x.2.1 then some (.inr x.2.2) else (if l4 ≤ x.1 then some (.inr x.2.2) else (if (x.2.2.1 36 5) = 0 then some (.inr x.2.2) else (fX5_at N (x.2.2.2 11) x.1 x.2.2).bind (fun q1 => (if q1.1 = 42 then (fX5_blockAt N (q1.2.2 11) (x.1 + 1) q1.2).bind (fun q2 => (fX6_reach N q2.1 l2 q2.2).bind (fun q3 => (fX5_closeOf N (q3.2 11) q2.1 q3).bind (fun q4 => fX6_traceBlock_213 N l2 (q4.1 + 1) l4 x.2.1 q4.2))) else (if q1.1 = 43 then fX6_traceBlock_213 N l2 (x.1 + 2) l4 x.2.1 q1.2 else (if q1.1 = 45 then fX6_traceBlock_213 N l2 (x.1 + 2) l4 x.2.1 q1.2 else (if q1.1 = 63 then (fX6_traceChoice N (x.1 + 1) l2 q1.2).bind (fun q5 => fX6_traceBlock_213 N l2 q5.1 l4 x.2.1 q5.2) else (if q1.1 = 64 then (fX5_at N (q1.2.2 11) (x.1 + 1) q1.2).bind (fun q6 => (fX0_canLeave N (q6.1 - 97) 0 0 q6.2).bind (fun q7 => (if q7.1 = 0 ∨ q7.1 = 1 then fX6_traceBlock_213 N l2 (x.1 + 2) l4 x.2.1 (st_i q7.2 36 5 q7.1) else none))) else (if q1.1 = 84 then (fX6_traceTaking N (x.1 + 1) l2 q1.2).bind (fun q9 => fX6_traceBlock_213 N l2 q9.1 l4 x.2.1 q9.2) else fX6_traceBlock_213 N l2 x.1 l4 x.2.1 (st_i q1.2 36 5 0)))))))))))
def fX6_traceBlock_27 (N : Nat) (l2 : Int32) (l4 : Int32) (x : Int32 × Int32 × St) : Option (St) := whl N (bfX6_traceBlock_27 N l2 l4 ) x
set_option maxRecDepth 20000 in
theorem rbfX6_traceBlock_27 (d N : Nat) (res : Option Value × am_S) (l2 : Int32) (l4 : Int32) (x : Int32 × Int32 × St) (z : (Int32 × Int32 × St) ⊕ (St)) (h : bfX6_traceBlock_27 N l2 l4 x = some z) (hz : Sum.elim (PfX6_traceBlock_27 (d + 4) res l2 l4 ) (QfX6_traceBlock_27 (d + 4) res l2 l4 ) z) : PfX6_traceBlock_27 (d + 4) res l2 l4 x := by
  unfold bfX6_traceBlock_27 at h
  show ∀ (w1 w6 : Option Value), am_Rn (am_C (d + 4)) (am_ct 78) (am_rk 78) res (27, [some (.ref 36), w1, some (.int l2), some (.int x.1), some (.int l4), some (.int x.2.1), w6], [], am_T0 x.2.2)
  intro w1 w6
  refine am_Rn.op _ (29, [some (.ref 36), w1, some (.int l2), some (.int x.1), some (.int l4), some (.int x.2.1), w6], [.int x.2.1], am_T0 x.2.2) rfl rfl ?_
  refine am_Rn.op _ (31, [some (.ref 36), w1, some (.int l2), some (.int x.1), some (.int l4), some (.int x.2.1), w6], [.int 60, .int x.2.1], am_T0 x.2.2) rfl rfl ?_
  refine am_Rn.op _ (if 60 ≤ x.2.1 then 219 else 34, [some (.ref 36), w1, some (.int l2), some (.int x.1), some (.int l4), some (.int x.2.1), w6], [], am_T0 x.2.2) rfl rfl ?_
  rcases l2_i h with ⟨hc, h⟩ | ⟨hc, h⟩
  · refine am_Rn.ifT hc ?_
    cases h
    exact am_Rn.rt2 _ rfl rfl hz
  · refine am_Rn.ifF hc ?_
    refine am_Rn.op _ (35, [some (.ref 36), w1, some (.int l2), some (.int x.1), some (.int l4), some (.int x.2.1), w6], [.int x.1], am_T0 x.2.2) rfl rfl ?_
    refine am_Rn.op _ (37, [some (.ref 36), w1, some (.int l2), some (.int x.1), some (.int l4), some (.int x.2.1), w6], [.int l4, .int x.1], am_T0 x.2.2) rfl rfl ?_
    refine am_Rn.op _ (if l4 ≤ x.1 then 219 else 40, [some (.ref 36), w1, some (.int l2), some (.int x.1), some (.int l4), some (.int x.2.1), w6], [], am_T0 x.2.2) rfl rfl ?_
    rcases l2_i h with ⟨hc, h⟩ | ⟨hc, h⟩
    · refine am_Rn.ifT hc ?_
      cases h
      exact am_Rn.rt2 _ rfl rfl hz
    · refine am_Rn.ifF hc ?_
      refine am_Rn.op _ (41, [some (.ref 36), w1, some (.int l2), some (.int x.1), some (.int l4), some (.int x.2.1), w6], [.ref 36], am_T0 x.2.2) rfl rfl ?_
      refine am_Rn.op _ (44, [some (.ref 36), w1, some (.int l2), some (.int x.1), some (.int l4), some (.int x.2.1), w6], [.int (x.2.2.1 36 5)], am_T0 x.2.2) rfl rfl ?_
      refine am_Rn.op _ (if (x.2.2.1 36 5) = 0 then 219 else 47, [some (.ref 36), w1, some (.int l2), some (.int x.1), some (.int l4), some (.int x.2.1), w6], [], am_T0 x.2.2) rfl rfl ?_
      rcases l2_i h with ⟨hc, h⟩ | ⟨hc, h⟩
      · refine am_Rn.ifT hc ?_
        cases h
        exact am_Rn.rt2 _ rfl rfl hz
      · refine am_Rn.ifF hc ?_
        refine am_Rn.op _ (48, [some (.ref 36), w1, some (.int l2), some (.int x.1), some (.int l4), some (.int x.2.1), w6], [.ref 36], am_T0 x.2.2) rfl rfl ?_
        refine am_Rn.op _ (51, [some (.ref 36), w1, some (.int l2), some (.int x.1), some (.int l4), some (.int x.2.1), w6], [.ref (TA (x.2.2.2 11))], am_T0 x.2.2) rfl rfl ?_
        refine am_Rn.op _ (52, [some (.ref 36), w1, some (.int l2), some (.int x.1), some (.int l4), some (.int x.2.1), w6], [.int x.1, .ref (TA (x.2.2.2 11))], am_T0 x.2.2) rfl rfl ?_
        obtain ⟨q1, hq1, h⟩ := l2_b h
        refine am_Rn.cl _ (some (.int q1.1)) (am_T0 q1.2) rfl (o_clv rfl rfl rfl (l2_isO (x.2.2.2 11) x.2.2)) (rfX5_at (d + 3) N (x.2.2.2 11) x.1 x.2.2 q1 hq1) ?_
        show am_Rn _ _ _ _ (55, [some (.ref 36), w1, some (.int l2), some (.int x.1), some (.int l4), some (.int x.2.1), w6], [.int q1.1], am_T0 q1.2)
        refine am_Rn.op _ ((if q1.1 = 42 then 162 else (if q1.1 = 43 then 112 else (if q1.1 = 45 then 112 else (if q1.1 = 63 then 150 else (if q1.1 = 64 then 118 else (if q1.1 = 84 then 196 else 208)))))), [some (.ref 36), w1, some (.int l2), some (.int x.1), some (.int l4), some (.int x.2.1), w6], [], am_T0 q1.2) rfl rfl ?_
        rcases l2_i h with ⟨hc, h⟩ | ⟨hc, h⟩
        · refine am_Rn.ifT hc ?_
          refine am_Rn.op _ (163, [some (.ref 36), w1, some (.int l2), some (.int x.1), some (.int l4), some (.int x.2.1), w6], [.ref 36], am_T0 q1.2) rfl rfl ?_
          refine am_Rn.op _ (166, [some (.ref 36), w1, some (.int l2), some (.int x.1), some (.int l4), some (.int x.2.1), w6], [.ref (TA (q1.2.2 11))], am_T0 q1.2) rfl rfl ?_
          refine am_Rn.op _ (167, [some (.ref 36), w1, some (.int l2), some (.int x.1), some (.int l4), some (.int x.2.1), w6], [.int x.1, .ref (TA (q1.2.2 11))], am_T0 q1.2) rfl rfl ?_
          refine am_Rn.op _ (168, [some (.ref 36), w1, some (.int l2), some (.int x.1), some (.int l4), some (.int x.2.1), w6], [.int 1, .int x.1, .ref (TA (q1.2.2 11))], am_T0 q1.2) rfl rfl ?_
          refine am_Rn.op _ (169, [some (.ref 36), w1, some (.int l2), some (.int x.1), some (.int l4), some (.int x.2.1), w6], [.int (x.1 + 1), .ref (TA (q1.2.2 11))], am_T0 q1.2) rfl rfl ?_
          obtain ⟨q2, hq2, h⟩ := l2_b h
          refine am_Rn.cl _ (some (.int q2.1)) (am_T0 q2.2) rfl (o_clv rfl rfl rfl (l2_isO (q1.2.2 11) q1.2)) (rfX5_blockAt (d + 2) N (q1.2.2 11) (x.1 + 1) q1.2 q2 hq2) ?_
          show am_Rn _ _ _ _ (172, [some (.ref 36), w1, some (.int l2), some (.int x.1), some (.int l4), some (.int x.2.1), w6], [.int q2.1], am_T0 q2.2)
          refine am_Rn.op _ (174, [some (.ref 36), w1, some (.int l2), some (.int x.1), some (.int l4), some (.int x.2.1), some (.int q2.1)], [], am_T0 q2.2) rfl rfl ?_
          refine am_Rn.op _ (175, [some (.ref 36), w1, some (.int l2), some (.int x.1), some (.int l4), some (.int x.2.1), some (.int q2.1)], [.ref 36], am_T0 q2.2) rfl rfl ?_
          refine am_Rn.op _ (177, [some (.ref 36), w1, some (.int l2), some (.int x.1), some (.int l4), some (.int x.2.1), some (.int q2.1)], [.int q2.1, .ref 36], am_T0 q2.2) rfl rfl ?_
          refine am_Rn.op _ (178, [some (.ref 36), w1, some (.int l2), some (.int x.1), some (.int l4), some (.int x.2.1), some (.int q2.1)], [.int l2, .int q2.1, .ref 36], am_T0 q2.2) rfl rfl ?_
          obtain ⟨q3, hq3, h⟩ := l2_b h
          refine am_Rn.cl _ none (am_T0 q3) rfl rfl (rfX6_reach (d + 2) N q2.1 l2 q2.2 q3 hq3) ?_
          show am_Rn _ _ _ _ (181, [some (.ref 36), w1, some (.int l2), some (.int x.1), some (.int l4), some (.int x.2.1), some (.int q2.1)], [], am_T0 q3)
          refine am_Rn.op _ (182, [some (.ref 36), w1, some (.int l2), some (.int x.1), some (.int l4), some (.int x.2.1), some (.int q2.1)], [.ref 36], am_T0 q3) rfl rfl ?_
          refine am_Rn.op _ (185, [some (.ref 36), w1, some (.int l2), some (.int x.1), some (.int l4), some (.int x.2.1), some (.int q2.1)], [.ref (TA (q3.2 11))], am_T0 q3) rfl rfl ?_
          refine am_Rn.op _ (187, [some (.ref 36), w1, some (.int l2), some (.int x.1), some (.int l4), some (.int x.2.1), some (.int q2.1)], [.int q2.1, .ref (TA (q3.2 11))], am_T0 q3) rfl rfl ?_
          obtain ⟨q4, hq4, h⟩ := l2_b h
          refine am_Rn.cl _ (some (.int q4.1)) (am_T0 q4.2) rfl (o_clv rfl rfl rfl (l2_isO (q3.2 11) q3)) (rfX5_closeOf (d + 2) N (q3.2 11) q2.1 q3 q4 hq4) ?_
          show am_Rn _ _ _ _ (190, [some (.ref 36), w1, some (.int l2), some (.int x.1), some (.int l4), some (.int x.2.1), some (.int q2.1)], [.int q4.1], am_T0 q4.2)
          refine am_Rn.op _ (191, [some (.ref 36), w1, some (.int l2), some (.int x.1), some (.int l4), some (.int x.2.1), some (.int q2.1)], [.int 1, .int q4.1], am_T0 q4.2) rfl rfl ?_
          refine am_Rn.op _ (192, [some (.ref 36), w1, some (.int l2), some (.int x.1), some (.int l4), some (.int x.2.1), some (.int q2.1)], [.int (q4.1 + 1)], am_T0 q4.2) rfl rfl ?_
          refine am_Rn.op _ (193, [some (.ref 36), w1, some (.int l2), some (.int (q4.1 + 1)), some (.int l4), some (.int x.2.1), some (.int q2.1)], [], am_T0 q4.2) rfl rfl ?_
          refine am_Rn.op _ (213, [some (.ref 36), w1, some (.int l2), some (.int (q4.1 + 1)), some (.int l4), some (.int x.2.1), some (.int q2.1)], [], am_T0 q4.2) rfl rfl ?_
          exact rfX6_traceBlock_213 d N _ l2 (q4.1 + 1) l4 x.2.1 q4.2 _ h hz _ _
        · refine am_Rn.ifF hc ?_
          rcases l2_i h with ⟨hc, h⟩ | ⟨hc, h⟩
          · refine am_Rn.ifT hc ?_
            refine am_Rn.op _ (115, [some (.ref 36), w1, some (.int l2), some (.int (x.1 + 2)), some (.int l4), some (.int x.2.1), w6], [], am_T0 q1.2) rfl rfl ?_
            refine am_Rn.op _ (213, [some (.ref 36), w1, some (.int l2), some (.int (x.1 + 2)), some (.int l4), some (.int x.2.1), w6], [], am_T0 q1.2) rfl rfl ?_
            exact rfX6_traceBlock_213 d N _ l2 (x.1 + 2) l4 x.2.1 q1.2 _ h hz _ _
          · refine am_Rn.ifF hc ?_
            rcases l2_i h with ⟨hc, h⟩ | ⟨hc, h⟩
            · refine am_Rn.ifT hc ?_
              refine am_Rn.op _ (115, [some (.ref 36), w1, some (.int l2), some (.int (x.1 + 2)), some (.int l4), some (.int x.2.1), w6], [], am_T0 q1.2) rfl rfl ?_
              refine am_Rn.op _ (213, [some (.ref 36), w1, some (.int l2), some (.int (x.1 + 2)), some (.int l4), some (.int x.2.1), w6], [], am_T0 q1.2) rfl rfl ?_
              exact rfX6_traceBlock_213 d N _ l2 (x.1 + 2) l4 x.2.1 q1.2 _ h hz _ _
            · refine am_Rn.ifF hc ?_
              rcases l2_i h with ⟨hc, h⟩ | ⟨hc, h⟩
              · refine am_Rn.ifT hc ?_
                refine am_Rn.op _ (151, [some (.ref 36), w1, some (.int l2), some (.int x.1), some (.int l4), some (.int x.2.1), w6], [.ref 36], am_T0 q1.2) rfl rfl ?_
                refine am_Rn.op _ (152, [some (.ref 36), w1, some (.int l2), some (.int x.1), some (.int l4), some (.int x.2.1), w6], [.int x.1, .ref 36], am_T0 q1.2) rfl rfl ?_
                refine am_Rn.op _ (153, [some (.ref 36), w1, some (.int l2), some (.int x.1), some (.int l4), some (.int x.2.1), w6], [.int 1, .int x.1, .ref 36], am_T0 q1.2) rfl rfl ?_
                refine am_Rn.op _ (154, [some (.ref 36), w1, some (.int l2), some (.int x.1), some (.int l4), some (.int x.2.1), w6], [.int (x.1 + 1), .ref 36], am_T0 q1.2) rfl rfl ?_
                refine am_Rn.op _ (155, [some (.ref 36), w1, some (.int l2), some (.int x.1), some (.int l4), some (.int x.2.1), w6], [.int l2, .int (x.1 + 1), .ref 36], am_T0 q1.2) rfl rfl ?_
                obtain ⟨q5, hq5, h⟩ := l2_b h
                refine am_Rn.cl _ (some (.int q5.1)) (am_T0 q5.2) rfl rfl (rfX6_traceChoice (d + 0) N (x.1 + 1) l2 q1.2 q5 hq5) ?_
                show am_Rn _ _ _ _ (158, [some (.ref 36), w1, some (.int l2), some (.int x.1), some (.int l4), some (.int x.2.1), w6], [.int q5.1], am_T0 q5.2)
                refine am_Rn.op _ (159, [some (.ref 36), w1, some (.int l2), some (.int q5.1), some (.int l4), some (.int x.2.1), w6], [], am_T0 q5.2) rfl rfl ?_
                refine am_Rn.op _ (213, [some (.ref 36), w1, some (.int l2), some (.int q5.1), some (.int l4), some (.int x.2.1), w6], [], am_T0 q5.2) rfl rfl ?_
                exact rfX6_traceBlock_213 d N _ l2 q5.1 l4 x.2.1 q5.2 _ h hz _ _
              · refine am_Rn.ifF hc ?_
                rcases l2_i h with ⟨hc, h⟩ | ⟨hc, h⟩
                · refine am_Rn.ifT hc ?_
                  refine am_Rn.op _ (119, [some (.ref 36), w1, some (.int l2), some (.int x.1), some (.int l4), some (.int x.2.1), w6], [.ref 36], am_T0 q1.2) rfl rfl ?_
                  refine am_Rn.op _ (120, [some (.ref 36), w1, some (.int l2), some (.int x.1), some (.int l4), some (.int x.2.1), w6], [.ref 36, .ref 36], am_T0 q1.2) rfl rfl ?_
                  refine am_Rn.op _ (123, [some (.ref 36), w1, some (.int l2), some (.int x.1), some (.int l4), some (.int x.2.1), w6], [.ref 18, .ref 36], am_T0 q1.2) rfl rfl ?_
                  refine am_Rn.op _ (124, [some (.ref 36), w1, some (.int l2), some (.int x.1), some (.int l4), some (.int x.2.1), w6], [.ref 36, .ref 18, .ref 36], am_T0 q1.2) rfl rfl ?_
                  refine am_Rn.op _ (127, [some (.ref 36), w1, some (.int l2), some (.int x.1), some (.int l4), some (.int x.2.1), w6], [.ref (TA (q1.2.2 11)), .ref 18, .ref 36], am_T0 q1.2) rfl rfl ?_
                  refine am_Rn.op _ (128, [some (.ref 36), w1, some (.int l2), some (.int x.1), some (.int l4), some (.int x.2.1), w6], [.int x.1, .ref (TA (q1.2.2 11)), .ref 18, .ref 36], am_T0 q1.2) rfl rfl ?_
                  refine am_Rn.op _ (129, [some (.ref 36), w1, some (.int l2), some (.int x.1), some (.int l4), some (.int x.2.1), w6], [.int 1, .int x.1, .ref (TA (q1.2.2 11)), .ref 18, .ref 36], am_T0 q1.2) rfl rfl ?_
                  refine am_Rn.op _ (130, [some (.ref 36), w1, some (.int l2), some (.int x.1), some (.int l4), some (.int x.2.1), w6], [.int (x.1 + 1), .ref (TA (q1.2.2 11)), .ref 18, .ref 36], am_T0 q1.2) rfl rfl ?_
                  obtain ⟨q6, hq6, h⟩ := l2_b h
                  refine am_Rn.cl _ (some (.int q6.1)) (am_T0 q6.2) rfl (o_clv rfl rfl rfl (l2_isO (q1.2.2 11) q1.2)) (rfX5_at (d + 3) N (q1.2.2 11) (x.1 + 1) q1.2 q6 hq6) ?_
                  show am_Rn _ _ _ _ (133, [some (.ref 36), w1, some (.int l2), some (.int x.1), some (.int l4), some (.int x.2.1), w6], [.int q6.1, .ref 18, .ref 36], am_T0 q6.2)
                  refine am_Rn.op _ (135, [some (.ref 36), w1, some (.int l2), some (.int x.1), some (.int l4), some (.int x.2.1), w6], [.int 97, .int q6.1, .ref 18, .ref 36], am_T0 q6.2) rfl rfl ?_
                  refine am_Rn.op _ (136, [some (.ref 36), w1, some (.int l2), some (.int x.1), some (.int l4), some (.int x.2.1), w6], [.int (q6.1 - 97), .ref 18, .ref 36], am_T0 q6.2) rfl rfl ?_
                  refine am_Rn.op _ (137, [some (.ref 36), w1, some (.int l2), some (.int x.1), some (.int l4), some (.int x.2.1), w6], [.int 0, .int (q6.1 - 97), .ref 18, .ref 36], am_T0 q6.2) rfl rfl ?_
                  refine am_Rn.op _ (138, [some (.ref 36), w1, some (.int l2), some (.int x.1), some (.int l4), some (.int x.2.1), w6], [.int 0, .int 0, .int (q6.1 - 97), .ref 18, .ref 36], am_T0 q6.2) rfl rfl ?_
                  obtain ⟨q7, hq7, h⟩ := l2_b h
                  refine am_Rn.cl _ (some (.int q7.1)) (am_T0 q7.2) rfl rfl (rfX0_canLeave (d + 0) N (q6.1 - 97) 0 0 q6.2 q7 hq7) ?_
                  show am_Rn _ _ _ _ (141, [some (.ref 36), w1, some (.int l2), some (.int x.1), some (.int l4), some (.int x.2.1), w6], [.int q7.1, .ref 36], am_T0 q7.2)
                  obtain ⟨hb8, h⟩ := l2_y h
                  refine am_Rn.putf rfl rfl (l2_bool hb8) ?_
                  show am_Rn _ _ _ _ (144, [some (.ref 36), w1, some (.int l2), some (.int x.1), some (.int l4), some (.int x.2.1), w6], [], am_T0 (st_i q7.2 36 5 q7.1))
                  refine am_Rn.op _ (147, [some (.ref 36), w1, some (.int l2), some (.int (x.1 + 2)), some (.int l4), some (.int x.2.1), w6], [], am_T0 (st_i q7.2 36 5 q7.1)) rfl rfl ?_
                  refine am_Rn.op _ (213, [some (.ref 36), w1, some (.int l2), some (.int (x.1 + 2)), some (.int l4), some (.int x.2.1), w6], [], am_T0 (st_i q7.2 36 5 q7.1)) rfl rfl ?_
                  exact rfX6_traceBlock_213 d N _ l2 (x.1 + 2) l4 x.2.1 (st_i q7.2 36 5 q7.1) _ h hz _ _
                · refine am_Rn.ifF hc ?_
                  rcases l2_i h with ⟨hc, h⟩ | ⟨hc, h⟩
                  · refine am_Rn.ifT hc ?_
                    refine am_Rn.op _ (197, [some (.ref 36), w1, some (.int l2), some (.int x.1), some (.int l4), some (.int x.2.1), w6], [.ref 36], am_T0 q1.2) rfl rfl ?_
                    refine am_Rn.op _ (198, [some (.ref 36), w1, some (.int l2), some (.int x.1), some (.int l4), some (.int x.2.1), w6], [.int x.1, .ref 36], am_T0 q1.2) rfl rfl ?_
                    refine am_Rn.op _ (199, [some (.ref 36), w1, some (.int l2), some (.int x.1), some (.int l4), some (.int x.2.1), w6], [.int 1, .int x.1, .ref 36], am_T0 q1.2) rfl rfl ?_
                    refine am_Rn.op _ (200, [some (.ref 36), w1, some (.int l2), some (.int x.1), some (.int l4), some (.int x.2.1), w6], [.int (x.1 + 1), .ref 36], am_T0 q1.2) rfl rfl ?_
                    refine am_Rn.op _ (201, [some (.ref 36), w1, some (.int l2), some (.int x.1), some (.int l4), some (.int x.2.1), w6], [.int l2, .int (x.1 + 1), .ref 36], am_T0 q1.2) rfl rfl ?_
                    obtain ⟨q9, hq9, h⟩ := l2_b h
                    refine am_Rn.cl _ (some (.int q9.1)) (am_T0 q9.2) rfl rfl (rfX6_traceTaking (d + 0) N (x.1 + 1) l2 q1.2 q9 hq9) ?_
                    show am_Rn _ _ _ _ (204, [some (.ref 36), w1, some (.int l2), some (.int x.1), some (.int l4), some (.int x.2.1), w6], [.int q9.1], am_T0 q9.2)
                    refine am_Rn.op _ (205, [some (.ref 36), w1, some (.int l2), some (.int q9.1), some (.int l4), some (.int x.2.1), w6], [], am_T0 q9.2) rfl rfl ?_
                    refine am_Rn.op _ (213, [some (.ref 36), w1, some (.int l2), some (.int q9.1), some (.int l4), some (.int x.2.1), w6], [], am_T0 q9.2) rfl rfl ?_
                    exact rfX6_traceBlock_213 d N _ l2 q9.1 l4 x.2.1 q9.2 _ h hz _ _
                  · refine am_Rn.ifF hc ?_
                    refine am_Rn.op _ (209, [some (.ref 36), w1, some (.int l2), some (.int x.1), some (.int l4), some (.int x.2.1), w6], [.ref 36], am_T0 q1.2) rfl rfl ?_
                    refine am_Rn.op _ (210, [some (.ref 36), w1, some (.int l2), some (.int x.1), some (.int l4), some (.int x.2.1), w6], [.int 0, .ref 36], am_T0 q1.2) rfl rfl ?_
                    refine am_Rn.op _ (213, [some (.ref 36), w1, some (.int l2), some (.int x.1), some (.int l4), some (.int x.2.1), w6], [], am_T0 (st_i q1.2 36 5 0)) rfl rfl ?_
                    exact rfX6_traceBlock_213 d N _ l2 x.1 l4 x.2.1 (st_i q1.2 36 5 0) _ h hz _ _
theorem rfX6_traceBlock_27 (d N : Nat) (res : Option Value × am_S) (l2 : Int32) (l4 : Int32) (x : Int32 × Int32 × St) (y : St) (h : fX6_traceBlock_27 N l2 l4 x = some y) (hq : QfX6_traceBlock_27 (d + 4) res l2 l4 y) : PfX6_traceBlock_27 (d + 4) res l2 l4 x := whl_ind _ _ (fun x z => rbfX6_traceBlock_27 d N res l2 l4 x z) N x y h hq
def fX6_traceBlock (N : Nat) (l1 : Int32) (l2 : Int32) (S : St) : Option St := (fX5_firstOf N ((st_i S 36 5 1).2 11) l1 (st_i S 36 5 1)).bind (fun q10 => (fX5_closeOf N (q10.2.2 11) l1 q10.2).bind (fun q11 => (fX6_traceBlock_27 N l2 q11.1 (q10.1, 0, q11.2)).bind (fun y12 => some y12)))
set_option maxRecDepth 20000 in
theorem rfX6_traceBlock (d N : Nat) (l1 : Int32) (l2 : Int32) (S : St) (z : St) (h : fX6_traceBlock N l1 l2 S = some z) : am_C (d + 5) 78 [.ref 36, .int l1, .int l2] (am_T0 S) (none, am_T0 z) := by
  unfold fX6_traceBlock at h
  show am_Rn (am_C (d + 4)) (am_ct 78) (am_rk 78) (none, am_T0 z) (0, [some (.ref 36), some (.int l1), some (.int l2), none, none, none, none], [], am_T0 S)
  refine am_Rn.op _ (1, [some (.ref 36), some (.int l1), some (.int l2), none, none, none, none], [.ref 36], am_T0 S) rfl rfl ?_
  refine am_Rn.op _ (2, [some (.ref 36), some (.int l1), some (.int l2), none, none, none, none], [.int 1, .ref 36], am_T0 S) rfl rfl ?_
  refine am_Rn.op _ (5, [some (.ref 36), some (.int l1), some (.int l2), none, none, none, none], [], am_T0 (st_i S 36 5 1)) rfl rfl ?_
  refine am_Rn.op _ (6, [some (.ref 36), some (.int l1), some (.int l2), none, none, none, none], [.ref 36], am_T0 (st_i S 36 5 1)) rfl rfl ?_
  refine am_Rn.op _ (9, [some (.ref 36), some (.int l1), some (.int l2), none, none, none, none], [.ref (TA ((st_i S 36 5 1).2 11))], am_T0 (st_i S 36 5 1)) rfl rfl ?_
  refine am_Rn.op _ (10, [some (.ref 36), some (.int l1), some (.int l2), none, none, none, none], [.int l1, .ref (TA ((st_i S 36 5 1).2 11))], am_T0 (st_i S 36 5 1)) rfl rfl ?_
  obtain ⟨q10, hq10, h⟩ := l2_b h
  refine am_Rn.cl _ (some (.int q10.1)) (am_T0 q10.2) rfl (o_clv rfl rfl rfl (l2_isO ((st_i S 36 5 1).2 11) (st_i S 36 5 1))) (rfX5_firstOf (d + 2) N ((st_i S 36 5 1).2 11) l1 (st_i S 36 5 1) q10 hq10) ?_
  show am_Rn _ _ _ _ (13, [some (.ref 36), some (.int l1), some (.int l2), none, none, none, none], [.int q10.1], am_T0 q10.2)
  refine am_Rn.op _ (14, [some (.ref 36), some (.int l1), some (.int l2), some (.int q10.1), none, none, none], [], am_T0 q10.2) rfl rfl ?_
  refine am_Rn.op _ (15, [some (.ref 36), some (.int l1), some (.int l2), some (.int q10.1), none, none, none], [.ref 36], am_T0 q10.2) rfl rfl ?_
  refine am_Rn.op _ (18, [some (.ref 36), some (.int l1), some (.int l2), some (.int q10.1), none, none, none], [.ref (TA (q10.2.2 11))], am_T0 q10.2) rfl rfl ?_
  refine am_Rn.op _ (19, [some (.ref 36), some (.int l1), some (.int l2), some (.int q10.1), none, none, none], [.int l1, .ref (TA (q10.2.2 11))], am_T0 q10.2) rfl rfl ?_
  obtain ⟨q11, hq11, h⟩ := l2_b h
  refine am_Rn.cl _ (some (.int q11.1)) (am_T0 q11.2) rfl (o_clv rfl rfl rfl (l2_isO (q10.2.2 11) q10.2)) (rfX5_closeOf (d + 2) N (q10.2.2 11) l1 q10.2 q11 hq11) ?_
  show am_Rn _ _ _ _ (22, [some (.ref 36), some (.int l1), some (.int l2), some (.int q10.1), none, none, none], [.int q11.1], am_T0 q11.2)
  refine am_Rn.op _ (24, [some (.ref 36), some (.int l1), some (.int l2), some (.int q10.1), some (.int q11.1), none, none], [], am_T0 q11.2) rfl rfl ?_
  refine am_Rn.op _ (25, [some (.ref 36), some (.int l1), some (.int l2), some (.int q10.1), some (.int q11.1), none, none], [.int 0], am_T0 q11.2) rfl rfl ?_
  refine am_Rn.op _ (27, [some (.ref 36), some (.int l1), some (.int l2), some (.int q10.1), some (.int q11.1), some (.int 0), none], [], am_T0 q11.2) rfl rfl ?_
  obtain ⟨y12, hy12, h⟩ := l2_b h
  refine rfX6_traceBlock_27 d N _ l2 q11.1 (q10.1, 0, q11.2) y12 hy12 ?_ _ _
  cases h
  exact rfl
-- X6_traceAll
def PfX6_traceAll_28 (d : Nat) (res : Option Value × am_S) (x : Int32 × St) : Prop := ∀ (w1 w3 : Option Value), am_Rn (am_C d) (am_ct 76) (am_rk 76) res (28, [some (.ref 36), w1, some (.int x.1), w3], [], am_T0 x.2)
def QfX6_traceAll_28 (d : Nat) (res : Option Value × am_S) (y : St) : Prop := res = (none, am_T0 y)
def PfX6_traceAll_36 (d : Nat) (res : Option Value × am_S) (l2 : Int32) (x : Int32 × St) : Prop := ∀ (w1 : Option Value), am_Rn (am_C d) (am_ct 76) (am_rk 76) res (36, [some (.ref 36), w1, some (.int l2), some (.int x.1)], [], am_T0 x.2)
def QfX6_traceAll_36 (d : Nat) (res : Option Value × am_S) (l2 : Int32) (y : St) : Prop := ∀ (w1 w3 : Option Value), am_Rn (am_C d) (am_ct 76) (am_rk 76) res (67, [some (.ref 36), w1, some (.int l2), w3], [], am_T0 y)
def fX6_traceAll_61 (N : Nat) (l2 : Int32) (l3 : Int32) (S : St) : Option ((Int32 × St) ⊕ (St)) := some (.inl ((l3 + 1), S))
set_option maxRecDepth 20000 in
theorem rfX6_traceAll_61 (d N : Nat) (res : Option Value × am_S) (l2 : Int32) (l3 : Int32) (S : St) (z : (Int32 × St) ⊕ (St)) (h : fX6_traceAll_61 N l2 l3 S = some z) (hz : Sum.elim (PfX6_traceAll_36 (d + 5) res l2 ) (QfX6_traceAll_36 (d + 5) res l2 ) z) (w1 : Option Value) : am_Rn (am_C (d + 5)) (am_ct 76) (am_rk 76) res (61, [some (.ref 36), w1, some (.int l2), some (.int l3)], [], am_T0 S) := by
  unfold fX6_traceAll_61 at h
  refine am_Rn.op _ (64, [some (.ref 36), w1, some (.int l2), some (.int (l3 + 1))], [], am_T0 S) rfl rfl ?_
  refine am_Rn.op _ (36, [some (.ref 36), w1, some (.int l2), some (.int (l3 + 1))], [], am_T0 S) rfl rfl ?_
  cases h
  exact hz _
def bfX6_traceAll_36 (N : Nat) (l2 : Int32) (x : Int32 × St) : Option ((Int32 × St) ⊕ (St)) := (if 6 ≤ x.1 then some (.inr (x.2)) else (if l2 < 0 ∨ 31 ≤ Int32.toNatClampNeg l2 then none else (fX7_has N (x.2.1 46 (Int32.toNatClampNeg l2)) x.1 x.2).bind (fun q2 => (if q2.1 = 0 then fX6_traceAll_61 N l2 x.1 q2.2 else (fX6_traceBlock N l2 x.1 q2.2).bind (fun q3 => fX6_traceAll_61 N l2 x.1 q3)))))
def fX6_traceAll_36 (N : Nat) (l2 : Int32) (x : Int32 × St) : Option (St) := whl N (bfX6_traceAll_36 N l2 ) x
set_option maxRecDepth 20000 in
theorem rbfX6_traceAll_36 (d N : Nat) (res : Option Value × am_S) (l2 : Int32) (x : Int32 × St) (z : (Int32 × St) ⊕ (St)) (h : bfX6_traceAll_36 N l2 x = some z) (hz : Sum.elim (PfX6_traceAll_36 (d + 5) res l2 ) (QfX6_traceAll_36 (d + 5) res l2 ) z) : PfX6_traceAll_36 (d + 5) res l2 x := by
  unfold bfX6_traceAll_36 at h
  show ∀ (w1 : Option Value), am_Rn (am_C (d + 5)) (am_ct 76) (am_rk 76) res (36, [some (.ref 36), w1, some (.int l2), some (.int x.1)], [], am_T0 x.2)
  intro w1
  refine am_Rn.op _ (37, [some (.ref 36), w1, some (.int l2), some (.int x.1)], [.int x.1], am_T0 x.2) rfl rfl ?_
  refine am_Rn.op _ (39, [some (.ref 36), w1, some (.int l2), some (.int x.1)], [.int 6, .int x.1], am_T0 x.2) rfl rfl ?_
  refine am_Rn.op _ (if 6 ≤ x.1 then 67 else 42, [some (.ref 36), w1, some (.int l2), some (.int x.1)], [], am_T0 x.2) rfl rfl ?_
  rcases l2_i h with ⟨hc, h⟩ | ⟨hc, h⟩
  · refine am_Rn.ifT hc ?_
    cases h
    exact hz _ _
  · refine am_Rn.ifF hc ?_
    refine am_Rn.op _ (43, [some (.ref 36), w1, some (.int l2), some (.int x.1)], [.ref 36], am_T0 x.2) rfl rfl ?_
    refine am_Rn.op _ (46, [some (.ref 36), w1, some (.int l2), some (.int x.1)], [.ref 46], am_T0 x.2) rfl rfl ?_
    refine am_Rn.op _ (47, [some (.ref 36), w1, some (.int l2), some (.int x.1)], [.int l2, .ref 46], am_T0 x.2) rfl rfl ?_
    obtain ⟨hb1, h⟩ := l2_n h
    refine am_Rn.iald (n := 31) rfl rfl hb1 ?_
    show am_Rn _ _ _ _ (48, [some (.ref 36), w1, some (.int l2), some (.int x.1)], [.int (x.2.1 46 (Int32.toNatClampNeg l2))], am_T0 x.2)
    refine am_Rn.op _ (49, [some (.ref 36), w1, some (.int l2), some (.int x.1)], [.int x.1, .int (x.2.1 46 (Int32.toNatClampNeg l2))], am_T0 x.2) rfl rfl ?_
    obtain ⟨q2, hq2, h⟩ := l2_b h
    refine am_Rn.cl _ (some (.int q2.1)) (am_T0 q2.2) rfl rfl (rfX7_has (d + 4) N (x.2.1 46 (Int32.toNatClampNeg l2)) x.1 x.2 q2 hq2) ?_
    show am_Rn _ _ _ _ (52, [some (.ref 36), w1, some (.int l2), some (.int x.1)], [.int q2.1], am_T0 q2.2)
    refine am_Rn.op _ (if q2.1 = 0 then 61 else 55, [some (.ref 36), w1, some (.int l2), some (.int x.1)], [], am_T0 q2.2) rfl rfl ?_
    rcases l2_i h with ⟨hc, h⟩ | ⟨hc, h⟩
    · refine am_Rn.ifT hc ?_
      exact rfX6_traceAll_61 d N _ l2 x.1 q2.2 _ h hz _
    · refine am_Rn.ifF hc ?_
      refine am_Rn.op _ (56, [some (.ref 36), w1, some (.int l2), some (.int x.1)], [.ref 36], am_T0 q2.2) rfl rfl ?_
      refine am_Rn.op _ (57, [some (.ref 36), w1, some (.int l2), some (.int x.1)], [.int l2, .ref 36], am_T0 q2.2) rfl rfl ?_
      refine am_Rn.op _ (58, [some (.ref 36), w1, some (.int l2), some (.int x.1)], [.int x.1, .int l2, .ref 36], am_T0 q2.2) rfl rfl ?_
      obtain ⟨q3, hq3, h⟩ := l2_b h
      refine am_Rn.cl _ none (am_T0 q3) rfl rfl (rfX6_traceBlock (d + 0) N l2 x.1 q2.2 q3 hq3) ?_
      show am_Rn _ _ _ _ (61, [some (.ref 36), w1, some (.int l2), some (.int x.1)], [], am_T0 q3)
      exact rfX6_traceAll_61 d N _ l2 x.1 q3 _ h hz _
theorem rfX6_traceAll_36 (d N : Nat) (res : Option Value × am_S) (l2 : Int32) (x : Int32 × St) (y : St) (h : fX6_traceAll_36 N l2 x = some y) (hq : QfX6_traceAll_36 (d + 5) res l2 y) : PfX6_traceAll_36 (d + 5) res l2 x := whl_ind _ _ (fun x z => rbfX6_traceAll_36 d N res l2 x z) N x y h hq
def bfX6_traceAll_28 (N : Nat) (x : Int32 × St) : Option ((Int32 × St) ⊕ (St)) := (if 31 ≤ x.1 then some (.inr x.2) else (fX6_traceAll_36 N x.1 (0, x.2)).bind (fun y4 => some (.inl ((x.1 + 1), y4))))
def fX6_traceAll_28 (N : Nat) (x : Int32 × St) : Option (St) := whl N (bfX6_traceAll_28 N ) x
set_option maxRecDepth 20000 in
theorem rbfX6_traceAll_28 (d N : Nat) (res : Option Value × am_S) (x : Int32 × St) (z : (Int32 × St) ⊕ (St)) (h : bfX6_traceAll_28 N x = some z) (hz : Sum.elim (PfX6_traceAll_28 (d + 5) res ) (QfX6_traceAll_28 (d + 5) res ) z) : PfX6_traceAll_28 (d + 5) res x := by
  unfold bfX6_traceAll_28 at h
  show ∀ (w1 w3 : Option Value), am_Rn (am_C (d + 5)) (am_ct 76) (am_rk 76) res (28, [some (.ref 36), w1, some (.int x.1), w3], [], am_T0 x.2)
  intro w1 w3
  refine am_Rn.op _ (29, [some (.ref 36), w1, some (.int x.1), w3], [.int x.1], am_T0 x.2) rfl rfl ?_
  refine am_Rn.op _ (31, [some (.ref 36), w1, some (.int x.1), w3], [.int 31, .int x.1], am_T0 x.2) rfl rfl ?_
  refine am_Rn.op _ (if 31 ≤ x.1 then 73 else 34, [some (.ref 36), w1, some (.int x.1), w3], [], am_T0 x.2) rfl rfl ?_
  rcases l2_i h with ⟨hc, h⟩ | ⟨hc, h⟩
  · refine am_Rn.ifT hc ?_
    cases h
    exact am_Rn.rt2 _ rfl rfl hz
  · refine am_Rn.ifF hc ?_
    refine am_Rn.op _ (35, [some (.ref 36), w1, some (.int x.1), w3], [.int 0], am_T0 x.2) rfl rfl ?_
    refine am_Rn.op _ (36, [some (.ref 36), w1, some (.int x.1), some (.int 0)], [], am_T0 x.2) rfl rfl ?_
    obtain ⟨y4, hy4, h⟩ := l2_b h
    refine rfX6_traceAll_36 d N _ x.1 (0, x.2) y4 hy4 ?_ _
    intro w5 w6
    show am_Rn _ _ _ _ (67, [some (.ref 36), w5, some (.int x.1), w6], [], am_T0 y4)
    refine am_Rn.op _ (70, [some (.ref 36), w5, some (.int (x.1 + 1)), w6], [], am_T0 y4) rfl rfl ?_
    refine am_Rn.op _ (28, [some (.ref 36), w5, some (.int (x.1 + 1)), w6], [], am_T0 y4) rfl rfl ?_
    cases h
    exact hz _ _
theorem rfX6_traceAll_28 (d N : Nat) (res : Option Value × am_S) (x : Int32 × St) (y : St) (h : fX6_traceAll_28 N x = some y) (hq : QfX6_traceAll_28 (d + 5) res y) : PfX6_traceAll_28 (d + 5) res x := whl_ind _ _ (fun x z => rbfX6_traceAll_28 d N res x z) N x y h hq
def fX6_traceAll (N : Nat) (n1 : Nat) (S : St) : Option St := (fX5_clearTraces N ((st_p S 11 n1).2 11) (st_p S 11 n1)).bind (fun q7 => (fJ7_fill_53178 N 46 0 q7).bind (fun q8 => (fX6_reach N 0 0 q8).bind (fun q9 => (fX6_traceAll_28 N (0, q9)).bind (fun y10 => some y10))))
set_option maxRecDepth 20000 in
theorem rfX6_traceAll (d N : Nat) (n1 : Nat) (S : St) (z : St) (h : fX6_traceAll N n1 S = some z) : am_C (d + 6) 76 [.ref 36, .ref (TA n1)] (am_T0 S) (none, am_T0 z) := by
  unfold fX6_traceAll at h
  show am_Rn (am_C (d + 5)) (am_ct 76) (am_rk 76) (none, am_T0 z) (0, [some (.ref 36), some (.ref (TA n1)), none, none], [], am_T0 S)
  refine am_Rn.op _ (1, [some (.ref 36), some (.ref (TA n1)), none, none], [.ref 36], am_T0 S) rfl rfl ?_
  refine am_Rn.op _ (2, [some (.ref 36), some (.ref (TA n1)), none, none], [.ref (TA n1), .ref 36], am_T0 S) rfl rfl ?_
  refine am_Rn.op _ (5, [some (.ref 36), some (.ref (TA n1)), none, none], [], (S.1, am_u2 (PP S.2) 36 3 (some (TA n1)), 148)) rfl rfl ?_
  rw [l2_put (j := 11) rfl]
  show am_Rn _ _ _ _ (5, [some (.ref 36), some (.ref (TA n1)), none, none], [], am_T0 (st_p S 11 n1))
  refine am_Rn.op _ (6, [some (.ref 36), some (.ref (TA n1)), none, none], [.ref 36], am_T0 (st_p S 11 n1)) rfl rfl ?_
  refine am_Rn.op _ (9, [some (.ref 36), some (.ref (TA n1)), none, none], [.ref (TA ((st_p S 11 n1).2 11))], am_T0 (st_p S 11 n1)) rfl rfl ?_
  obtain ⟨q7, hq7, h⟩ := l2_b h
  refine am_Rn.cl _ none (am_T0 q7) rfl (o_clv rfl rfl rfl (l2_isO ((st_p S 11 n1).2 11) (st_p S 11 n1))) (rfX5_clearTraces (d + 3) N ((st_p S 11 n1).2 11) (st_p S 11 n1) q7 hq7) ?_
  show am_Rn _ _ _ _ (12, [some (.ref 36), some (.ref (TA n1)), none, none], [], am_T0 q7)
  refine am_Rn.op _ (13, [some (.ref 36), some (.ref (TA n1)), none, none], [.ref 36], am_T0 q7) rfl rfl ?_
  refine am_Rn.op _ (16, [some (.ref 36), some (.ref (TA n1)), none, none], [.ref 46], am_T0 q7) rfl rfl ?_
  refine am_Rn.op _ (17, [some (.ref 36), some (.ref (TA n1)), none, none], [.int 0, .ref 46], am_T0 q7) rfl rfl ?_
  obtain ⟨q8, hq8, h⟩ := l2_b h
  refine am_Rn.cl _ none (am_T0 q8) rfl rfl (rfJ7_fill_53178 (d + 4) N 46 0 rfl q7 q8 hq8) ?_
  show am_Rn _ _ _ _ (20, [some (.ref 36), some (.ref (TA n1)), none, none], [], am_T0 q8)
  refine am_Rn.op _ (21, [some (.ref 36), some (.ref (TA n1)), none, none], [.ref 36], am_T0 q8) rfl rfl ?_
  refine am_Rn.op _ (22, [some (.ref 36), some (.ref (TA n1)), none, none], [.int 0, .ref 36], am_T0 q8) rfl rfl ?_
  refine am_Rn.op _ (23, [some (.ref 36), some (.ref (TA n1)), none, none], [.int 0, .int 0, .ref 36], am_T0 q8) rfl rfl ?_
  obtain ⟨q9, hq9, h⟩ := l2_b h
  refine am_Rn.cl _ none (am_T0 q9) rfl rfl (rfX6_reach (d + 3) N 0 0 q8 q9 hq9) ?_
  show am_Rn _ _ _ _ (26, [some (.ref 36), some (.ref (TA n1)), none, none], [], am_T0 q9)
  refine am_Rn.op _ (27, [some (.ref 36), some (.ref (TA n1)), none, none], [.int 0], am_T0 q9) rfl rfl ?_
  refine am_Rn.op _ (28, [some (.ref 36), some (.ref (TA n1)), some (.int 0), none], [], am_T0 q9) rfl rfl ?_
  obtain ⟨y10, hy10, h⟩ := l2_b h
  refine rfX6_traceAll_28 d N _  (0, q9) y10 hy10 ?_ _ _
  cases h
  exact rfl
-- X7_feed
def fX7_feed (N : Nat) (l1 : Int32) (l2 : Int32) (l3 : Int32) (l4 : Int32) (l5 : Int32) (S : St) : Option (Int32 × St) := (fX4_size N S).bind (fun q1 => (if (q1.1 + 20) ≤ 80 then (fX4_add N l1 q1.2).bind (fun q2 => (fX4_add N l2 q2).bind (fun q3 => (fX4_add N l3 q3).bind (fun q4 => (fX4_add N l4 q4).bind (fun q5 => (fX4_add N l5 q5).bind (fun q6 => (fX4_size N q6).bind (fun q7 => some (q7.1, q7.2))))))) else some ((-1), q1.2)))
set_option maxRecDepth 20000 in
theorem rfX7_feed (d N : Nat) (l1 : Int32) (l2 : Int32) (l3 : Int32) (l4 : Int32) (l5 : Int32) (S : St) (z : (Int32 × St)) (h : fX7_feed N l1 l2 l3 l4 l5 S = some z) : am_C (d + 2) 83 [.ref 0, .int l1, .int l2, .int l3, .int l4, .int l5] (am_T0 S) (some (.int z.1), am_T0 z.2) := by
  unfold fX7_feed at h
  show am_Rn (am_C (d + 1)) (am_ct 83) (am_rk 83) (some (.int z.1), am_T0 z.2) (0, [some (.ref 0), some (.int l1), some (.int l2), some (.int l3), some (.int l4), some (.int l5)], [], am_T0 S)
  refine am_Rn.op _ (1, [some (.ref 0), some (.int l1), some (.int l2), some (.int l3), some (.int l4), some (.int l5)], [.ref 0], am_T0 S) rfl rfl ?_
  refine am_Rn.op _ (4, [some (.ref 0), some (.int l1), some (.int l2), some (.int l3), some (.int l4), some (.int l5)], [.ref 1], am_T0 S) rfl rfl ?_
  obtain ⟨q1, hq1, h⟩ := l2_b h
  refine am_Rn.cl _ (some (.int q1.1)) (am_T0 q1.2) rfl rfl (rfX4_size (d + 0) N S q1 hq1) ?_
  show am_Rn _ _ _ _ (7, [some (.ref 0), some (.int l1), some (.int l2), some (.int l3), some (.int l4), some (.int l5)], [.int q1.1], am_T0 q1.2)
  refine am_Rn.op _ (9, [some (.ref 0), some (.int l1), some (.int l2), some (.int l3), some (.int l4), some (.int l5)], [.int 20, .int q1.1], am_T0 q1.2) rfl rfl ?_
  refine am_Rn.op _ (10, [some (.ref 0), some (.int l1), some (.int l2), some (.int l3), some (.int l4), some (.int l5)], [.int (q1.1 + 20)], am_T0 q1.2) rfl rfl ?_
  refine am_Rn.op _ (12, [some (.ref 0), some (.int l1), some (.int l2), some (.int l3), some (.int l4), some (.int l5)], [.int 80, .int (q1.1 + 20)], am_T0 q1.2) rfl rfl ?_
  refine am_Rn.op _ (if (q1.1 + 20) ≤ 80 then 17 else 15, [some (.ref 0), some (.int l1), some (.int l2), some (.int l3), some (.int l4), some (.int l5)], [], am_T0 q1.2) rfl rfl ?_
  rcases l2_i h with ⟨hc, h⟩ | ⟨hc, h⟩
  · refine am_Rn.ifT hc ?_
    refine am_Rn.op _ (18, [some (.ref 0), some (.int l1), some (.int l2), some (.int l3), some (.int l4), some (.int l5)], [.ref 0], am_T0 q1.2) rfl rfl ?_
    refine am_Rn.op _ (21, [some (.ref 0), some (.int l1), some (.int l2), some (.int l3), some (.int l4), some (.int l5)], [.ref 1], am_T0 q1.2) rfl rfl ?_
    refine am_Rn.op _ (22, [some (.ref 0), some (.int l1), some (.int l2), some (.int l3), some (.int l4), some (.int l5)], [.int l1, .ref 1], am_T0 q1.2) rfl rfl ?_
    obtain ⟨q2, hq2, h⟩ := l2_b h
    refine am_Rn.cl _ none (am_T0 q2) rfl rfl (rfX4_add (d + 0) N l1 q1.2 q2 hq2) ?_
    show am_Rn _ _ _ _ (25, [some (.ref 0), some (.int l1), some (.int l2), some (.int l3), some (.int l4), some (.int l5)], [], am_T0 q2)
    refine am_Rn.op _ (26, [some (.ref 0), some (.int l1), some (.int l2), some (.int l3), some (.int l4), some (.int l5)], [.ref 0], am_T0 q2) rfl rfl ?_
    refine am_Rn.op _ (29, [some (.ref 0), some (.int l1), some (.int l2), some (.int l3), some (.int l4), some (.int l5)], [.ref 1], am_T0 q2) rfl rfl ?_
    refine am_Rn.op _ (30, [some (.ref 0), some (.int l1), some (.int l2), some (.int l3), some (.int l4), some (.int l5)], [.int l2, .ref 1], am_T0 q2) rfl rfl ?_
    obtain ⟨q3, hq3, h⟩ := l2_b h
    refine am_Rn.cl _ none (am_T0 q3) rfl rfl (rfX4_add (d + 0) N l2 q2 q3 hq3) ?_
    show am_Rn _ _ _ _ (33, [some (.ref 0), some (.int l1), some (.int l2), some (.int l3), some (.int l4), some (.int l5)], [], am_T0 q3)
    refine am_Rn.op _ (34, [some (.ref 0), some (.int l1), some (.int l2), some (.int l3), some (.int l4), some (.int l5)], [.ref 0], am_T0 q3) rfl rfl ?_
    refine am_Rn.op _ (37, [some (.ref 0), some (.int l1), some (.int l2), some (.int l3), some (.int l4), some (.int l5)], [.ref 1], am_T0 q3) rfl rfl ?_
    refine am_Rn.op _ (38, [some (.ref 0), some (.int l1), some (.int l2), some (.int l3), some (.int l4), some (.int l5)], [.int l3, .ref 1], am_T0 q3) rfl rfl ?_
    obtain ⟨q4, hq4, h⟩ := l2_b h
    refine am_Rn.cl _ none (am_T0 q4) rfl rfl (rfX4_add (d + 0) N l3 q3 q4 hq4) ?_
    show am_Rn _ _ _ _ (41, [some (.ref 0), some (.int l1), some (.int l2), some (.int l3), some (.int l4), some (.int l5)], [], am_T0 q4)
    refine am_Rn.op _ (42, [some (.ref 0), some (.int l1), some (.int l2), some (.int l3), some (.int l4), some (.int l5)], [.ref 0], am_T0 q4) rfl rfl ?_
    refine am_Rn.op _ (45, [some (.ref 0), some (.int l1), some (.int l2), some (.int l3), some (.int l4), some (.int l5)], [.ref 1], am_T0 q4) rfl rfl ?_
    refine am_Rn.op _ (47, [some (.ref 0), some (.int l1), some (.int l2), some (.int l3), some (.int l4), some (.int l5)], [.int l4, .ref 1], am_T0 q4) rfl rfl ?_
    obtain ⟨q5, hq5, h⟩ := l2_b h
    refine am_Rn.cl _ none (am_T0 q5) rfl rfl (rfX4_add (d + 0) N l4 q4 q5 hq5) ?_
    show am_Rn _ _ _ _ (50, [some (.ref 0), some (.int l1), some (.int l2), some (.int l3), some (.int l4), some (.int l5)], [], am_T0 q5)
    refine am_Rn.op _ (51, [some (.ref 0), some (.int l1), some (.int l2), some (.int l3), some (.int l4), some (.int l5)], [.ref 0], am_T0 q5) rfl rfl ?_
    refine am_Rn.op _ (54, [some (.ref 0), some (.int l1), some (.int l2), some (.int l3), some (.int l4), some (.int l5)], [.ref 1], am_T0 q5) rfl rfl ?_
    refine am_Rn.op _ (56, [some (.ref 0), some (.int l1), some (.int l2), some (.int l3), some (.int l4), some (.int l5)], [.int l5, .ref 1], am_T0 q5) rfl rfl ?_
    obtain ⟨q6, hq6, h⟩ := l2_b h
    refine am_Rn.cl _ none (am_T0 q6) rfl rfl (rfX4_add (d + 0) N l5 q5 q6 hq6) ?_
    show am_Rn _ _ _ _ (59, [some (.ref 0), some (.int l1), some (.int l2), some (.int l3), some (.int l4), some (.int l5)], [], am_T0 q6)
    refine am_Rn.op _ (60, [some (.ref 0), some (.int l1), some (.int l2), some (.int l3), some (.int l4), some (.int l5)], [.ref 0], am_T0 q6) rfl rfl ?_
    refine am_Rn.op _ (63, [some (.ref 0), some (.int l1), some (.int l2), some (.int l3), some (.int l4), some (.int l5)], [.ref 1], am_T0 q6) rfl rfl ?_
    obtain ⟨q7, hq7, h⟩ := l2_b h
    refine am_Rn.cl _ (some (.int q7.1)) (am_T0 q7.2) rfl rfl (rfX4_size (d + 0) N q6 q7 hq7) ?_
    show am_Rn _ _ _ _ (66, [some (.ref 0), some (.int l1), some (.int l2), some (.int l3), some (.int l4), some (.int l5)], [.int q7.1], am_T0 q7.2)
    cases h
    exact am_Rn.rt _ rfl rfl
  · refine am_Rn.ifF hc ?_
    refine am_Rn.op _ (16, [some (.ref 0), some (.int l1), some (.int l2), some (.int l3), some (.int l4), some (.int l5)], [.int (-1)], am_T0 q1.2) rfl rfl ?_
    cases h
    exact am_Rn.rt _ rfl rfl
-- X7_comesTo
def PfX7_comesTo_12 (d : Nat) (res : Option Value × am_S) (x : Int32 × Int32 × St) : Prop := ∀ (w1 w4 : Option Value), am_Rn (am_C d) (am_ct 107) (am_rk 107) res (12, [some (.ref 0), w1, some (.int x.1), some (.int x.2.1), w4], [], am_T0 x.2.2)
def QfX7_comesTo_12 (d : Nat) (res : Option Value × am_S) (y : (Int32 × St)) : Prop := res = (some (.int y.1), am_T0 y.2)
def PfX7_comesTo_21 (d : Nat) (res : Option Value × am_S) (l3 : Int32) (x : Int32 × Int32 × St) : Prop := ∀ (w1 : Option Value), am_Rn (am_C d) (am_ct 107) (am_rk 107) res (21, [some (.ref 0), w1, some (.int x.1), some (.int l3), some (.int x.2.1)], [], am_T0 x.2.2)
def QfX7_comesTo_21 (d : Nat) (res : Option Value × am_S) (l3 : Int32) (y : Int32 × St) : Prop := ∀ (w1 w4 : Option Value), am_Rn (am_C d) (am_ct 107) (am_rk 107) res (56, [some (.ref 0), w1, some (.int y.1), some (.int l3), w4], [], am_T0 y.2)
def fX7_comesTo_50 (N : Nat) (l2 : Int32) (l3 : Int32) (l4 : Int32) (S : St) : Option ((Int32 × Int32 × St) ⊕ (Int32 × St)) := some (.inl (l2, (l4 + 1), S))
set_option maxRecDepth 20000 in
theorem rfX7_comesTo_50 (d N : Nat) (res : Option Value × am_S) (l2 : Int32) (l3 : Int32) (l4 : Int32) (S : St) (z : (Int32 × Int32 × St) ⊕ (Int32 × St)) (h : fX7_comesTo_50 N l2 l3 l4 S = some z) (hz : Sum.elim (PfX7_comesTo_21 (d + 1) res l3 ) (QfX7_comesTo_21 (d + 1) res l3 ) z) (w1 : Option Value) : am_Rn (am_C (d + 1)) (am_ct 107) (am_rk 107) res (50, [some (.ref 0), w1, some (.int l2), some (.int l3), some (.int l4)], [], am_T0 S) := by
  unfold fX7_comesTo_50 at h
  refine am_Rn.op _ (53, [some (.ref 0), w1, some (.int l2), some (.int l3), some (.int (l4 + 1))], [], am_T0 S) rfl rfl ?_
  refine am_Rn.op _ (21, [some (.ref 0), w1, some (.int l2), some (.int l3), some (.int (l4 + 1))], [], am_T0 S) rfl rfl ?_
  cases h
  exact hz _
def bfX7_comesTo_21 (N : Nat) (l3 : Int32) (x : Int32 × Int32 × St) : Option ((Int32 × Int32 × St) ⊕ (Int32 × St)) := (if 8 ≤ x.2.1 then some (.inr (x.1, x.2.2)) else (fX7_has N x.1 x.2.1 x.2.2).bind (fun q1 => (if q1.1 = 0 then fX7_comesTo_50 N x.1 l3 x.2.1 q1.2 else (if x.2.1 < 0 ∨ 8 ≤ Int32.toNatClampNeg x.2.1 then none else (fX5_calls N (q1.2.2 (Int32.toNatClampNeg x.2.1)) q1.2).bind (fun q3 => fX7_comesTo_50 N (x.1 ||| q3.1) l3 x.2.1 q3.2)))))
def fX7_comesTo_21 (N : Nat) (l3 : Int32) (x : Int32 × Int32 × St) : Option (Int32 × St) := whl N (bfX7_comesTo_21 N l3 ) x
set_option maxRecDepth 20000 in
theorem rbfX7_comesTo_21 (d N : Nat) (res : Option Value × am_S) (l3 : Int32) (x : Int32 × Int32 × St) (z : (Int32 × Int32 × St) ⊕ (Int32 × St)) (h : bfX7_comesTo_21 N l3 x = some z) (hz : Sum.elim (PfX7_comesTo_21 (d + 1) res l3 ) (QfX7_comesTo_21 (d + 1) res l3 ) z) : PfX7_comesTo_21 (d + 1) res l3 x := by
  unfold bfX7_comesTo_21 at h
  show ∀ (w1 : Option Value), am_Rn (am_C (d + 1)) (am_ct 107) (am_rk 107) res (21, [some (.ref 0), w1, some (.int x.1), some (.int l3), some (.int x.2.1)], [], am_T0 x.2.2)
  intro w1
  refine am_Rn.op _ (23, [some (.ref 0), w1, some (.int x.1), some (.int l3), some (.int x.2.1)], [.int x.2.1], am_T0 x.2.2) rfl rfl ?_
  refine am_Rn.op _ (25, [some (.ref 0), w1, some (.int x.1), some (.int l3), some (.int x.2.1)], [.int 8, .int x.2.1], am_T0 x.2.2) rfl rfl ?_
  refine am_Rn.op _ (if 8 ≤ x.2.1 then 56 else 28, [some (.ref 0), w1, some (.int x.1), some (.int l3), some (.int x.2.1)], [], am_T0 x.2.2) rfl rfl ?_
  rcases l2_i h with ⟨hc, h⟩ | ⟨hc, h⟩
  · refine am_Rn.ifT hc ?_
    cases h
    exact hz _ _
  · refine am_Rn.ifF hc ?_
    refine am_Rn.op _ (29, [some (.ref 0), w1, some (.int x.1), some (.int l3), some (.int x.2.1)], [.int x.1], am_T0 x.2.2) rfl rfl ?_
    refine am_Rn.op _ (31, [some (.ref 0), w1, some (.int x.1), some (.int l3), some (.int x.2.1)], [.int x.2.1, .int x.1], am_T0 x.2.2) rfl rfl ?_
    obtain ⟨q1, hq1, h⟩ := l2_b h
    refine am_Rn.cl _ (some (.int q1.1)) (am_T0 q1.2) rfl rfl (rfX7_has (d + 0) N x.1 x.2.1 x.2.2 q1 hq1) ?_
    show am_Rn _ _ _ _ (34, [some (.ref 0), w1, some (.int x.1), some (.int l3), some (.int x.2.1)], [.int q1.1], am_T0 q1.2)
    refine am_Rn.op _ (if q1.1 = 0 then 50 else 37, [some (.ref 0), w1, some (.int x.1), some (.int l3), some (.int x.2.1)], [], am_T0 q1.2) rfl rfl ?_
    rcases l2_i h with ⟨hc, h⟩ | ⟨hc, h⟩
    · refine am_Rn.ifT hc ?_
      exact rfX7_comesTo_50 d N _ x.1 l3 x.2.1 q1.2 _ h hz _
    · refine am_Rn.ifF hc ?_
      refine am_Rn.op _ (38, [some (.ref 0), w1, some (.int x.1), some (.int l3), some (.int x.2.1)], [.int x.1], am_T0 q1.2) rfl rfl ?_
      refine am_Rn.op _ (39, [some (.ref 0), w1, some (.int x.1), some (.int l3), some (.int x.2.1)], [.ref 0, .int x.1], am_T0 q1.2) rfl rfl ?_
      refine am_Rn.op _ (42, [some (.ref 0), w1, some (.int x.1), some (.int l3), some (.int x.2.1)], [.ref 16, .int x.1], am_T0 q1.2) rfl rfl ?_
      refine am_Rn.op _ (44, [some (.ref 0), w1, some (.int x.1), some (.int l3), some (.int x.2.1)], [.int x.2.1, .ref 16, .int x.1], am_T0 q1.2) rfl rfl ?_
      obtain ⟨hb2, h⟩ := l2_n h
      refine am_Rn.aald rfl hb2 ?_
      show am_Rn _ _ _ _ (45, [some (.ref 0), w1, some (.int x.1), some (.int l3), some (.int x.2.1)], [.ref (TA (q1.2.2 (Int32.toNatClampNeg x.2.1))), .int x.1], am_T0 q1.2)
      obtain ⟨q3, hq3, h⟩ := l2_b h
      refine am_Rn.cl _ (some (.int q3.1)) (am_T0 q3.2) rfl (o_clv rfl rfl rfl (l2_isO (q1.2.2 (Int32.toNatClampNeg x.2.1)) q1.2)) (rfX5_calls (d + 0) N (q1.2.2 (Int32.toNatClampNeg x.2.1)) q1.2 q3 hq3) ?_
      show am_Rn _ _ _ _ (48, [some (.ref 0), w1, some (.int x.1), some (.int l3), some (.int x.2.1)], [.int q3.1, .int x.1], am_T0 q3.2)
      refine am_Rn.op _ (49, [some (.ref 0), w1, some (.int x.1), some (.int l3), some (.int x.2.1)], [.int (x.1 ||| q3.1)], am_T0 q3.2) rfl rfl ?_
      refine am_Rn.op _ (50, [some (.ref 0), w1, some (.int (x.1 ||| q3.1)), some (.int l3), some (.int x.2.1)], [], am_T0 q3.2) rfl rfl ?_
      exact rfX7_comesTo_50 d N _ (x.1 ||| q3.1) l3 x.2.1 q3.2 _ h hz _
theorem rfX7_comesTo_21 (d N : Nat) (res : Option Value × am_S) (l3 : Int32) (x : Int32 × Int32 × St) (y : Int32 × St) (h : fX7_comesTo_21 N l3 x = some y) (hq : QfX7_comesTo_21 (d + 1) res l3 y) : PfX7_comesTo_21 (d + 1) res l3 x := whl_ind _ _ (fun x z => rbfX7_comesTo_21 d N res l3 x z) N x y h hq
def bfX7_comesTo_12 (N : Nat) (x : Int32 × Int32 × St) : Option ((Int32 × Int32 × St) ⊕ ((Int32 × St))) := (if 8 ≤ x.2.1 then some (.inr (x.1, x.2.2)) else (fX7_comesTo_21 N x.2.1 (x.1, 0, x.2.2)).bind (fun y4 => some (.inl (y4.1, (x.2.1 + 1), y4.2))))
def fX7_comesTo_12 (N : Nat) (x : Int32 × Int32 × St) : Option ((Int32 × St)) := whl N (bfX7_comesTo_12 N ) x
set_option maxRecDepth 20000 in
theorem rbfX7_comesTo_12 (d N : Nat) (res : Option Value × am_S) (x : Int32 × Int32 × St) (z : (Int32 × Int32 × St) ⊕ ((Int32 × St))) (h : bfX7_comesTo_12 N x = some z) (hz : Sum.elim (PfX7_comesTo_12 (d + 1) res ) (QfX7_comesTo_12 (d + 1) res ) z) : PfX7_comesTo_12 (d + 1) res x := by
  unfold bfX7_comesTo_12 at h
  show ∀ (w1 w4 : Option Value), am_Rn (am_C (d + 1)) (am_ct 107) (am_rk 107) res (12, [some (.ref 0), w1, some (.int x.1), some (.int x.2.1), w4], [], am_T0 x.2.2)
  intro w1 w4
  refine am_Rn.op _ (13, [some (.ref 0), w1, some (.int x.1), some (.int x.2.1), w4], [.int x.2.1], am_T0 x.2.2) rfl rfl ?_
  refine am_Rn.op _ (15, [some (.ref 0), w1, some (.int x.1), some (.int x.2.1), w4], [.int 8, .int x.2.1], am_T0 x.2.2) rfl rfl ?_
  refine am_Rn.op _ (if 8 ≤ x.2.1 then 62 else 18, [some (.ref 0), w1, some (.int x.1), some (.int x.2.1), w4], [], am_T0 x.2.2) rfl rfl ?_
  rcases l2_i h with ⟨hc, h⟩ | ⟨hc, h⟩
  · refine am_Rn.ifT hc ?_
    refine am_Rn.op _ (63, [some (.ref 0), w1, some (.int x.1), some (.int x.2.1), w4], [.int x.1], am_T0 x.2.2) rfl rfl ?_
    cases h
    exact am_Rn.rt2 _ rfl rfl hz
  · refine am_Rn.ifF hc ?_
    refine am_Rn.op _ (19, [some (.ref 0), w1, some (.int x.1), some (.int x.2.1), w4], [.int 0], am_T0 x.2.2) rfl rfl ?_
    refine am_Rn.op _ (21, [some (.ref 0), w1, some (.int x.1), some (.int x.2.1), some (.int 0)], [], am_T0 x.2.2) rfl rfl ?_
    obtain ⟨y4, hy4, h⟩ := l2_b h
    refine rfX7_comesTo_21 d N _ x.2.1 (x.1, 0, x.2.2) y4 hy4 ?_ _
    intro w5 w6
    show am_Rn _ _ _ _ (56, [some (.ref 0), w5, some (.int y4.1), some (.int x.2.1), w6], [], am_T0 y4.2)
    refine am_Rn.op _ (59, [some (.ref 0), w5, some (.int y4.1), some (.int (x.2.1 + 1)), w6], [], am_T0 y4.2) rfl rfl ?_
    refine am_Rn.op _ (12, [some (.ref 0), w5, some (.int y4.1), some (.int (x.2.1 + 1)), w6], [], am_T0 y4.2) rfl rfl ?_
    cases h
    exact hz _ _
theorem rfX7_comesTo_12 (d N : Nat) (res : Option Value × am_S) (x : Int32 × Int32 × St) (y : (Int32 × St)) (h : fX7_comesTo_12 N x = some y) (hq : QfX7_comesTo_12 (d + 1) res y) : PfX7_comesTo_12 (d + 1) res x := whl_ind _ _ (fun x z => rbfX7_comesTo_12 d N res x z) N x y h hq
def fX7_comesTo (N : Nat) (l1 : Int32) (S : St) : Option (Int32 × St) := (if l1 < 0 ∨ 8 ≤ Int32.toNatClampNeg l1 then none else (fX5_calls N (S.2 (Int32.toNatClampNeg l1)) S).bind (fun q8 => (fX7_comesTo_12 N (q8.1, 0, q8.2)).bind (fun y9 => some (y9.1, y9.2))))
set_option maxRecDepth 20000 in
theorem rfX7_comesTo (d N : Nat) (l1 : Int32) (S : St) (z : (Int32 × St)) (h : fX7_comesTo N l1 S = some z) : am_C (d + 2) 107 [.ref 0, .int l1] (am_T0 S) (some (.int z.1), am_T0 z.2) := by
  unfold fX7_comesTo at h
  show am_Rn (am_C (d + 1)) (am_ct 107) (am_rk 107) (some (.int z.1), am_T0 z.2) (0, [some (.ref 0), some (.int l1), none, none, none], [], am_T0 S)
  refine am_Rn.op _ (1, [some (.ref 0), some (.int l1), none, none, none], [.ref 0], am_T0 S) rfl rfl ?_
  refine am_Rn.op _ (4, [some (.ref 0), some (.int l1), none, none, none], [.ref 16], am_T0 S) rfl rfl ?_
  refine am_Rn.op _ (5, [some (.ref 0), some (.int l1), none, none, none], [.int l1, .ref 16], am_T0 S) rfl rfl ?_
  obtain ⟨hb7, h⟩ := l2_n h
  refine am_Rn.aald rfl hb7 ?_
  show am_Rn _ _ _ _ (6, [some (.ref 0), some (.int l1), none, none, none], [.ref (TA (S.2 (Int32.toNatClampNeg l1)))], am_T0 S)
  obtain ⟨q8, hq8, h⟩ := l2_b h
  refine am_Rn.cl _ (some (.int q8.1)) (am_T0 q8.2) rfl (o_clv rfl rfl rfl (l2_isO (S.2 (Int32.toNatClampNeg l1)) S)) (rfX5_calls (d + 0) N (S.2 (Int32.toNatClampNeg l1)) S q8 hq8) ?_
  show am_Rn _ _ _ _ (9, [some (.ref 0), some (.int l1), none, none, none], [.int q8.1], am_T0 q8.2)
  refine am_Rn.op _ (10, [some (.ref 0), some (.int l1), some (.int q8.1), none, none], [], am_T0 q8.2) rfl rfl ?_
  refine am_Rn.op _ (11, [some (.ref 0), some (.int l1), some (.int q8.1), none, none], [.int 0], am_T0 q8.2) rfl rfl ?_
  refine am_Rn.op _ (12, [some (.ref 0), some (.int l1), some (.int q8.1), some (.int 0), none], [], am_T0 q8.2) rfl rfl ?_
  obtain ⟨y9, hy9, h⟩ := l2_b h
  refine rfX7_comesTo_12 d N _  (q8.1, 0, q8.2) y9 hy9 ?_ _ _
  cases h
  exact rfl
-- X7_forget
def PfX7_forget_6 (d : Nat) (res : Option Value × am_S) (l1 : Int32) (x : Int32 × Int32 × St) : Prop := am_Rn (am_C d) (am_ct 109) (am_rk 109) res (6, [some (.ref 0), some (.int l1), some (.int x.1), some (.int x.2.1)], [], am_T0 x.2.2)
def QfX7_forget_6 (d : Nat) (res : Option Value × am_S) (l1 : Int32) (y : St) : Prop := res = (none, am_T0 y)
def fX7_forget_30 (N : Nat) (l1 : Int32) (l2 : Int32) (l3 : Int32) (S : St) : Option ((Int32 × Int32 × St) ⊕ (St)) := some (.inl (l2, (l3 + 1), S))
set_option maxRecDepth 20000 in
theorem rfX7_forget_30 (d N : Nat) (res : Option Value × am_S) (l1 : Int32) (l2 : Int32) (l3 : Int32) (S : St) (z : (Int32 × Int32 × St) ⊕ (St)) (h : fX7_forget_30 N l1 l2 l3 S = some z) (hz : Sum.elim (PfX7_forget_6 (d + 2) res l1 ) (QfX7_forget_6 (d + 2) res l1 ) z) : am_Rn (am_C (d + 2)) (am_ct 109) (am_rk 109) res (30, [some (.ref 0), some (.int l1), some (.int l2), some (.int l3)], [], am_T0 S) := by
  unfold fX7_forget_30 at h
  refine am_Rn.op _ (33, [some (.ref 0), some (.int l1), some (.int l2), some (.int (l3 + 1))], [], am_T0 S) rfl rfl ?_
  refine am_Rn.op _ (6, [some (.ref 0), some (.int l1), some (.int l2), some (.int (l3 + 1))], [], am_T0 S) rfl rfl ?_
  cases h
  exact hz 
def bfX7_forget_6 (N : Nat) (l1 : Int32) (x : Int32 × Int32 × St) : Option ((Int32 × Int32 × St) ⊕ (St)) := (if 8 ≤ x.2.1 then some (.inr (st_i (st_i x.2.2 0 11 ((x.2.2.1 0 11) &&& (x.1 ^^^ (-1)))) 0 12 (((st_i x.2.2 0 11 ((x.2.2.1 0 11) &&& (x.1 ^^^ (-1)))).1 0 12) &&& (x.1 ^^^ (-1))))) else (fX7_comesTo N x.2.1 x.2.2).bind (fun q1 => (fX7_has N q1.1 l1 q1.2).bind (fun q2 => (if q2.1 = 0 then fX7_forget_30 N l1 x.1 x.2.1 q2.2 else fX7_forget_30 N l1 (x.1 ||| (1 <<< (x.2.1 &&& 31))) x.2.1 q2.2))))
def fX7_forget_6 (N : Nat) (l1 : Int32) (x : Int32 × Int32 × St) : Option (St) := whl N (bfX7_forget_6 N l1 ) x
set_option maxRecDepth 20000 in
theorem rbfX7_forget_6 (d N : Nat) (res : Option Value × am_S) (l1 : Int32) (x : Int32 × Int32 × St) (z : (Int32 × Int32 × St) ⊕ (St)) (h : bfX7_forget_6 N l1 x = some z) (hz : Sum.elim (PfX7_forget_6 (d + 2) res l1 ) (QfX7_forget_6 (d + 2) res l1 ) z) : PfX7_forget_6 (d + 2) res l1 x := by
  unfold bfX7_forget_6 at h
  show am_Rn (am_C (d + 2)) (am_ct 109) (am_rk 109) res (6, [some (.ref 0), some (.int l1), some (.int x.1), some (.int x.2.1)], [], am_T0 x.2.2)
  refine am_Rn.op _ (7, [some (.ref 0), some (.int l1), some (.int x.1), some (.int x.2.1)], [.int x.2.1], am_T0 x.2.2) rfl rfl ?_
  refine am_Rn.op _ (9, [some (.ref 0), some (.int l1), some (.int x.1), some (.int x.2.1)], [.int 8, .int x.2.1], am_T0 x.2.2) rfl rfl ?_
  refine am_Rn.op _ (if 8 ≤ x.2.1 then 36 else 12, [some (.ref 0), some (.int l1), some (.int x.1), some (.int x.2.1)], [], am_T0 x.2.2) rfl rfl ?_
  rcases l2_i h with ⟨hc, h⟩ | ⟨hc, h⟩
  · refine am_Rn.ifT hc ?_
    refine am_Rn.op _ (37, [some (.ref 0), some (.int l1), some (.int x.1), some (.int x.2.1)], [.ref 0], am_T0 x.2.2) rfl rfl ?_
    refine am_Rn.op _ (38, [some (.ref 0), some (.int l1), some (.int x.1), some (.int x.2.1)], [.ref 0, .ref 0], am_T0 x.2.2) rfl rfl ?_
    refine am_Rn.op _ (41, [some (.ref 0), some (.int l1), some (.int x.1), some (.int x.2.1)], [.int (x.2.2.1 0 11), .ref 0], am_T0 x.2.2) rfl rfl ?_
    refine am_Rn.op _ (42, [some (.ref 0), some (.int l1), some (.int x.1), some (.int x.2.1)], [.int x.1, .int (x.2.2.1 0 11), .ref 0], am_T0 x.2.2) rfl rfl ?_
    refine am_Rn.op _ (43, [some (.ref 0), some (.int l1), some (.int x.1), some (.int x.2.1)], [.int (-1), .int x.1, .int (x.2.2.1 0 11), .ref 0], am_T0 x.2.2) rfl rfl ?_
    refine am_Rn.op _ (44, [some (.ref 0), some (.int l1), some (.int x.1), some (.int x.2.1)], [.int (x.1 ^^^ (-1)), .int (x.2.2.1 0 11), .ref 0], am_T0 x.2.2) rfl rfl ?_
    refine am_Rn.op _ (45, [some (.ref 0), some (.int l1), some (.int x.1), some (.int x.2.1)], [.int ((x.2.2.1 0 11) &&& (x.1 ^^^ (-1))), .ref 0], am_T0 x.2.2) rfl rfl ?_
    refine am_Rn.op _ (48, [some (.ref 0), some (.int l1), some (.int x.1), some (.int x.2.1)], [], am_T0 (st_i x.2.2 0 11 ((x.2.2.1 0 11) &&& (x.1 ^^^ (-1))))) rfl rfl ?_
    refine am_Rn.op _ (49, [some (.ref 0), some (.int l1), some (.int x.1), some (.int x.2.1)], [.ref 0], am_T0 (st_i x.2.2 0 11 ((x.2.2.1 0 11) &&& (x.1 ^^^ (-1))))) rfl rfl ?_
    refine am_Rn.op _ (50, [some (.ref 0), some (.int l1), some (.int x.1), some (.int x.2.1)], [.ref 0, .ref 0], am_T0 (st_i x.2.2 0 11 ((x.2.2.1 0 11) &&& (x.1 ^^^ (-1))))) rfl rfl ?_
    refine am_Rn.op _ (53, [some (.ref 0), some (.int l1), some (.int x.1), some (.int x.2.1)], [.int ((st_i x.2.2 0 11 ((x.2.2.1 0 11) &&& (x.1 ^^^ (-1)))).1 0 12), .ref 0], am_T0 (st_i x.2.2 0 11 ((x.2.2.1 0 11) &&& (x.1 ^^^ (-1))))) rfl rfl ?_
    refine am_Rn.op _ (54, [some (.ref 0), some (.int l1), some (.int x.1), some (.int x.2.1)], [.int x.1, .int ((st_i x.2.2 0 11 ((x.2.2.1 0 11) &&& (x.1 ^^^ (-1)))).1 0 12), .ref 0], am_T0 (st_i x.2.2 0 11 ((x.2.2.1 0 11) &&& (x.1 ^^^ (-1))))) rfl rfl ?_
    refine am_Rn.op _ (55, [some (.ref 0), some (.int l1), some (.int x.1), some (.int x.2.1)], [.int (-1), .int x.1, .int ((st_i x.2.2 0 11 ((x.2.2.1 0 11) &&& (x.1 ^^^ (-1)))).1 0 12), .ref 0], am_T0 (st_i x.2.2 0 11 ((x.2.2.1 0 11) &&& (x.1 ^^^ (-1))))) rfl rfl ?_
    refine am_Rn.op _ (56, [some (.ref 0), some (.int l1), some (.int x.1), some (.int x.2.1)], [.int (x.1 ^^^ (-1)), .int ((st_i x.2.2 0 11 ((x.2.2.1 0 11) &&& (x.1 ^^^ (-1)))).1 0 12), .ref 0], am_T0 (st_i x.2.2 0 11 ((x.2.2.1 0 11) &&& (x.1 ^^^ (-1))))) rfl rfl ?_
    refine am_Rn.op _ (57, [some (.ref 0), some (.int l1), some (.int x.1), some (.int x.2.1)], [.int (((st_i x.2.2 0 11 ((x.2.2.1 0 11) &&& (x.1 ^^^ (-1)))).1 0 12) &&& (x.1 ^^^ (-1))), .ref 0], am_T0 (st_i x.2.2 0 11 ((x.2.2.1 0 11) &&& (x.1 ^^^ (-1))))) rfl rfl ?_
    refine am_Rn.op _ (60, [some (.ref 0), some (.int l1), some (.int x.1), some (.int x.2.1)], [], am_T0 (st_i (st_i x.2.2 0 11 ((x.2.2.1 0 11) &&& (x.1 ^^^ (-1)))) 0 12 (((st_i x.2.2 0 11 ((x.2.2.1 0 11) &&& (x.1 ^^^ (-1)))).1 0 12) &&& (x.1 ^^^ (-1))))) rfl rfl ?_
    cases h
    exact am_Rn.rt2 _ rfl rfl hz
  · refine am_Rn.ifF hc ?_
    refine am_Rn.op _ (13, [some (.ref 0), some (.int l1), some (.int x.1), some (.int x.2.1)], [.ref 0], am_T0 x.2.2) rfl rfl ?_
    refine am_Rn.op _ (14, [some (.ref 0), some (.int l1), some (.int x.1), some (.int x.2.1)], [.int x.2.1, .ref 0], am_T0 x.2.2) rfl rfl ?_
    obtain ⟨q1, hq1, h⟩ := l2_b h
    refine am_Rn.cl _ (some (.int q1.1)) (am_T0 q1.2) rfl rfl (rfX7_comesTo (d + 0) N x.2.1 x.2.2 q1 hq1) ?_
    show am_Rn _ _ _ _ (17, [some (.ref 0), some (.int l1), some (.int x.1), some (.int x.2.1)], [.int q1.1], am_T0 q1.2)
    refine am_Rn.op _ (18, [some (.ref 0), some (.int l1), some (.int x.1), some (.int x.2.1)], [.int l1, .int q1.1], am_T0 q1.2) rfl rfl ?_
    obtain ⟨q2, hq2, h⟩ := l2_b h
    refine am_Rn.cl _ (some (.int q2.1)) (am_T0 q2.2) rfl rfl (rfX7_has (d + 1) N q1.1 l1 q1.2 q2 hq2) ?_
    show am_Rn _ _ _ _ (21, [some (.ref 0), some (.int l1), some (.int x.1), some (.int x.2.1)], [.int q2.1], am_T0 q2.2)
    refine am_Rn.op _ (if q2.1 = 0 then 30 else 24, [some (.ref 0), some (.int l1), some (.int x.1), some (.int x.2.1)], [], am_T0 q2.2) rfl rfl ?_
    rcases l2_i h with ⟨hc, h⟩ | ⟨hc, h⟩
    · refine am_Rn.ifT hc ?_
      exact rfX7_forget_30 d N _ l1 x.1 x.2.1 q2.2 _ h hz 
    · refine am_Rn.ifF hc ?_
      refine am_Rn.op _ (25, [some (.ref 0), some (.int l1), some (.int x.1), some (.int x.2.1)], [.int x.1], am_T0 q2.2) rfl rfl ?_
      refine am_Rn.op _ (26, [some (.ref 0), some (.int l1), some (.int x.1), some (.int x.2.1)], [.int 1, .int x.1], am_T0 q2.2) rfl rfl ?_
      refine am_Rn.op _ (27, [some (.ref 0), some (.int l1), some (.int x.1), some (.int x.2.1)], [.int x.2.1, .int 1, .int x.1], am_T0 q2.2) rfl rfl ?_
      refine am_Rn.op _ (28, [some (.ref 0), some (.int l1), some (.int x.1), some (.int x.2.1)], [.int (1 <<< (x.2.1 &&& 31)), .int x.1], am_T0 q2.2) rfl rfl ?_
      refine am_Rn.op _ (29, [some (.ref 0), some (.int l1), some (.int x.1), some (.int x.2.1)], [.int (x.1 ||| (1 <<< (x.2.1 &&& 31)))], am_T0 q2.2) rfl rfl ?_
      refine am_Rn.op _ (30, [some (.ref 0), some (.int l1), some (.int (x.1 ||| (1 <<< (x.2.1 &&& 31)))), some (.int x.2.1)], [], am_T0 q2.2) rfl rfl ?_
      exact rfX7_forget_30 d N _ l1 (x.1 ||| (1 <<< (x.2.1 &&& 31))) x.2.1 q2.2 _ h hz 
theorem rfX7_forget_6 (d N : Nat) (res : Option Value × am_S) (l1 : Int32) (x : Int32 × Int32 × St) (y : St) (h : fX7_forget_6 N l1 x = some y) (hq : QfX7_forget_6 (d + 2) res l1 y) : PfX7_forget_6 (d + 2) res l1 x := whl_ind _ _ (fun x z => rbfX7_forget_6 d N res l1 x z) N x y h hq
def fX7_forget (N : Nat) (l1 : Int32) (S : St) : Option St := (fX7_forget_6 N l1 ((1 <<< (l1 &&& 31)), 0, S)).bind (fun y3 => some y3)
set_option maxRecDepth 20000 in
theorem rfX7_forget (d N : Nat) (l1 : Int32) (S : St) (z : St) (h : fX7_forget N l1 S = some z) : am_C (d + 3) 109 [.ref 0, .int l1] (am_T0 S) (none, am_T0 z) := by
  unfold fX7_forget at h
  show am_Rn (am_C (d + 2)) (am_ct 109) (am_rk 109) (none, am_T0 z) (0, [some (.ref 0), some (.int l1), none, none], [], am_T0 S)
  refine am_Rn.op _ (1, [some (.ref 0), some (.int l1), none, none], [.int 1], am_T0 S) rfl rfl ?_
  refine am_Rn.op _ (2, [some (.ref 0), some (.int l1), none, none], [.int l1, .int 1], am_T0 S) rfl rfl ?_
  refine am_Rn.op _ (3, [some (.ref 0), some (.int l1), none, none], [.int (1 <<< (l1 &&& 31))], am_T0 S) rfl rfl ?_
  refine am_Rn.op _ (4, [some (.ref 0), some (.int l1), some (.int (1 <<< (l1 &&& 31))), none], [], am_T0 S) rfl rfl ?_
  refine am_Rn.op _ (5, [some (.ref 0), some (.int l1), some (.int (1 <<< (l1 &&& 31))), none], [.int 0], am_T0 S) rfl rfl ?_
  refine am_Rn.op _ (6, [some (.ref 0), some (.int l1), some (.int (1 <<< (l1 &&& 31))), some (.int 0)], [], am_T0 S) rfl rfl ?_
  obtain ⟨y3, hy3, h⟩ := l2_b h
  refine rfX7_forget_6 d N _ l1 ((1 <<< (l1 &&& 31)), 0, S) y3 hy3 ?_ 
  cases h
  exact rfl
-- X7_text
def fX7_text (N : Nat) (l1 : Int32) (l2 : Int32) (S : St) : Option (Int32 × St) := (fX7_isRoutine N l1 S).bind (fun q1 => (if q1.1 = 0 then some ((-1), q1.2) else (if l2 < 0 then some ((-1), q1.2) else (if 60 < l2 then some ((-1), q1.2) else (fX4_size N q1.2).bind (fun q2 => (if l2 ≤ q2.1 then (fX5_copy N (q2.2.2 8) l2 q2.2).bind (fun q3 => (fX4_clear N q3).bind (fun q4 => (fX3_read N (q4.2 8) q4).bind (fun q5 => (fX3_number N q5).bind (fun q6 => (fX3_place N (st_i q6.2 0 9 q6.1)).bind (fun q7 => (if ((st_i q7.2 0 10 q7.1).1 0 9) = 0 then (if l1 < 0 ∨ 8 ≤ Int32.toNatClampNeg l1 then none else (if l1 < 0 ∨ 8 ≤ Int32.toNatClampNeg l1 then none else (fX7_forget N l1 (st_p (st_p (st_i q7.2 0 10 q7.1) (Int32.toNatClampNeg l1) ((st_i q7.2 0 10 q7.1).2 8)) 8 ((st_i q7.2 0 10 q7.1).2 (Int32.toNatClampNeg l1)))).bind (fun q10 => some (0, q10)))) else some (((100 * ((st_i q7.2 0 10 q7.1).1 0 9)) + ((st_i q7.2 0 10 q7.1).1 0 10)), (st_i q7.2 0 10 q7.1)))))))) else some ((-1), q2.2)))))))
set_option maxRecDepth 20000 in
theorem rfX7_text (d N : Nat) (l1 : Int32) (l2 : Int32) (S : St) (z : (Int32 × St)) (h : fX7_text N l1 l2 S = some z) : am_C (d + 45) 84 [.ref 0, .int l1, .int l2] (am_T0 S) (some (.int z.1), am_T0 z.2) := by
  unfold fX7_text at h
  show am_Rn (am_C (d + 44)) (am_ct 84) (am_rk 84) (some (.int z.1), am_T0 z.2) (0, [some (.ref 0), some (.int l1), some (.int l2), none], [], am_T0 S)
  refine am_Rn.op _ (1, [some (.ref 0), some (.int l1), some (.int l2), none], [.int l1], am_T0 S) rfl rfl ?_
  obtain ⟨q1, hq1, h⟩ := l2_b h
  refine am_Rn.cl _ (some (.int q1.1)) (am_T0 q1.2) rfl rfl (rfX7_isRoutine (d + 43) N l1 S q1 hq1) ?_
  show am_Rn _ _ _ _ (4, [some (.ref 0), some (.int l1), some (.int l2), none], [.int q1.1], am_T0 q1.2)
  refine am_Rn.op _ (if q1.1 = 0 then 28 else 7, [some (.ref 0), some (.int l1), some (.int l2), none], [], am_T0 q1.2) rfl rfl ?_
  rcases l2_i h with ⟨hc, h⟩ | ⟨hc, h⟩
  · refine am_Rn.ifT hc ?_
    refine am_Rn.op _ (29, [some (.ref 0), some (.int l1), some (.int l2), none], [.int (-1)], am_T0 q1.2) rfl rfl ?_
    cases h
    exact am_Rn.rt _ rfl rfl
  · refine am_Rn.ifF hc ?_
    refine am_Rn.op _ (8, [some (.ref 0), some (.int l1), some (.int l2), none], [.int l2], am_T0 q1.2) rfl rfl ?_
    refine am_Rn.op _ (if l2 < 0 then 28 else 11, [some (.ref 0), some (.int l1), some (.int l2), none], [], am_T0 q1.2) rfl rfl ?_
    rcases l2_i h with ⟨hc, h⟩ | ⟨hc, h⟩
    · refine am_Rn.ifT hc ?_
      refine am_Rn.op _ (29, [some (.ref 0), some (.int l1), some (.int l2), none], [.int (-1)], am_T0 q1.2) rfl rfl ?_
      cases h
      exact am_Rn.rt _ rfl rfl
    · refine am_Rn.ifF hc ?_
      refine am_Rn.op _ (12, [some (.ref 0), some (.int l1), some (.int l2), none], [.int l2], am_T0 q1.2) rfl rfl ?_
      refine am_Rn.op _ (14, [some (.ref 0), some (.int l1), some (.int l2), none], [.int 60, .int l2], am_T0 q1.2) rfl rfl ?_
      refine am_Rn.op _ (if 60 < l2 then 28 else 17, [some (.ref 0), some (.int l1), some (.int l2), none], [], am_T0 q1.2) rfl rfl ?_
      rcases l2_i h with ⟨hc, h⟩ | ⟨hc, h⟩
      · refine am_Rn.ifT hc ?_
        refine am_Rn.op _ (29, [some (.ref 0), some (.int l1), some (.int l2), none], [.int (-1)], am_T0 q1.2) rfl rfl ?_
        cases h
        exact am_Rn.rt _ rfl rfl
      · refine am_Rn.ifF hc ?_
        refine am_Rn.op _ (18, [some (.ref 0), some (.int l1), some (.int l2), none], [.int l2], am_T0 q1.2) rfl rfl ?_
        refine am_Rn.op _ (19, [some (.ref 0), some (.int l1), some (.int l2), none], [.ref 0, .int l2], am_T0 q1.2) rfl rfl ?_
        refine am_Rn.op _ (22, [some (.ref 0), some (.int l1), some (.int l2), none], [.ref 1, .int l2], am_T0 q1.2) rfl rfl ?_
        obtain ⟨q2, hq2, h⟩ := l2_b h
        refine am_Rn.cl _ (some (.int q2.1)) (am_T0 q2.2) rfl rfl (rfX4_size (d + 43) N q1.2 q2 hq2) ?_
        show am_Rn _ _ _ _ (25, [some (.ref 0), some (.int l1), some (.int l2), none], [.int q2.1, .int l2], am_T0 q2.2)
        refine am_Rn.op _ (if l2 ≤ q2.1 then 30 else 28, [some (.ref 0), some (.int l1), some (.int l2), none], [], am_T0 q2.2) rfl rfl ?_
        rcases l2_i h with ⟨hc, h⟩ | ⟨hc, h⟩
        · refine am_Rn.ifT hc ?_
          refine am_Rn.op _ (31, [some (.ref 0), some (.int l1), some (.int l2), none], [.ref 0], am_T0 q2.2) rfl rfl ?_
          refine am_Rn.op _ (34, [some (.ref 0), some (.int l1), some (.int l2), none], [.ref (TA (q2.2.2 8))], am_T0 q2.2) rfl rfl ?_
          refine am_Rn.op _ (35, [some (.ref 0), some (.int l1), some (.int l2), none], [.ref 0, .ref (TA (q2.2.2 8))], am_T0 q2.2) rfl rfl ?_
          refine am_Rn.op _ (38, [some (.ref 0), some (.int l1), some (.int l2), none], [.ref 1, .ref (TA (q2.2.2 8))], am_T0 q2.2) rfl rfl ?_
          refine am_Rn.op _ (39, [some (.ref 0), some (.int l1), some (.int l2), none], [.int l2, .ref 1, .ref (TA (q2.2.2 8))], am_T0 q2.2) rfl rfl ?_
          obtain ⟨q3, hq3, h⟩ := l2_b h
          refine am_Rn.cl _ none (am_T0 q3) rfl (o_clv rfl rfl rfl (l2_isO (q2.2.2 8) q2.2)) (rfX5_copy (d + 42) N (q2.2.2 8) l2 q2.2 q3 hq3) ?_
          show am_Rn _ _ _ _ (42, [some (.ref 0), some (.int l1), some (.int l2), none], [], am_T0 q3)
          refine am_Rn.op _ (43, [some (.ref 0), some (.int l1), some (.int l2), none], [.ref 0], am_T0 q3) rfl rfl ?_
          refine am_Rn.op _ (46, [some (.ref 0), some (.int l1), some (.int l2), none], [.ref 1], am_T0 q3) rfl rfl ?_
          obtain ⟨q4, hq4, h⟩ := l2_b h
          refine am_Rn.cl _ none (am_T0 q4) rfl rfl (rfX4_clear (d + 43) N q3 q4 hq4) ?_
          show am_Rn _ _ _ _ (49, [some (.ref 0), some (.int l1), some (.int l2), none], [], am_T0 q4)
          refine am_Rn.op _ (50, [some (.ref 0), some (.int l1), some (.int l2), none], [.ref 0], am_T0 q4) rfl rfl ?_
          refine am_Rn.op _ (53, [some (.ref 0), some (.int l1), some (.int l2), none], [.ref 3], am_T0 q4) rfl rfl ?_
          refine am_Rn.op _ (54, [some (.ref 0), some (.int l1), some (.int l2), none], [.ref 0, .ref 3], am_T0 q4) rfl rfl ?_
          refine am_Rn.op _ (57, [some (.ref 0), some (.int l1), some (.int l2), none], [.ref (TA (q4.2 8)), .ref 3], am_T0 q4) rfl rfl ?_
          obtain ⟨q5, hq5, h⟩ := l2_b h
          refine am_Rn.cl _ none (am_T0 q5) rfl rfl (rfX3_read (d + 0) N (q4.2 8) q4 q5 hq5) ?_
          show am_Rn _ _ _ _ (60, [some (.ref 0), some (.int l1), some (.int l2), none], [], am_T0 q5)
          refine am_Rn.op _ (61, [some (.ref 0), some (.int l1), some (.int l2), none], [.ref 0], am_T0 q5) rfl rfl ?_
          refine am_Rn.op _ (62, [some (.ref 0), some (.int l1), some (.int l2), none], [.ref 0, .ref 0], am_T0 q5) rfl rfl ?_
          refine am_Rn.op _ (65, [some (.ref 0), some (.int l1), some (.int l2), none], [.ref 3, .ref 0], am_T0 q5) rfl rfl ?_
          obtain ⟨q6, hq6, h⟩ := l2_b h
          refine am_Rn.cl _ (some (.int q6.1)) (am_T0 q6.2) rfl rfl (rfX3_number (d + 43) N q5 q6 hq6) ?_
          show am_Rn _ _ _ _ (68, [some (.ref 0), some (.int l1), some (.int l2), none], [.int q6.1, .ref 0], am_T0 q6.2)
          refine am_Rn.op _ (71, [some (.ref 0), some (.int l1), some (.int l2), none], [], am_T0 (st_i q6.2 0 9 q6.1)) rfl rfl ?_
          refine am_Rn.op _ (72, [some (.ref 0), some (.int l1), some (.int l2), none], [.ref 0], am_T0 (st_i q6.2 0 9 q6.1)) rfl rfl ?_
          refine am_Rn.op _ (73, [some (.ref 0), some (.int l1), some (.int l2), none], [.ref 0, .ref 0], am_T0 (st_i q6.2 0 9 q6.1)) rfl rfl ?_
          refine am_Rn.op _ (76, [some (.ref 0), some (.int l1), some (.int l2), none], [.ref 3, .ref 0], am_T0 (st_i q6.2 0 9 q6.1)) rfl rfl ?_
          obtain ⟨q7, hq7, h⟩ := l2_b h
          refine am_Rn.cl _ (some (.int q7.1)) (am_T0 q7.2) rfl rfl (rfX3_place (d + 43) N (st_i q6.2 0 9 q6.1) q7 hq7) ?_
          show am_Rn _ _ _ _ (79, [some (.ref 0), some (.int l1), some (.int l2), none], [.int q7.1, .ref 0], am_T0 q7.2)
          refine am_Rn.op _ (82, [some (.ref 0), some (.int l1), some (.int l2), none], [], am_T0 (st_i q7.2 0 10 q7.1)) rfl rfl ?_
          refine am_Rn.op _ (83, [some (.ref 0), some (.int l1), some (.int l2), none], [.ref 0], am_T0 (st_i q7.2 0 10 q7.1)) rfl rfl ?_
          refine am_Rn.op _ (86, [some (.ref 0), some (.int l1), some (.int l2), none], [.int ((st_i q7.2 0 10 q7.1).1 0 9)], am_T0 (st_i q7.2 0 10 q7.1)) rfl rfl ?_
          refine am_Rn.op _ (if ((st_i q7.2 0 10 q7.1).1 0 9) = 0 then 102 else 89, [some (.ref 0), some (.int l1), some (.int l2), none], [], am_T0 (st_i q7.2 0 10 q7.1)) rfl rfl ?_
          rcases l2_i h with ⟨hc, h⟩ | ⟨hc, h⟩
          · refine am_Rn.ifT hc ?_
            refine am_Rn.op _ (103, [some (.ref 0), some (.int l1), some (.int l2), none], [.ref 0], am_T0 (st_i q7.2 0 10 q7.1)) rfl rfl ?_
            refine am_Rn.op _ (106, [some (.ref 0), some (.int l1), some (.int l2), none], [.ref 16], am_T0 (st_i q7.2 0 10 q7.1)) rfl rfl ?_
            refine am_Rn.op _ (107, [some (.ref 0), some (.int l1), some (.int l2), none], [.int l1, .ref 16], am_T0 (st_i q7.2 0 10 q7.1)) rfl rfl ?_
            obtain ⟨hb8, h⟩ := l2_n h
            refine am_Rn.aald rfl hb8 ?_
            show am_Rn _ _ _ _ (108, [some (.ref 0), some (.int l1), some (.int l2), none], [.ref (TA ((st_i q7.2 0 10 q7.1).2 (Int32.toNatClampNeg l1)))], am_T0 (st_i q7.2 0 10 q7.1))
            refine am_Rn.op _ (109, [some (.ref 0), some (.int l1), some (.int l2), some (.ref (TA ((st_i q7.2 0 10 q7.1).2 (Int32.toNatClampNeg l1))))], [], am_T0 (st_i q7.2 0 10 q7.1)) rfl rfl ?_
            refine am_Rn.op _ (110, [some (.ref 0), some (.int l1), some (.int l2), some (.ref (TA ((st_i q7.2 0 10 q7.1).2 (Int32.toNatClampNeg l1))))], [.ref 0], am_T0 (st_i q7.2 0 10 q7.1)) rfl rfl ?_
            refine am_Rn.op _ (113, [some (.ref 0), some (.int l1), some (.int l2), some (.ref (TA ((st_i q7.2 0 10 q7.1).2 (Int32.toNatClampNeg l1))))], [.ref 16], am_T0 (st_i q7.2 0 10 q7.1)) rfl rfl ?_
            refine am_Rn.op _ (114, [some (.ref 0), some (.int l1), some (.int l2), some (.ref (TA ((st_i q7.2 0 10 q7.1).2 (Int32.toNatClampNeg l1))))], [.int l1, .ref 16], am_T0 (st_i q7.2 0 10 q7.1)) rfl rfl ?_
            refine am_Rn.op _ (115, [some (.ref 0), some (.int l1), some (.int l2), some (.ref (TA ((st_i q7.2 0 10 q7.1).2 (Int32.toNatClampNeg l1))))], [.ref 0, .int l1, .ref 16], am_T0 (st_i q7.2 0 10 q7.1)) rfl rfl ?_
            refine am_Rn.op _ (118, [some (.ref 0), some (.int l1), some (.int l2), some (.ref (TA ((st_i q7.2 0 10 q7.1).2 (Int32.toNatClampNeg l1))))], [.ref (TA ((st_i q7.2 0 10 q7.1).2 8)), .int l1, .ref 16], am_T0 (st_i q7.2 0 10 q7.1)) rfl rfl ?_
            obtain ⟨hb9, h⟩ := l2_n h
            refine am_Rn.aast rfl hb9 ?_
            show am_Rn _ _ _ _ (119, [some (.ref 0), some (.int l1), some (.int l2), some (.ref (TA ((st_i q7.2 0 10 q7.1).2 (Int32.toNatClampNeg l1))))], [], am_T0 (st_p (st_i q7.2 0 10 q7.1) (Int32.toNatClampNeg l1) ((st_i q7.2 0 10 q7.1).2 8)))
            refine am_Rn.op _ (120, [some (.ref 0), some (.int l1), some (.int l2), some (.ref (TA ((st_i q7.2 0 10 q7.1).2 (Int32.toNatClampNeg l1))))], [.ref 0], am_T0 (st_p (st_i q7.2 0 10 q7.1) (Int32.toNatClampNeg l1) ((st_i q7.2 0 10 q7.1).2 8))) rfl rfl ?_
            refine am_Rn.op _ (121, [some (.ref 0), some (.int l1), some (.int l2), some (.ref (TA ((st_i q7.2 0 10 q7.1).2 (Int32.toNatClampNeg l1))))], [.ref (TA ((st_i q7.2 0 10 q7.1).2 (Int32.toNatClampNeg l1))), .ref 0], am_T0 (st_p (st_i q7.2 0 10 q7.1) (Int32.toNatClampNeg l1) ((st_i q7.2 0 10 q7.1).2 8))) rfl rfl ?_
            refine am_Rn.op _ (124, [some (.ref 0), some (.int l1), some (.int l2), some (.ref (TA ((st_i q7.2 0 10 q7.1).2 (Int32.toNatClampNeg l1))))], [], ((st_p (st_i q7.2 0 10 q7.1) (Int32.toNatClampNeg l1) ((st_i q7.2 0 10 q7.1).2 8)).1, am_u2 (PP (st_p (st_i q7.2 0 10 q7.1) (Int32.toNatClampNeg l1) ((st_i q7.2 0 10 q7.1).2 8)).2) 0 8 (some (TA ((st_i q7.2 0 10 q7.1).2 (Int32.toNatClampNeg l1)))), 148)) rfl rfl ?_
            rw [l2_put (j := 8) rfl]
            show am_Rn _ _ _ _ (124, [some (.ref 0), some (.int l1), some (.int l2), some (.ref (TA ((st_i q7.2 0 10 q7.1).2 (Int32.toNatClampNeg l1))))], [], am_T0 (st_p (st_p (st_i q7.2 0 10 q7.1) (Int32.toNatClampNeg l1) ((st_i q7.2 0 10 q7.1).2 8)) 8 ((st_i q7.2 0 10 q7.1).2 (Int32.toNatClampNeg l1))))
            refine am_Rn.op _ (125, [some (.ref 0), some (.int l1), some (.int l2), some (.ref (TA ((st_i q7.2 0 10 q7.1).2 (Int32.toNatClampNeg l1))))], [.ref 0], am_T0 (st_p (st_p (st_i q7.2 0 10 q7.1) (Int32.toNatClampNeg l1) ((st_i q7.2 0 10 q7.1).2 8)) 8 ((st_i q7.2 0 10 q7.1).2 (Int32.toNatClampNeg l1)))) rfl rfl ?_
            refine am_Rn.op _ (126, [some (.ref 0), some (.int l1), some (.int l2), some (.ref (TA ((st_i q7.2 0 10 q7.1).2 (Int32.toNatClampNeg l1))))], [.int l1, .ref 0], am_T0 (st_p (st_p (st_i q7.2 0 10 q7.1) (Int32.toNatClampNeg l1) ((st_i q7.2 0 10 q7.1).2 8)) 8 ((st_i q7.2 0 10 q7.1).2 (Int32.toNatClampNeg l1)))) rfl rfl ?_
            obtain ⟨q10, hq10, h⟩ := l2_b h
            refine am_Rn.cl _ none (am_T0 q10) rfl rfl (rfX7_forget (d + 41) N l1 (st_p (st_p (st_i q7.2 0 10 q7.1) (Int32.toNatClampNeg l1) ((st_i q7.2 0 10 q7.1).2 8)) 8 ((st_i q7.2 0 10 q7.1).2 (Int32.toNatClampNeg l1))) q10 hq10) ?_
            show am_Rn _ _ _ _ (129, [some (.ref 0), some (.int l1), some (.int l2), some (.ref (TA ((st_i q7.2 0 10 q7.1).2 (Int32.toNatClampNeg l1))))], [], am_T0 q10)
            refine am_Rn.op _ (130, [some (.ref 0), some (.int l1), some (.int l2), some (.ref (TA ((st_i q7.2 0 10 q7.1).2 (Int32.toNatClampNeg l1))))], [.int 0], am_T0 q10) rfl rfl ?_
            cases h
            exact am_Rn.rt _ rfl rfl
          · refine am_Rn.ifF hc ?_
            refine am_Rn.op _ (91, [some (.ref 0), some (.int l1), some (.int l2), none], [.int 100], am_T0 (st_i q7.2 0 10 q7.1)) rfl rfl ?_
            refine am_Rn.op _ (92, [some (.ref 0), some (.int l1), some (.int l2), none], [.ref 0, .int 100], am_T0 (st_i q7.2 0 10 q7.1)) rfl rfl ?_
            refine am_Rn.op _ (95, [some (.ref 0), some (.int l1), some (.int l2), none], [.int ((st_i q7.2 0 10 q7.1).1 0 9), .int 100], am_T0 (st_i q7.2 0 10 q7.1)) rfl rfl ?_
            refine am_Rn.op _ (96, [some (.ref 0), some (.int l1), some (.int l2), none], [.int (100 * ((st_i q7.2 0 10 q7.1).1 0 9))], am_T0 (st_i q7.2 0 10 q7.1)) rfl rfl ?_
            refine am_Rn.op _ (97, [some (.ref 0), some (.int l1), some (.int l2), none], [.ref 0, .int (100 * ((st_i q7.2 0 10 q7.1).1 0 9))], am_T0 (st_i q7.2 0 10 q7.1)) rfl rfl ?_
            refine am_Rn.op _ (100, [some (.ref 0), some (.int l1), some (.int l2), none], [.int ((st_i q7.2 0 10 q7.1).1 0 10), .int (100 * ((st_i q7.2 0 10 q7.1).1 0 9))], am_T0 (st_i q7.2 0 10 q7.1)) rfl rfl ?_
            refine am_Rn.op _ (101, [some (.ref 0), some (.int l1), some (.int l2), none], [.int ((100 * ((st_i q7.2 0 10 q7.1).1 0 9)) + ((st_i q7.2 0 10 q7.1).1 0 10))], am_T0 (st_i q7.2 0 10 q7.1)) rfl rfl ?_
            cases h
            exact am_Rn.rt _ rfl rfl
        · refine am_Rn.ifF hc ?_
          refine am_Rn.op _ (29, [some (.ref 0), some (.int l1), some (.int l2), none], [.int (-1)], am_T0 q2.2) rfl rfl ?_
          cases h
          exact am_Rn.rt _ rfl rfl
-- X7_under
def fX7_under (N : Nat) (l1 : Int32) (l2 : Int32) (S : St) : Option (Int32 × St) := (fX1_place N l1 l2 S).bind (fun q1 => (if q1.1 = 0 then some (0, q1.2) else some (1, (st_i (st_i q1.2 0 11 0) 0 12 0))))
set_option maxRecDepth 20000 in
theorem rfX7_under (d N : Nat) (l1 : Int32) (l2 : Int32) (S : St) (z : (Int32 × St)) (h : fX7_under N l1 l2 S = some z) : am_C (d + 4) 85 [.ref 0, .int l1, .int l2] (am_T0 S) (some (.int z.1), am_T0 z.2) := by
  unfold fX7_under at h
  show am_Rn (am_C (d + 3)) (am_ct 85) (am_rk 85) (some (.int z.1), am_T0 z.2) (0, [some (.ref 0), some (.int l1), some (.int l2)], [], am_T0 S)
  refine am_Rn.op _ (1, [some (.ref 0), some (.int l1), some (.int l2)], [.ref 0], am_T0 S) rfl rfl ?_
  refine am_Rn.op _ (4, [some (.ref 0), some (.int l1), some (.int l2)], [.ref 13], am_T0 S) rfl rfl ?_
  refine am_Rn.op _ (5, [some (.ref 0), some (.int l1), some (.int l2)], [.int l1, .ref 13], am_T0 S) rfl rfl ?_
  refine am_Rn.op _ (6, [some (.ref 0), some (.int l1), some (.int l2)], [.int l2, .int l1, .ref 13], am_T0 S) rfl rfl ?_
  obtain ⟨q1, hq1, h⟩ := l2_b h
  refine am_Rn.cl _ (some (.int q1.1)) (am_T0 q1.2) rfl rfl (rfX1_place (d + 0) N l1 l2 S q1 hq1) ?_
  show am_Rn _ _ _ _ (9, [some (.ref 0), some (.int l1), some (.int l2)], [.int q1.1], am_T0 q1.2)
  refine am_Rn.op _ (if q1.1 = 0 then 12 else 14, [some (.ref 0), some (.int l1), some (.int l2)], [], am_T0 q1.2) rfl rfl ?_
  rcases l2_i h with ⟨hc, h⟩ | ⟨hc, h⟩
  · refine am_Rn.ifT hc ?_
    refine am_Rn.op _ (13, [some (.ref 0), some (.int l1), some (.int l2)], [.int 0], am_T0 q1.2) rfl rfl ?_
    cases h
    exact am_Rn.rt _ rfl rfl
  · refine am_Rn.ifF hc ?_
    refine am_Rn.op _ (15, [some (.ref 0), some (.int l1), some (.int l2)], [.ref 0], am_T0 q1.2) rfl rfl ?_
    refine am_Rn.op _ (16, [some (.ref 0), some (.int l1), some (.int l2)], [.int 0, .ref 0], am_T0 q1.2) rfl rfl ?_
    refine am_Rn.op _ (19, [some (.ref 0), some (.int l1), some (.int l2)], [], am_T0 (st_i q1.2 0 11 0)) rfl rfl ?_
    refine am_Rn.op _ (20, [some (.ref 0), some (.int l1), some (.int l2)], [.ref 0], am_T0 (st_i q1.2 0 11 0)) rfl rfl ?_
    refine am_Rn.op _ (21, [some (.ref 0), some (.int l1), some (.int l2)], [.int 0, .ref 0], am_T0 (st_i q1.2 0 11 0)) rfl rfl ?_
    refine am_Rn.op _ (24, [some (.ref 0), some (.int l1), some (.int l2)], [], am_T0 (st_i (st_i q1.2 0 11 0) 0 12 0)) rfl rfl ?_
    refine am_Rn.op _ (25, [some (.ref 0), some (.int l1), some (.int l2)], [.int 1], am_T0 (st_i (st_i q1.2 0 11 0) 0 12 0)) rfl rfl ?_
    cases h
    exact am_Rn.rt _ rfl rfl
-- X7_promise
def fX7_promise (N : Nat) (l1 : Int32) (l2 : Int32) (S : St) : Option (Int32 × St) := (fX7_isRoutine N l1 S).bind (fun q1 => (if q1.1 = 0 then some (0, q1.2) else (if l2 < 0 then some (0, q1.2) else (if l2 < 64 then (if l1 < 0 ∨ 8 ≤ Int32.toNatClampNeg l1 then none else some (1, (st_i q1.2 17 (Int32.toNatClampNeg l1) l2))) else some (0, q1.2)))))
set_option maxRecDepth 20000 in
theorem rfX7_promise (d N : Nat) (l1 : Int32) (l2 : Int32) (S : St) (z : (Int32 × St)) (h : fX7_promise N l1 l2 S = some z) : am_C (d + 2) 86 [.ref 0, .int l1, .int l2] (am_T0 S) (some (.int z.1), am_T0 z.2) := by
  unfold fX7_promise at h
  show am_Rn (am_C (d + 1)) (am_ct 86) (am_rk 86) (some (.int z.1), am_T0 z.2) (0, [some (.ref 0), some (.int l1), some (.int l2)], [], am_T0 S)
  refine am_Rn.op _ (1, [some (.ref 0), some (.int l1), some (.int l2)], [.int l1], am_T0 S) rfl rfl ?_
  obtain ⟨q1, hq1, h⟩ := l2_b h
  refine am_Rn.cl _ (some (.int q1.1)) (am_T0 q1.2) rfl rfl (rfX7_isRoutine (d + 0) N l1 S q1 hq1) ?_
  show am_Rn _ _ _ _ (4, [some (.ref 0), some (.int l1), some (.int l2)], [.int q1.1], am_T0 q1.2)
  refine am_Rn.op _ (if q1.1 = 0 then 17 else 7, [some (.ref 0), some (.int l1), some (.int l2)], [], am_T0 q1.2) rfl rfl ?_
  rcases l2_i h with ⟨hc, h⟩ | ⟨hc, h⟩
  · refine am_Rn.ifT hc ?_
    refine am_Rn.op _ (18, [some (.ref 0), some (.int l1), some (.int l2)], [.int 0], am_T0 q1.2) rfl rfl ?_
    cases h
    exact am_Rn.rt _ rfl rfl
  · refine am_Rn.ifF hc ?_
    refine am_Rn.op _ (8, [some (.ref 0), some (.int l1), some (.int l2)], [.int l2], am_T0 q1.2) rfl rfl ?_
    refine am_Rn.op _ (if l2 < 0 then 17 else 11, [some (.ref 0), some (.int l1), some (.int l2)], [], am_T0 q1.2) rfl rfl ?_
    rcases l2_i h with ⟨hc, h⟩ | ⟨hc, h⟩
    · refine am_Rn.ifT hc ?_
      refine am_Rn.op _ (18, [some (.ref 0), some (.int l1), some (.int l2)], [.int 0], am_T0 q1.2) rfl rfl ?_
      cases h
      exact am_Rn.rt _ rfl rfl
    · refine am_Rn.ifF hc ?_
      refine am_Rn.op _ (12, [some (.ref 0), some (.int l1), some (.int l2)], [.int l2], am_T0 q1.2) rfl rfl ?_
      refine am_Rn.op _ (14, [some (.ref 0), some (.int l1), some (.int l2)], [.int 64, .int l2], am_T0 q1.2) rfl rfl ?_
      refine am_Rn.op _ (if l2 < 64 then 19 else 17, [some (.ref 0), some (.int l1), some (.int l2)], [], am_T0 q1.2) rfl rfl ?_
      rcases l2_i h with ⟨hc, h⟩ | ⟨hc, h⟩
      · refine am_Rn.ifT hc ?_
        refine am_Rn.op _ (20, [some (.ref 0), some (.int l1), some (.int l2)], [.ref 0], am_T0 q1.2) rfl rfl ?_
        refine am_Rn.op _ (23, [some (.ref 0), some (.int l1), some (.int l2)], [.ref 17], am_T0 q1.2) rfl rfl ?_
        refine am_Rn.op _ (24, [some (.ref 0), some (.int l1), some (.int l2)], [.int l1, .ref 17], am_T0 q1.2) rfl rfl ?_
        refine am_Rn.op _ (25, [some (.ref 0), some (.int l1), some (.int l2)], [.int l2, .int l1, .ref 17], am_T0 q1.2) rfl rfl ?_
        obtain ⟨hb2, h⟩ := l2_n h
        refine am_Rn.iast (n := 8) rfl rfl hb2 ?_
        show am_Rn _ _ _ _ (26, [some (.ref 0), some (.int l1), some (.int l2)], [], am_T0 (st_i q1.2 17 (Int32.toNatClampNeg l1) l2))
        refine am_Rn.op _ (27, [some (.ref 0), some (.int l1), some (.int l2)], [.int 1], am_T0 (st_i q1.2 17 (Int32.toNatClampNeg l1) l2)) rfl rfl ?_
        cases h
        exact am_Rn.rt _ rfl rfl
      · refine am_Rn.ifF hc ?_
        refine am_Rn.op _ (18, [some (.ref 0), some (.int l1), some (.int l2)], [.int 0], am_T0 q1.2) rfl rfl ?_
        cases h
        exact am_Rn.rt _ rfl rfl
-- X7_callersOf
def PfX7_callersOf_4 (d : Nat) (res : Option Value × am_S) (l1 : Int32) (x : Int32 × Int32 × St) : Prop := am_Rn (am_C d) (am_ct 108) (am_rk 108) res (4, [some (.ref 0), some (.int l1), some (.int x.1), some (.int x.2.1)], [], am_T0 x.2.2)
def QfX7_callersOf_4 (d : Nat) (res : Option Value × am_S) (l1 : Int32) (y : (Int32 × St)) : Prop := res = (some (.int y.1), am_T0 y.2)
def fX7_callersOf_32 (N : Nat) (l1 : Int32) (l2 : Int32) (l3 : Int32) (S : St) : Option ((Int32 × Int32 × St) ⊕ ((Int32 × St))) := some (.inl (l2, (l3 + 1), S))
set_option maxRecDepth 20000 in
theorem rfX7_callersOf_32 (d N : Nat) (res : Option Value × am_S) (l1 : Int32) (l2 : Int32) (l3 : Int32) (S : St) (z : (Int32 × Int32 × St) ⊕ ((Int32 × St))) (h : fX7_callersOf_32 N l1 l2 l3 S = some z) (hz : Sum.elim (PfX7_callersOf_4 (d + 1) res l1 ) (QfX7_callersOf_4 (d + 1) res l1 ) z) : am_Rn (am_C (d + 1)) (am_ct 108) (am_rk 108) res (32, [some (.ref 0), some (.int l1), some (.int l2), some (.int l3)], [], am_T0 S) := by
  unfold fX7_callersOf_32 at h
  refine am_Rn.op _ (35, [some (.ref 0), some (.int l1), some (.int l2), some (.int (l3 + 1))], [], am_T0 S) rfl rfl ?_
  refine am_Rn.op _ (4, [some (.ref 0), some (.int l1), some (.int l2), some (.int (l3 + 1))], [], am_T0 S) rfl rfl ?_
  cases h
  exact hz 
def bfX7_callersOf_4 (N : Nat) (l1 : Int32) (x : Int32 × Int32 × St) : Option ((Int32 × Int32 × St) ⊕ ((Int32 × St))) := (if 8 ≤ x.2.1 then some (.inr (x.1, x.2.2)) else (if x.2.1 < 0 ∨ 8 ≤ Int32.toNatClampNeg x.2.1 then none else (fX5_calls N (x.2.2.2 (Int32.toNatClampNeg x.2.1)) x.2.2).bind (fun q2 => (fX7_has N q2.1 l1 q2.2).bind (fun q3 => (if q3.1 = 0 then fX7_callersOf_32 N l1 x.1 x.2.1 q3.2 else fX7_callersOf_32 N l1 (x.1 ||| (1 <<< (x.2.1 &&& 31))) x.2.1 q3.2)))))
def fX7_callersOf_4 (N : Nat) (l1 : Int32) (x : Int32 × Int32 × St) : Option ((Int32 × St)) := whl N (bfX7_callersOf_4 N l1 ) x
set_option maxRecDepth 20000 in
theorem rbfX7_callersOf_4 (d N : Nat) (res : Option Value × am_S) (l1 : Int32) (x : Int32 × Int32 × St) (z : (Int32 × Int32 × St) ⊕ ((Int32 × St))) (h : bfX7_callersOf_4 N l1 x = some z) (hz : Sum.elim (PfX7_callersOf_4 (d + 1) res l1 ) (QfX7_callersOf_4 (d + 1) res l1 ) z) : PfX7_callersOf_4 (d + 1) res l1 x := by
  unfold bfX7_callersOf_4 at h
  show am_Rn (am_C (d + 1)) (am_ct 108) (am_rk 108) res (4, [some (.ref 0), some (.int l1), some (.int x.1), some (.int x.2.1)], [], am_T0 x.2.2)
  refine am_Rn.op _ (5, [some (.ref 0), some (.int l1), some (.int x.1), some (.int x.2.1)], [.int x.2.1], am_T0 x.2.2) rfl rfl ?_
  refine am_Rn.op _ (7, [some (.ref 0), some (.int l1), some (.int x.1), some (.int x.2.1)], [.int 8, .int x.2.1], am_T0 x.2.2) rfl rfl ?_
  refine am_Rn.op _ (if 8 ≤ x.2.1 then 38 else 10, [some (.ref 0), some (.int l1), some (.int x.1), some (.int x.2.1)], [], am_T0 x.2.2) rfl rfl ?_
  rcases l2_i h with ⟨hc, h⟩ | ⟨hc, h⟩
  · refine am_Rn.ifT hc ?_
    refine am_Rn.op _ (39, [some (.ref 0), some (.int l1), some (.int x.1), some (.int x.2.1)], [.int x.1], am_T0 x.2.2) rfl rfl ?_
    cases h
    exact am_Rn.rt2 _ rfl rfl hz
  · refine am_Rn.ifF hc ?_
    refine am_Rn.op _ (11, [some (.ref 0), some (.int l1), some (.int x.1), some (.int x.2.1)], [.ref 0], am_T0 x.2.2) rfl rfl ?_
    refine am_Rn.op _ (14, [some (.ref 0), some (.int l1), some (.int x.1), some (.int x.2.1)], [.ref 16], am_T0 x.2.2) rfl rfl ?_
    refine am_Rn.op _ (15, [some (.ref 0), some (.int l1), some (.int x.1), some (.int x.2.1)], [.int x.2.1, .ref 16], am_T0 x.2.2) rfl rfl ?_
    obtain ⟨hb1, h⟩ := l2_n h
    refine am_Rn.aald rfl hb1 ?_
    show am_Rn _ _ _ _ (16, [some (.ref 0), some (.int l1), some (.int x.1), some (.int x.2.1)], [.ref (TA (x.2.2.2 (Int32.toNatClampNeg x.2.1)))], am_T0 x.2.2)
    obtain ⟨q2, hq2, h⟩ := l2_b h
    refine am_Rn.cl _ (some (.int q2.1)) (am_T0 q2.2) rfl (o_clv rfl rfl rfl (l2_isO (x.2.2.2 (Int32.toNatClampNeg x.2.1)) x.2.2)) (rfX5_calls (d + 0) N (x.2.2.2 (Int32.toNatClampNeg x.2.1)) x.2.2 q2 hq2) ?_
    show am_Rn _ _ _ _ (19, [some (.ref 0), some (.int l1), some (.int x.1), some (.int x.2.1)], [.int q2.1], am_T0 q2.2)
    refine am_Rn.op _ (20, [some (.ref 0), some (.int l1), some (.int x.1), some (.int x.2.1)], [.int l1, .int q2.1], am_T0 q2.2) rfl rfl ?_
    obtain ⟨q3, hq3, h⟩ := l2_b h
    refine am_Rn.cl _ (some (.int q3.1)) (am_T0 q3.2) rfl rfl (rfX7_has (d + 0) N q2.1 l1 q2.2 q3 hq3) ?_
    show am_Rn _ _ _ _ (23, [some (.ref 0), some (.int l1), some (.int x.1), some (.int x.2.1)], [.int q3.1], am_T0 q3.2)
    refine am_Rn.op _ (if q3.1 = 0 then 32 else 26, [some (.ref 0), some (.int l1), some (.int x.1), some (.int x.2.1)], [], am_T0 q3.2) rfl rfl ?_
    rcases l2_i h with ⟨hc, h⟩ | ⟨hc, h⟩
    · refine am_Rn.ifT hc ?_
      exact rfX7_callersOf_32 d N _ l1 x.1 x.2.1 q3.2 _ h hz 
    · refine am_Rn.ifF hc ?_
      refine am_Rn.op _ (27, [some (.ref 0), some (.int l1), some (.int x.1), some (.int x.2.1)], [.int x.1], am_T0 q3.2) rfl rfl ?_
      refine am_Rn.op _ (28, [some (.ref 0), some (.int l1), some (.int x.1), some (.int x.2.1)], [.int 1, .int x.1], am_T0 q3.2) rfl rfl ?_
      refine am_Rn.op _ (29, [some (.ref 0), some (.int l1), some (.int x.1), some (.int x.2.1)], [.int x.2.1, .int 1, .int x.1], am_T0 q3.2) rfl rfl ?_
      refine am_Rn.op _ (30, [some (.ref 0), some (.int l1), some (.int x.1), some (.int x.2.1)], [.int (1 <<< (x.2.1 &&& 31)), .int x.1], am_T0 q3.2) rfl rfl ?_
      refine am_Rn.op _ (31, [some (.ref 0), some (.int l1), some (.int x.1), some (.int x.2.1)], [.int (x.1 ||| (1 <<< (x.2.1 &&& 31)))], am_T0 q3.2) rfl rfl ?_
      refine am_Rn.op _ (32, [some (.ref 0), some (.int l1), some (.int (x.1 ||| (1 <<< (x.2.1 &&& 31)))), some (.int x.2.1)], [], am_T0 q3.2) rfl rfl ?_
      exact rfX7_callersOf_32 d N _ l1 (x.1 ||| (1 <<< (x.2.1 &&& 31))) x.2.1 q3.2 _ h hz 
theorem rfX7_callersOf_4 (d N : Nat) (res : Option Value × am_S) (l1 : Int32) (x : Int32 × Int32 × St) (y : (Int32 × St)) (h : fX7_callersOf_4 N l1 x = some y) (hq : QfX7_callersOf_4 (d + 1) res l1 y) : PfX7_callersOf_4 (d + 1) res l1 x := whl_ind _ _ (fun x z => rbfX7_callersOf_4 d N res l1 x z) N x y h hq
def fX7_callersOf (N : Nat) (l1 : Int32) (S : St) : Option (Int32 × St) := (fX7_callersOf_4 N l1 (0, 0, S)).bind (fun y4 => some (y4.1, y4.2))
set_option maxRecDepth 20000 in
theorem rfX7_callersOf (d N : Nat) (l1 : Int32) (S : St) (z : (Int32 × St)) (h : fX7_callersOf N l1 S = some z) : am_C (d + 2) 108 [.ref 0, .int l1] (am_T0 S) (some (.int z.1), am_T0 z.2) := by
  unfold fX7_callersOf at h
  show am_Rn (am_C (d + 1)) (am_ct 108) (am_rk 108) (some (.int z.1), am_T0 z.2) (0, [some (.ref 0), some (.int l1), none, none], [], am_T0 S)
  refine am_Rn.op _ (1, [some (.ref 0), some (.int l1), none, none], [.int 0], am_T0 S) rfl rfl ?_
  refine am_Rn.op _ (2, [some (.ref 0), some (.int l1), some (.int 0), none], [], am_T0 S) rfl rfl ?_
  refine am_Rn.op _ (3, [some (.ref 0), some (.int l1), some (.int 0), none], [.int 0], am_T0 S) rfl rfl ?_
  refine am_Rn.op _ (4, [some (.ref 0), some (.int l1), some (.int 0), some (.int 0)], [], am_T0 S) rfl rfl ?_
  obtain ⟨y4, hy4, h⟩ := l2_b h
  refine rfX7_callersOf_4 d N _ l1 (0, 0, S) y4 hy4 ?_ 
  cases h
  exact rfl
