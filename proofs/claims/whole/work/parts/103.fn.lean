-- X2_measureBlock
def PfX2_measureBlock_28 (d : Nat) (res : Option Value × am_S) (l1 : Int32) (l2 : Int32) (l3 : Int32) (l5 : Int32) (x : Int32 × Int32 × St) : Prop := ∀ (w7 : Option Value), am_Rn (am_C d) (am_ct 17) (am_rk 17) res (28, [some (.ref 20), some (.int l1), some (.int l2), some (.int l3), some (.int x.1), some (.int l5), some (.int x.2.1), w7], [], am_T0 x.2.2)
def QfX2_measureBlock_28 (d : Nat) (res : Option Value × am_S) (l1 : Int32) (l2 : Int32) (l3 : Int32) (l5 : Int32) (y : St) : Prop := ∀ (w4 w5 w6 w7 : Option Value), am_Rn (am_C d) (am_ct 17) (am_rk 17) res (301, [some (.ref 20), some (.int l1), some (.int l2), some (.int l3), w4, w5, w6, w7], [], am_T0 y)
def fX2_measureBlock_295 (N : Nat) (l1 : Int32) (l2 : Int32) (l3 : Int32) (l4 : Int32) (l5 : Int32) (l6 : Int32) (S : St) : Option ((Int32 × Int32 × St) ⊕ (St)) := some (.inl (l4, (l6 + 1), S))
set_option maxRecDepth 20000 in
theorem rfX2_measureBlock_295 (d N : Nat) (res : Option Value × am_S) (l1 : Int32) (l2 : Int32) (l3 : Int32) (l4 : Int32) (l5 : Int32) (l6 : Int32) (S : St) (z : (Int32 × Int32 × St) ⊕ (St)) (h : fX2_measureBlock_295 N l1 l2 l3 l4 l5 l6 S = some z) (hz : Sum.elim (PfX2_measureBlock_28 (d + 4) res l1 l2 l3 l5 ) (QfX2_measureBlock_28 (d + 4) res l1 l2 l3 l5 ) z) (w7 : Option Value) : am_Rn (am_C (d + 4)) (am_ct 17) (am_rk 17) res (295, [some (.ref 20), some (.int l1), some (.int l2), some (.int l3), some (.int l4), some (.int l5), some (.int l6), w7], [], am_T0 S) := by
  unfold fX2_measureBlock_295 at h
  refine am_Rn.op _ (298, [some (.ref 20), some (.int l1), some (.int l2), some (.int l3), some (.int l4), some (.int l5), some (.int (l6 + 1)), w7], [], am_T0 S) rfl rfl ?_
  refine am_Rn.op _ (28, [some (.ref 20), some (.int l1), some (.int l2), some (.int l3), some (.int l4), some (.int l5), some (.int (l6 + 1)), w7], [], am_T0 S) rfl rfl ?_
  cases h
  exact hz _
def fX2_measureBlock_226 (N : Nat) (l1 : Int32) (l2 : Int32) (l3 : Int32) (l4 : Int32) (l5 : Int32) (l6 : Int32) (s1 : Int32) (s2 : Int32) (S : St) : Option ((Int32 × Int32 × St) ⊕ (St)) := (fX2_turn N s1 s2 S).bind (fun q1 => fX2_measureBlock_295 N l1 l2 l3 (l4 + 2) l5 l6 q1)
set_option maxRecDepth 20000 in
theorem rfX2_measureBlock_226 (d N : Nat) (res : Option Value × am_S) (l1 : Int32) (l2 : Int32) (l3 : Int32) (l4 : Int32) (l5 : Int32) (l6 : Int32) (s1 : Int32) (s2 : Int32) (S : St) (z : (Int32 × Int32 × St) ⊕ (St)) (h : fX2_measureBlock_226 N l1 l2 l3 l4 l5 l6 s1 s2 S = some z) (hz : Sum.elim (PfX2_measureBlock_28 (d + 4) res l1 l2 l3 l5 ) (QfX2_measureBlock_28 (d + 4) res l1 l2 l3 l5 ) z) (w7 : Option Value) : am_Rn (am_C (d + 4)) (am_ct 17) (am_rk 17) res (226, [some (.ref 20), some (.int l1), some (.int l2), some (.int l3), some (.int l4), some (.int l5), some (.int l6), w7], [.int s2, .int s1, .ref 20], am_T0 S) := by
  unfold fX2_measureBlock_226 at h
  obtain ⟨q1, hq1, h⟩ := l2_b h
  refine am_Rn.cl _ none (am_T0 q1) rfl rfl (rfX2_turn (d + 2) N s1 s2 S q1 hq1) ?_
  show am_Rn _ _ _ _ (229, [some (.ref 20), some (.int l1), some (.int l2), some (.int l3), some (.int l4), some (.int l5), some (.int l6), w7], [], am_T0 q1)
  refine am_Rn.op _ (232, [some (.ref 20), some (.int l1), some (.int l2), some (.int l3), some (.int (l4 + 2)), some (.int l5), some (.int l6), w7], [], am_T0 q1) rfl rfl ?_
  refine am_Rn.op _ (295, [some (.ref 20), some (.int l1), some (.int l2), some (.int l3), some (.int (l4 + 2)), some (.int l5), some (.int l6), w7], [], am_T0 q1) rfl rfl ?_
  exact rfX2_measureBlock_295 d N _ l1 l2 l3 (l4 + 2) l5 l6 q1 _ h hz _
def fX2_measureBlock_207 (N : Nat) (l1 : Int32) (l2 : Int32) (l3 : Int32) (l4 : Int32) (l5 : Int32) (l6 : Int32) (s1 : Int32) (S : St) : Option ((Int32 × Int32 × St) ⊕ (St)) := (fX5_at N (S.2 10) l4 S).bind (fun q2 => (if q2.1 = 43 then fX2_measureBlock_226 N l1 l2 l3 l4 l5 l6 s1 1 q2.2 else fX2_measureBlock_226 N l1 l2 l3 l4 l5 l6 s1 0 q2.2))
set_option maxRecDepth 20000 in
theorem rfX2_measureBlock_207 (d N : Nat) (res : Option Value × am_S) (l1 : Int32) (l2 : Int32) (l3 : Int32) (l4 : Int32) (l5 : Int32) (l6 : Int32) (s1 : Int32) (S : St) (z : (Int32 × Int32 × St) ⊕ (St)) (h : fX2_measureBlock_207 N l1 l2 l3 l4 l5 l6 s1 S = some z) (hz : Sum.elim (PfX2_measureBlock_28 (d + 4) res l1 l2 l3 l5 ) (QfX2_measureBlock_28 (d + 4) res l1 l2 l3 l5 ) z) (w7 : Option Value) : am_Rn (am_C (d + 4)) (am_ct 17) (am_rk 17) res (207, [some (.ref 20), some (.int l1), some (.int l2), some (.int l3), some (.int l4), some (.int l5), some (.int l6), w7], [.int s1, .ref 20], am_T0 S) := by
  unfold fX2_measureBlock_207 at h
  refine am_Rn.op _ (208, [some (.ref 20), some (.int l1), some (.int l2), some (.int l3), some (.int l4), some (.int l5), some (.int l6), w7], [.ref 20, .int s1, .ref 20], am_T0 S) rfl rfl ?_
  refine am_Rn.op _ (211, [some (.ref 20), some (.int l1), some (.int l2), some (.int l3), some (.int l4), some (.int l5), some (.int l6), w7], [.ref (TA (S.2 10)), .int s1, .ref 20], am_T0 S) rfl rfl ?_
  refine am_Rn.op _ (213, [some (.ref 20), some (.int l1), some (.int l2), some (.int l3), some (.int l4), some (.int l5), some (.int l6), w7], [.int l4, .ref (TA (S.2 10)), .int s1, .ref 20], am_T0 S) rfl rfl ?_
  obtain ⟨q2, hq2, h⟩ := l2_b h
  refine am_Rn.cl _ (some (.int q2.1)) (am_T0 q2.2) rfl (o_clv rfl rfl rfl (l2_isO (S.2 10) S)) (rfX5_at (d + 3) N (S.2 10) l4 S q2 hq2) ?_
  show am_Rn _ _ _ _ (216, [some (.ref 20), some (.int l1), some (.int l2), some (.int l3), some (.int l4), some (.int l5), some (.int l6), w7], [.int q2.1, .int s1, .ref 20], am_T0 q2.2)
  refine am_Rn.op _ (218, [some (.ref 20), some (.int l1), some (.int l2), some (.int l3), some (.int l4), some (.int l5), some (.int l6), w7], [.int 43, .int q2.1, .int s1, .ref 20], am_T0 q2.2) rfl rfl ?_
  refine am_Rn.op _ (if q2.1 = 43 then 221 else 225, [some (.ref 20), some (.int l1), some (.int l2), some (.int l3), some (.int l4), some (.int l5), some (.int l6), w7], [.int s1, .ref 20], am_T0 q2.2) rfl rfl ?_
  rcases l2_i h with ⟨hc, h⟩ | ⟨hc, h⟩
  · refine am_Rn.ifT hc ?_
    refine am_Rn.op _ (222, [some (.ref 20), some (.int l1), some (.int l2), some (.int l3), some (.int l4), some (.int l5), some (.int l6), w7], [.int 1, .int s1, .ref 20], am_T0 q2.2) rfl rfl ?_
    refine am_Rn.op _ (226, [some (.ref 20), some (.int l1), some (.int l2), some (.int l3), some (.int l4), some (.int l5), some (.int l6), w7], [.int 1, .int s1, .ref 20], am_T0 q2.2) rfl rfl ?_
    exact rfX2_measureBlock_226 d N _ l1 l2 l3 l4 l5 l6 s1 1 q2.2 _ h hz _
  · refine am_Rn.ifF hc ?_
    refine am_Rn.op _ (226, [some (.ref 20), some (.int l1), some (.int l2), some (.int l3), some (.int l4), some (.int l5), some (.int l6), w7], [.int 0, .int s1, .ref 20], am_T0 q2.2) rfl rfl ?_
    exact rfX2_measureBlock_226 d N _ l1 l2 l3 l4 l5 l6 s1 0 q2.2 _ h hz _
def bfX2_measureBlock_28 (N : Nat) (l1 : Int32) (l2 : Int32) (l3 : Int32) (l5 : Int32) (x : Int32 × Int32 × St) : Option ((Int32 × Int32 × St) ⊕ (St)) := (if 60 ≤ x.2.1 then some (.inr (x.2.2)) else (if l5 ≤ x.1 then some (.inr (x.2.2)) else (fX2_isReached N x.2.2).bind (fun q3 => (if q3.1 = 0 then some (.inr (q3.2)) else (fX5_at N (q3.2.2 10) (x.1 + 1) q3.2).bind (fun q4 => (fX5_at N (q4.2.2 10) x.1 q4.2).bind (fun q5 => (if q5.1 = 33 then (fX2_leaveBy N ((1 + q4.1) - 65) q5.2).bind (fun q6 => fX2_measureBlock_295 N l1 l2 l3 (x.1 + 2) l5 x.2.1 q6) else (if q5.1 = 42 then (fX2_repeat N (x.1 + 1) l2 q5.2).bind (fun q7 => fX2_measureBlock_295 N l1 l2 l3 q7.1 l5 x.2.1 q7.2) else (if q5.1 = 43 then (if q4.1 = 49 then fX2_measureBlock_207 N l1 l2 l3 x.1 l5 x.2.1 2 q5.2 else fX2_measureBlock_207 N l1 l2 l3 x.1 l5 x.2.1 1 q5.2) else (if q5.1 = 45 then (if q4.1 = 49 then fX2_measureBlock_207 N l1 l2 l3 x.1 l5 x.2.1 2 q5.2 else fX2_measureBlock_207 N l1 l2 l3 x.1 l5 x.2.1 1 q5.2) else (if q5.1 = 46 then (fX2_leaveBy N 7 q5.2).bind (fun q8 => fX2_measureBlock_295 N l1 l2 l3 (x.1 + 1) l5 x.2.1 q8) else (if q5.1 = 63 then (fX2_choose N (x.1 + 1) l2 q5.2).bind (fun q9 => fX2_measureBlock_295 N l1 l2 l3 q9.1 l5 x.2.1 q9.2) else (if q5.1 = 64 then (fX2_call N (q4.1 - 97) q5.2).bind (fun q10 => fX2_measureBlock_295 N l1 l2 l3 (x.1 + 2) l5 x.2.1 q10) else (if q5.1 = 84 then (fX2_take N (x.1 + 1) l2 q5.2).bind (fun q11 => fX2_measureBlock_295 N l1 l2 l3 q11.1 l5 x.2.1 q11.2) else (if q5.1 = 94 then (fX2_leaveBy N (1 + l2) q5.2).bind (fun q12 => fX2_measureBlock_295 N l1 l2 l3 (x.1 + 1) l5 x.2.1 q12) else fX2_measureBlock_295 N l1 l2 l3 (x.1 + 1) l5 x.2.1 q5.2)))))))))))))))
def fX2_measureBlock_28 (N : Nat) (l1 : Int32) (l2 : Int32) (l3 : Int32) (l5 : Int32) (x : Int32 × Int32 × St) : Option (St) := whl N (bfX2_measureBlock_28 N l1 l2 l3 l5 ) x
set_option maxRecDepth 20000 in
theorem rbfX2_measureBlock_28 (d N : Nat) (res : Option Value × am_S) (l1 : Int32) (l2 : Int32) (l3 : Int32) (l5 : Int32) (x : Int32 × Int32 × St) (z : (Int32 × Int32 × St) ⊕ (St)) (h : bfX2_measureBlock_28 N l1 l2 l3 l5 x = some z) (hz : Sum.elim (PfX2_measureBlock_28 (d + 4) res l1 l2 l3 l5 ) (QfX2_measureBlock_28 (d + 4) res l1 l2 l3 l5 ) z) : PfX2_measureBlock_28 (d + 4) res l1 l2 l3 l5 x := by
  unfold bfX2_measureBlock_28 at h
  show ∀ (w7 : Option Value), am_Rn (am_C (d + 4)) (am_ct 17) (am_rk 17) res (28, [some (.ref 20), some (.int l1), some (.int l2), some (.int l3), some (.int x.1), some (.int l5), some (.int x.2.1), w7], [], am_T0 x.2.2)
  intro w7
  refine am_Rn.op _ (30, [some (.ref 20), some (.int l1), some (.int l2), some (.int l3), some (.int x.1), some (.int l5), some (.int x.2.1), w7], [.int x.2.1], am_T0 x.2.2) rfl rfl ?_
  refine am_Rn.op _ (32, [some (.ref 20), some (.int l1), some (.int l2), some (.int l3), some (.int x.1), some (.int l5), some (.int x.2.1), w7], [.int 60, .int x.2.1], am_T0 x.2.2) rfl rfl ?_
  refine am_Rn.op _ (if 60 ≤ x.2.1 then 301 else 35, [some (.ref 20), some (.int l1), some (.int l2), some (.int l3), some (.int x.1), some (.int l5), some (.int x.2.1), w7], [], am_T0 x.2.2) rfl rfl ?_
  rcases l2_i h with ⟨hc, h⟩ | ⟨hc, h⟩
  · refine am_Rn.ifT hc ?_
    cases h
    exact hz _ _ _ _
  · refine am_Rn.ifF hc ?_
    refine am_Rn.op _ (37, [some (.ref 20), some (.int l1), some (.int l2), some (.int l3), some (.int x.1), some (.int l5), some (.int x.2.1), w7], [.int x.1], am_T0 x.2.2) rfl rfl ?_
    refine am_Rn.op _ (39, [some (.ref 20), some (.int l1), some (.int l2), some (.int l3), some (.int x.1), some (.int l5), some (.int x.2.1), w7], [.int l5, .int x.1], am_T0 x.2.2) rfl rfl ?_
    refine am_Rn.op _ (if l5 ≤ x.1 then 301 else 42, [some (.ref 20), some (.int l1), some (.int l2), some (.int l3), some (.int x.1), some (.int l5), some (.int x.2.1), w7], [], am_T0 x.2.2) rfl rfl ?_
    rcases l2_i h with ⟨hc, h⟩ | ⟨hc, h⟩
    · refine am_Rn.ifT hc ?_
      cases h
      exact hz _ _ _ _
    · refine am_Rn.ifF hc ?_
      refine am_Rn.op _ (43, [some (.ref 20), some (.int l1), some (.int l2), some (.int l3), some (.int x.1), some (.int l5), some (.int x.2.1), w7], [.ref 20], am_T0 x.2.2) rfl rfl ?_
      obtain ⟨q3, hq3, h⟩ := l2_b h
      refine am_Rn.cl _ (some (.int q3.1)) (am_T0 q3.2) rfl rfl (rfX2_isReached (d + 3) N x.2.2 q3 hq3) ?_
      show am_Rn _ _ _ _ (46, [some (.ref 20), some (.int l1), some (.int l2), some (.int l3), some (.int x.1), some (.int l5), some (.int x.2.1), w7], [.int q3.1], am_T0 q3.2)
      refine am_Rn.op _ (if q3.1 = 0 then 301 else 49, [some (.ref 20), some (.int l1), some (.int l2), some (.int l3), some (.int x.1), some (.int l5), some (.int x.2.1), w7], [], am_T0 q3.2) rfl rfl ?_
      rcases l2_i h with ⟨hc, h⟩ | ⟨hc, h⟩
      · refine am_Rn.ifT hc ?_
        cases h
        exact hz _ _ _ _
      · refine am_Rn.ifF hc ?_
        refine am_Rn.op _ (50, [some (.ref 20), some (.int l1), some (.int l2), some (.int l3), some (.int x.1), some (.int l5), some (.int x.2.1), w7], [.ref 20], am_T0 q3.2) rfl rfl ?_
        refine am_Rn.op _ (53, [some (.ref 20), some (.int l1), some (.int l2), some (.int l3), some (.int x.1), some (.int l5), some (.int x.2.1), w7], [.ref (TA (q3.2.2 10))], am_T0 q3.2) rfl rfl ?_
        refine am_Rn.op _ (55, [some (.ref 20), some (.int l1), some (.int l2), some (.int l3), some (.int x.1), some (.int l5), some (.int x.2.1), w7], [.int x.1, .ref (TA (q3.2.2 10))], am_T0 q3.2) rfl rfl ?_
        refine am_Rn.op _ (56, [some (.ref 20), some (.int l1), some (.int l2), some (.int l3), some (.int x.1), some (.int l5), some (.int x.2.1), w7], [.int 1, .int x.1, .ref (TA (q3.2.2 10))], am_T0 q3.2) rfl rfl ?_
        refine am_Rn.op _ (57, [some (.ref 20), some (.int l1), some (.int l2), some (.int l3), some (.int x.1), some (.int l5), some (.int x.2.1), w7], [.int (x.1 + 1), .ref (TA (q3.2.2 10))], am_T0 q3.2) rfl rfl ?_
        obtain ⟨q4, hq4, h⟩ := l2_b h
        refine am_Rn.cl _ (some (.int q4.1)) (am_T0 q4.2) rfl (o_clv rfl rfl rfl (l2_isO (q3.2.2 10) q3.2)) (rfX5_at (d + 3) N (q3.2.2 10) (x.1 + 1) q3.2 q4 hq4) ?_
        show am_Rn _ _ _ _ (60, [some (.ref 20), some (.int l1), some (.int l2), some (.int l3), some (.int x.1), some (.int l5), some (.int x.2.1), w7], [.int q4.1], am_T0 q4.2)
        refine am_Rn.op _ (62, [some (.ref 20), some (.int l1), some (.int l2), some (.int l3), some (.int x.1), some (.int l5), some (.int x.2.1), some (.int q4.1)], [], am_T0 q4.2) rfl rfl ?_
        refine am_Rn.op _ (63, [some (.ref 20), some (.int l1), some (.int l2), some (.int l3), some (.int x.1), some (.int l5), some (.int x.2.1), some (.int q4.1)], [.ref 20], am_T0 q4.2) rfl rfl ?_
        refine am_Rn.op _ (66, [some (.ref 20), some (.int l1), some (.int l2), some (.int l3), some (.int x.1), some (.int l5), some (.int x.2.1), some (.int q4.1)], [.ref (TA (q4.2.2 10))], am_T0 q4.2) rfl rfl ?_
        refine am_Rn.op _ (68, [some (.ref 20), some (.int l1), some (.int l2), some (.int l3), some (.int x.1), some (.int l5), some (.int x.2.1), some (.int q4.1)], [.int x.1, .ref (TA (q4.2.2 10))], am_T0 q4.2) rfl rfl ?_
        obtain ⟨q5, hq5, h⟩ := l2_b h
        refine am_Rn.cl _ (some (.int q5.1)) (am_T0 q5.2) rfl (o_clv rfl rfl rfl (l2_isO (q4.2.2 10) q4.2)) (rfX5_at (d + 3) N (q4.2.2 10) x.1 q4.2 q5 hq5) ?_
        show am_Rn _ _ _ _ (71, [some (.ref 20), some (.int l1), some (.int l2), some (.int l3), some (.int x.1), some (.int l5), some (.int x.2.1), some (.int q4.1)], [.int q5.1], am_T0 q5.2)
        refine am_Rn.op _ ((if q5.1 = 33 then 152 else (if q5.1 = 42 then 264 else (if q5.1 = 43 then 194 else (if q5.1 = 45 then 194 else (if q5.1 = 46 then 182 else (if q5.1 = 63 then 250 else (if q5.1 = 64 then 235 else (if q5.1 = 84 then 278 else (if q5.1 = 94 then 169 else 292))))))))), [some (.ref 20), some (.int l1), some (.int l2), some (.int l3), some (.int x.1), some (.int l5), some (.int x.2.1), some (.int q4.1)], [], am_T0 q5.2) rfl rfl ?_
        rcases l2_i h with ⟨hc, h⟩ | ⟨hc, h⟩
        · refine am_Rn.ifT hc ?_
          refine am_Rn.op _ (153, [some (.ref 20), some (.int l1), some (.int l2), some (.int l3), some (.int x.1), some (.int l5), some (.int x.2.1), some (.int q4.1)], [.ref 20], am_T0 q5.2) rfl rfl ?_
          refine am_Rn.op _ (154, [some (.ref 20), some (.int l1), some (.int l2), some (.int l3), some (.int x.1), some (.int l5), some (.int x.2.1), some (.int q4.1)], [.int 1, .ref 20], am_T0 q5.2) rfl rfl ?_
          refine am_Rn.op _ (156, [some (.ref 20), some (.int l1), some (.int l2), some (.int l3), some (.int x.1), some (.int l5), some (.int x.2.1), some (.int q4.1)], [.int q4.1, .int 1, .ref 20], am_T0 q5.2) rfl rfl ?_
          refine am_Rn.op _ (157, [some (.ref 20), some (.int l1), some (.int l2), some (.int l3), some (.int x.1), some (.int l5), some (.int x.2.1), some (.int q4.1)], [.int (1 + q4.1), .ref 20], am_T0 q5.2) rfl rfl ?_
          refine am_Rn.op _ (159, [some (.ref 20), some (.int l1), some (.int l2), some (.int l3), some (.int x.1), some (.int l5), some (.int x.2.1), some (.int q4.1)], [.int 65, .int (1 + q4.1), .ref 20], am_T0 q5.2) rfl rfl ?_
          refine am_Rn.op _ (160, [some (.ref 20), some (.int l1), some (.int l2), some (.int l3), some (.int x.1), some (.int l5), some (.int x.2.1), some (.int q4.1)], [.int ((1 + q4.1) - 65), .ref 20], am_T0 q5.2) rfl rfl ?_
          obtain ⟨q6, hq6, h⟩ := l2_b h
          refine am_Rn.cl _ none (am_T0 q6) rfl rfl (rfX2_leaveBy (d + 2) N ((1 + q4.1) - 65) q5.2 q6 hq6) ?_
          show am_Rn _ _ _ _ (163, [some (.ref 20), some (.int l1), some (.int l2), some (.int l3), some (.int x.1), some (.int l5), some (.int x.2.1), some (.int q4.1)], [], am_T0 q6)
          refine am_Rn.op _ (166, [some (.ref 20), some (.int l1), some (.int l2), some (.int l3), some (.int (x.1 + 2)), some (.int l5), some (.int x.2.1), some (.int q4.1)], [], am_T0 q6) rfl rfl ?_
          refine am_Rn.op _ (295, [some (.ref 20), some (.int l1), some (.int l2), some (.int l3), some (.int (x.1 + 2)), some (.int l5), some (.int x.2.1), some (.int q4.1)], [], am_T0 q6) rfl rfl ?_
          exact rfX2_measureBlock_295 d N _ l1 l2 l3 (x.1 + 2) l5 x.2.1 q6 _ h hz _
        · refine am_Rn.ifF hc ?_
          rcases l2_i h with ⟨hc, h⟩ | ⟨hc, h⟩
          · refine am_Rn.ifT hc ?_
            refine am_Rn.op _ (265, [some (.ref 20), some (.int l1), some (.int l2), some (.int l3), some (.int x.1), some (.int l5), some (.int x.2.1), some (.int q4.1)], [.ref 20], am_T0 q5.2) rfl rfl ?_
            refine am_Rn.op _ (267, [some (.ref 20), some (.int l1), some (.int l2), some (.int l3), some (.int x.1), some (.int l5), some (.int x.2.1), some (.int q4.1)], [.int x.1, .ref 20], am_T0 q5.2) rfl rfl ?_
            refine am_Rn.op _ (268, [some (.ref 20), some (.int l1), some (.int l2), some (.int l3), some (.int x.1), some (.int l5), some (.int x.2.1), some (.int q4.1)], [.int 1, .int x.1, .ref 20], am_T0 q5.2) rfl rfl ?_
            refine am_Rn.op _ (269, [some (.ref 20), some (.int l1), some (.int l2), some (.int l3), some (.int x.1), some (.int l5), some (.int x.2.1), some (.int q4.1)], [.int (x.1 + 1), .ref 20], am_T0 q5.2) rfl rfl ?_
            refine am_Rn.op _ (270, [some (.ref 20), some (.int l1), some (.int l2), some (.int l3), some (.int x.1), some (.int l5), some (.int x.2.1), some (.int q4.1)], [.int l2, .int (x.1 + 1), .ref 20], am_T0 q5.2) rfl rfl ?_
            obtain ⟨q7, hq7, h⟩ := l2_b h
            refine am_Rn.cl _ (some (.int q7.1)) (am_T0 q7.2) rfl rfl (rfX2_repeat (d + 0) N (x.1 + 1) l2 q5.2 q7 hq7) ?_
            show am_Rn _ _ _ _ (273, [some (.ref 20), some (.int l1), some (.int l2), some (.int l3), some (.int x.1), some (.int l5), some (.int x.2.1), some (.int q4.1)], [.int q7.1], am_T0 q7.2)
            refine am_Rn.op _ (275, [some (.ref 20), some (.int l1), some (.int l2), some (.int l3), some (.int q7.1), some (.int l5), some (.int x.2.1), some (.int q4.1)], [], am_T0 q7.2) rfl rfl ?_
            refine am_Rn.op _ (295, [some (.ref 20), some (.int l1), some (.int l2), some (.int l3), some (.int q7.1), some (.int l5), some (.int x.2.1), some (.int q4.1)], [], am_T0 q7.2) rfl rfl ?_
            exact rfX2_measureBlock_295 d N _ l1 l2 l3 q7.1 l5 x.2.1 q7.2 _ h hz _
          · refine am_Rn.ifF hc ?_
            rcases l2_i h with ⟨hc, h⟩ | ⟨hc, h⟩
            · refine am_Rn.ifT hc ?_
              refine am_Rn.op _ (195, [some (.ref 20), some (.int l1), some (.int l2), some (.int l3), some (.int x.1), some (.int l5), some (.int x.2.1), some (.int q4.1)], [.ref 20], am_T0 q5.2) rfl rfl ?_
              refine am_Rn.op _ (197, [some (.ref 20), some (.int l1), some (.int l2), some (.int l3), some (.int x.1), some (.int l5), some (.int x.2.1), some (.int q4.1)], [.int q4.1, .ref 20], am_T0 q5.2) rfl rfl ?_
              refine am_Rn.op _ (199, [some (.ref 20), some (.int l1), some (.int l2), some (.int l3), some (.int x.1), some (.int l5), some (.int x.2.1), some (.int q4.1)], [.int 49, .int q4.1, .ref 20], am_T0 q5.2) rfl rfl ?_
              refine am_Rn.op _ (if q4.1 = 49 then 202 else 206, [some (.ref 20), some (.int l1), some (.int l2), some (.int l3), some (.int x.1), some (.int l5), some (.int x.2.1), some (.int q4.1)], [.ref 20], am_T0 q5.2) rfl rfl ?_
              rcases l2_i h with ⟨hc, h⟩ | ⟨hc, h⟩
              · refine am_Rn.ifT hc ?_
                refine am_Rn.op _ (203, [some (.ref 20), some (.int l1), some (.int l2), some (.int l3), some (.int x.1), some (.int l5), some (.int x.2.1), some (.int q4.1)], [.int 2, .ref 20], am_T0 q5.2) rfl rfl ?_
                refine am_Rn.op _ (207, [some (.ref 20), some (.int l1), some (.int l2), some (.int l3), some (.int x.1), some (.int l5), some (.int x.2.1), some (.int q4.1)], [.int 2, .ref 20], am_T0 q5.2) rfl rfl ?_
                exact rfX2_measureBlock_207 d N _ l1 l2 l3 x.1 l5 x.2.1 2 q5.2 _ h hz _
              · refine am_Rn.ifF hc ?_
                refine am_Rn.op _ (207, [some (.ref 20), some (.int l1), some (.int l2), some (.int l3), some (.int x.1), some (.int l5), some (.int x.2.1), some (.int q4.1)], [.int 1, .ref 20], am_T0 q5.2) rfl rfl ?_
                exact rfX2_measureBlock_207 d N _ l1 l2 l3 x.1 l5 x.2.1 1 q5.2 _ h hz _
            · refine am_Rn.ifF hc ?_
              rcases l2_i h with ⟨hc, h⟩ | ⟨hc, h⟩
              · refine am_Rn.ifT hc ?_
                refine am_Rn.op _ (195, [some (.ref 20), some (.int l1), some (.int l2), some (.int l3), some (.int x.1), some (.int l5), some (.int x.2.1), some (.int q4.1)], [.ref 20], am_T0 q5.2) rfl rfl ?_
                refine am_Rn.op _ (197, [some (.ref 20), some (.int l1), some (.int l2), some (.int l3), some (.int x.1), some (.int l5), some (.int x.2.1), some (.int q4.1)], [.int q4.1, .ref 20], am_T0 q5.2) rfl rfl ?_
                refine am_Rn.op _ (199, [some (.ref 20), some (.int l1), some (.int l2), some (.int l3), some (.int x.1), some (.int l5), some (.int x.2.1), some (.int q4.1)], [.int 49, .int q4.1, .ref 20], am_T0 q5.2) rfl rfl ?_
                refine am_Rn.op _ (if q4.1 = 49 then 202 else 206, [some (.ref 20), some (.int l1), some (.int l2), some (.int l3), some (.int x.1), some (.int l5), some (.int x.2.1), some (.int q4.1)], [.ref 20], am_T0 q5.2) rfl rfl ?_
                rcases l2_i h with ⟨hc, h⟩ | ⟨hc, h⟩
                · refine am_Rn.ifT hc ?_
                  refine am_Rn.op _ (203, [some (.ref 20), some (.int l1), some (.int l2), some (.int l3), some (.int x.1), some (.int l5), some (.int x.2.1), some (.int q4.1)], [.int 2, .ref 20], am_T0 q5.2) rfl rfl ?_
                  refine am_Rn.op _ (207, [some (.ref 20), some (.int l1), some (.int l2), some (.int l3), some (.int x.1), some (.int l5), some (.int x.2.1), some (.int q4.1)], [.int 2, .ref 20], am_T0 q5.2) rfl rfl ?_
                  exact rfX2_measureBlock_207 d N _ l1 l2 l3 x.1 l5 x.2.1 2 q5.2 _ h hz _
                · refine am_Rn.ifF hc ?_
                  refine am_Rn.op _ (207, [some (.ref 20), some (.int l1), some (.int l2), some (.int l3), some (.int x.1), some (.int l5), some (.int x.2.1), some (.int q4.1)], [.int 1, .ref 20], am_T0 q5.2) rfl rfl ?_
                  exact rfX2_measureBlock_207 d N _ l1 l2 l3 x.1 l5 x.2.1 1 q5.2 _ h hz _
              · refine am_Rn.ifF hc ?_
                rcases l2_i h with ⟨hc, h⟩ | ⟨hc, h⟩
                · refine am_Rn.ifT hc ?_
                  refine am_Rn.op _ (183, [some (.ref 20), some (.int l1), some (.int l2), some (.int l3), some (.int x.1), some (.int l5), some (.int x.2.1), some (.int q4.1)], [.ref 20], am_T0 q5.2) rfl rfl ?_
                  refine am_Rn.op _ (185, [some (.ref 20), some (.int l1), some (.int l2), some (.int l3), some (.int x.1), some (.int l5), some (.int x.2.1), some (.int q4.1)], [.int 7, .ref 20], am_T0 q5.2) rfl rfl ?_
                  obtain ⟨q8, hq8, h⟩ := l2_b h
                  refine am_Rn.cl _ none (am_T0 q8) rfl rfl (rfX2_leaveBy (d + 2) N 7 q5.2 q8 hq8) ?_
                  show am_Rn _ _ _ _ (188, [some (.ref 20), some (.int l1), some (.int l2), some (.int l3), some (.int x.1), some (.int l5), some (.int x.2.1), some (.int q4.1)], [], am_T0 q8)
                  refine am_Rn.op _ (191, [some (.ref 20), some (.int l1), some (.int l2), some (.int l3), some (.int (x.1 + 1)), some (.int l5), some (.int x.2.1), some (.int q4.1)], [], am_T0 q8) rfl rfl ?_
                  refine am_Rn.op _ (295, [some (.ref 20), some (.int l1), some (.int l2), some (.int l3), some (.int (x.1 + 1)), some (.int l5), some (.int x.2.1), some (.int q4.1)], [], am_T0 q8) rfl rfl ?_
                  exact rfX2_measureBlock_295 d N _ l1 l2 l3 (x.1 + 1) l5 x.2.1 q8 _ h hz _
                · refine am_Rn.ifF hc ?_
                  rcases l2_i h with ⟨hc, h⟩ | ⟨hc, h⟩
                  · refine am_Rn.ifT hc ?_
                    refine am_Rn.op _ (251, [some (.ref 20), some (.int l1), some (.int l2), some (.int l3), some (.int x.1), some (.int l5), some (.int x.2.1), some (.int q4.1)], [.ref 20], am_T0 q5.2) rfl rfl ?_
                    refine am_Rn.op _ (253, [some (.ref 20), some (.int l1), some (.int l2), some (.int l3), some (.int x.1), some (.int l5), some (.int x.2.1), some (.int q4.1)], [.int x.1, .ref 20], am_T0 q5.2) rfl rfl ?_
                    refine am_Rn.op _ (254, [some (.ref 20), some (.int l1), some (.int l2), some (.int l3), some (.int x.1), some (.int l5), some (.int x.2.1), some (.int q4.1)], [.int 1, .int x.1, .ref 20], am_T0 q5.2) rfl rfl ?_
                    refine am_Rn.op _ (255, [some (.ref 20), some (.int l1), some (.int l2), some (.int l3), some (.int x.1), some (.int l5), some (.int x.2.1), some (.int q4.1)], [.int (x.1 + 1), .ref 20], am_T0 q5.2) rfl rfl ?_
                    refine am_Rn.op _ (256, [some (.ref 20), some (.int l1), some (.int l2), some (.int l3), some (.int x.1), some (.int l5), some (.int x.2.1), some (.int q4.1)], [.int l2, .int (x.1 + 1), .ref 20], am_T0 q5.2) rfl rfl ?_
                    obtain ⟨q9, hq9, h⟩ := l2_b h
                    refine am_Rn.cl _ (some (.int q9.1)) (am_T0 q9.2) rfl rfl (rfX2_choose (d + 0) N (x.1 + 1) l2 q5.2 q9 hq9) ?_
                    show am_Rn _ _ _ _ (259, [some (.ref 20), some (.int l1), some (.int l2), some (.int l3), some (.int x.1), some (.int l5), some (.int x.2.1), some (.int q4.1)], [.int q9.1], am_T0 q9.2)
                    refine am_Rn.op _ (261, [some (.ref 20), some (.int l1), some (.int l2), some (.int l3), some (.int q9.1), some (.int l5), some (.int x.2.1), some (.int q4.1)], [], am_T0 q9.2) rfl rfl ?_
                    refine am_Rn.op _ (295, [some (.ref 20), some (.int l1), some (.int l2), some (.int l3), some (.int q9.1), some (.int l5), some (.int x.2.1), some (.int q4.1)], [], am_T0 q9.2) rfl rfl ?_
                    exact rfX2_measureBlock_295 d N _ l1 l2 l3 q9.1 l5 x.2.1 q9.2 _ h hz _
                  · refine am_Rn.ifF hc ?_
                    rcases l2_i h with ⟨hc, h⟩ | ⟨hc, h⟩
                    · refine am_Rn.ifT hc ?_
                      refine am_Rn.op _ (236, [some (.ref 20), some (.int l1), some (.int l2), some (.int l3), some (.int x.1), some (.int l5), some (.int x.2.1), some (.int q4.1)], [.ref 20], am_T0 q5.2) rfl rfl ?_
                      refine am_Rn.op _ (238, [some (.ref 20), some (.int l1), some (.int l2), some (.int l3), some (.int x.1), some (.int l5), some (.int x.2.1), some (.int q4.1)], [.int q4.1, .ref 20], am_T0 q5.2) rfl rfl ?_
                      refine am_Rn.op _ (240, [some (.ref 20), some (.int l1), some (.int l2), some (.int l3), some (.int x.1), some (.int l5), some (.int x.2.1), some (.int q4.1)], [.int 97, .int q4.1, .ref 20], am_T0 q5.2) rfl rfl ?_
                      refine am_Rn.op _ (241, [some (.ref 20), some (.int l1), some (.int l2), some (.int l3), some (.int x.1), some (.int l5), some (.int x.2.1), some (.int q4.1)], [.int (q4.1 - 97), .ref 20], am_T0 q5.2) rfl rfl ?_
                      obtain ⟨q10, hq10, h⟩ := l2_b h
                      refine am_Rn.cl _ none (am_T0 q10) rfl rfl (rfX2_call (d + 0) N (q4.1 - 97) q5.2 q10 hq10) ?_
                      show am_Rn _ _ _ _ (244, [some (.ref 20), some (.int l1), some (.int l2), some (.int l3), some (.int x.1), some (.int l5), some (.int x.2.1), some (.int q4.1)], [], am_T0 q10)
                      refine am_Rn.op _ (247, [some (.ref 20), some (.int l1), some (.int l2), some (.int l3), some (.int (x.1 + 2)), some (.int l5), some (.int x.2.1), some (.int q4.1)], [], am_T0 q10) rfl rfl ?_
                      refine am_Rn.op _ (295, [some (.ref 20), some (.int l1), some (.int l2), some (.int l3), some (.int (x.1 + 2)), some (.int l5), some (.int x.2.1), some (.int q4.1)], [], am_T0 q10) rfl rfl ?_
                      exact rfX2_measureBlock_295 d N _ l1 l2 l3 (x.1 + 2) l5 x.2.1 q10 _ h hz _
                    · refine am_Rn.ifF hc ?_
                      rcases l2_i h with ⟨hc, h⟩ | ⟨hc, h⟩
                      · refine am_Rn.ifT hc ?_
                        refine am_Rn.op _ (279, [some (.ref 20), some (.int l1), some (.int l2), some (.int l3), some (.int x.1), some (.int l5), some (.int x.2.1), some (.int q4.1)], [.ref 20], am_T0 q5.2) rfl rfl ?_
                        refine am_Rn.op _ (281, [some (.ref 20), some (.int l1), some (.int l2), some (.int l3), some (.int x.1), some (.int l5), some (.int x.2.1), some (.int q4.1)], [.int x.1, .ref 20], am_T0 q5.2) rfl rfl ?_
                        refine am_Rn.op _ (282, [some (.ref 20), some (.int l1), some (.int l2), some (.int l3), some (.int x.1), some (.int l5), some (.int x.2.1), some (.int q4.1)], [.int 1, .int x.1, .ref 20], am_T0 q5.2) rfl rfl ?_
                        refine am_Rn.op _ (283, [some (.ref 20), some (.int l1), some (.int l2), some (.int l3), some (.int x.1), some (.int l5), some (.int x.2.1), some (.int q4.1)], [.int (x.1 + 1), .ref 20], am_T0 q5.2) rfl rfl ?_
                        refine am_Rn.op _ (284, [some (.ref 20), some (.int l1), some (.int l2), some (.int l3), some (.int x.1), some (.int l5), some (.int x.2.1), some (.int q4.1)], [.int l2, .int (x.1 + 1), .ref 20], am_T0 q5.2) rfl rfl ?_
                        obtain ⟨q11, hq11, h⟩ := l2_b h
                        refine am_Rn.cl _ (some (.int q11.1)) (am_T0 q11.2) rfl rfl (rfX2_take (d + 0) N (x.1 + 1) l2 q5.2 q11 hq11) ?_
                        show am_Rn _ _ _ _ (287, [some (.ref 20), some (.int l1), some (.int l2), some (.int l3), some (.int x.1), some (.int l5), some (.int x.2.1), some (.int q4.1)], [.int q11.1], am_T0 q11.2)
                        refine am_Rn.op _ (289, [some (.ref 20), some (.int l1), some (.int l2), some (.int l3), some (.int q11.1), some (.int l5), some (.int x.2.1), some (.int q4.1)], [], am_T0 q11.2) rfl rfl ?_
                        refine am_Rn.op _ (295, [some (.ref 20), some (.int l1), some (.int l2), some (.int l3), some (.int q11.1), some (.int l5), some (.int x.2.1), some (.int q4.1)], [], am_T0 q11.2) rfl rfl ?_
                        exact rfX2_measureBlock_295 d N _ l1 l2 l3 q11.1 l5 x.2.1 q11.2 _ h hz _
                      · refine am_Rn.ifF hc ?_
                        rcases l2_i h with ⟨hc, h⟩ | ⟨hc, h⟩
                        · refine am_Rn.ifT hc ?_
                          refine am_Rn.op _ (170, [some (.ref 20), some (.int l1), some (.int l2), some (.int l3), some (.int x.1), some (.int l5), some (.int x.2.1), some (.int q4.1)], [.ref 20], am_T0 q5.2) rfl rfl ?_
                          refine am_Rn.op _ (171, [some (.ref 20), some (.int l1), some (.int l2), some (.int l3), some (.int x.1), some (.int l5), some (.int x.2.1), some (.int q4.1)], [.int 1, .ref 20], am_T0 q5.2) rfl rfl ?_
                          refine am_Rn.op _ (172, [some (.ref 20), some (.int l1), some (.int l2), some (.int l3), some (.int x.1), some (.int l5), some (.int x.2.1), some (.int q4.1)], [.int l2, .int 1, .ref 20], am_T0 q5.2) rfl rfl ?_
                          refine am_Rn.op _ (173, [some (.ref 20), some (.int l1), some (.int l2), some (.int l3), some (.int x.1), some (.int l5), some (.int x.2.1), some (.int q4.1)], [.int (1 + l2), .ref 20], am_T0 q5.2) rfl rfl ?_
                          obtain ⟨q12, hq12, h⟩ := l2_b h
                          refine am_Rn.cl _ none (am_T0 q12) rfl rfl (rfX2_leaveBy (d + 2) N (1 + l2) q5.2 q12 hq12) ?_
                          show am_Rn _ _ _ _ (176, [some (.ref 20), some (.int l1), some (.int l2), some (.int l3), some (.int x.1), some (.int l5), some (.int x.2.1), some (.int q4.1)], [], am_T0 q12)
                          refine am_Rn.op _ (179, [some (.ref 20), some (.int l1), some (.int l2), some (.int l3), some (.int (x.1 + 1)), some (.int l5), some (.int x.2.1), some (.int q4.1)], [], am_T0 q12) rfl rfl ?_
                          refine am_Rn.op _ (295, [some (.ref 20), some (.int l1), some (.int l2), some (.int l3), some (.int (x.1 + 1)), some (.int l5), some (.int x.2.1), some (.int q4.1)], [], am_T0 q12) rfl rfl ?_
                          exact rfX2_measureBlock_295 d N _ l1 l2 l3 (x.1 + 1) l5 x.2.1 q12 _ h hz _
                        · refine am_Rn.ifF hc ?_
                          refine am_Rn.op _ (295, [some (.ref 20), some (.int l1), some (.int l2), some (.int l3), some (.int (x.1 + 1)), some (.int l5), some (.int x.2.1), some (.int q4.1)], [], am_T0 q5.2) rfl rfl ?_
                          exact rfX2_measureBlock_295 d N _ l1 l2 l3 (x.1 + 1) l5 x.2.1 q5.2 _ h hz _
theorem rfX2_measureBlock_28 (d N : Nat) (res : Option Value × am_S) (l1 : Int32) (l2 : Int32) (l3 : Int32) (l5 : Int32) (x : Int32 × Int32 × St) (y : St) (h : fX2_measureBlock_28 N l1 l2 l3 l5 x = some y) (hq : QfX2_measureBlock_28 (d + 4) res l1 l2 l3 l5 y) : PfX2_measureBlock_28 (d + 4) res l1 l2 l3 l5 x := whl_ind _ _ (fun x z => rbfX2_measureBlock_28 d N res l1 l2 l3 l5 x z) N x y h hq
def fX2_measureBlock (N : Nat) (l1 : Int32) (l2 : Int32) (l3 : Int32) (S : St) : Option St := (fX2_begin N l3 S).bind (fun q13 => (fX5_firstOf N (q13.2 10) l1 q13).bind (fun q14 => (fX5_closeOf N (q14.2.2 10) l1 q14.2).bind (fun q15 => (fX2_measureBlock_28 N l1 l2 l3 q15.1 (q14.1, 0, q15.2)).bind (fun y16 => (fX2_rowOf N l1 l2 l3 y16).bind (fun q21 => (fX2_store N q21.1 q21.2).bind (fun q22 => some q22))))))
set_option maxRecDepth 20000 in
theorem rfX2_measureBlock (d N : Nat) (l1 : Int32) (l2 : Int32) (l3 : Int32) (S : St) (z : St) (h : fX2_measureBlock N l1 l2 l3 S = some z) : am_C (d + 5) 17 [.ref 20, .int l1, .int l2, .int l3] (am_T0 S) (none, am_T0 z) := by
  unfold fX2_measureBlock at h
  show am_Rn (am_C (d + 4)) (am_ct 17) (am_rk 17) (none, am_T0 z) (0, [some (.ref 20), some (.int l1), some (.int l2), some (.int l3), none, none, none, none], [], am_T0 S)
  refine am_Rn.op _ (1, [some (.ref 20), some (.int l1), some (.int l2), some (.int l3), none, none, none, none], [.ref 20], am_T0 S) rfl rfl ?_
  refine am_Rn.op _ (2, [some (.ref 20), some (.int l1), some (.int l2), some (.int l3), none, none, none, none], [.int l3, .ref 20], am_T0 S) rfl rfl ?_
  obtain ⟨q13, hq13, h⟩ := l2_b h
  refine am_Rn.cl _ none (am_T0 q13) rfl rfl (rfX2_begin (d + 2) N l3 S q13 hq13) ?_
  show am_Rn _ _ _ _ (5, [some (.ref 20), some (.int l1), some (.int l2), some (.int l3), none, none, none, none], [], am_T0 q13)
  refine am_Rn.op _ (6, [some (.ref 20), some (.int l1), some (.int l2), some (.int l3), none, none, none, none], [.ref 20], am_T0 q13) rfl rfl ?_
  refine am_Rn.op _ (9, [some (.ref 20), some (.int l1), some (.int l2), some (.int l3), none, none, none, none], [.ref (TA (q13.2 10))], am_T0 q13) rfl rfl ?_
  refine am_Rn.op _ (10, [some (.ref 20), some (.int l1), some (.int l2), some (.int l3), none, none, none, none], [.int l1, .ref (TA (q13.2 10))], am_T0 q13) rfl rfl ?_
  obtain ⟨q14, hq14, h⟩ := l2_b h
  refine am_Rn.cl _ (some (.int q14.1)) (am_T0 q14.2) rfl (o_clv rfl rfl rfl (l2_isO (q13.2 10) q13)) (rfX5_firstOf (d + 2) N (q13.2 10) l1 q13 q14 hq14) ?_
  show am_Rn _ _ _ _ (13, [some (.ref 20), some (.int l1), some (.int l2), some (.int l3), none, none, none, none], [.int q14.1], am_T0 q14.2)
  refine am_Rn.op _ (15, [some (.ref 20), some (.int l1), some (.int l2), some (.int l3), some (.int q14.1), none, none, none], [], am_T0 q14.2) rfl rfl ?_
  refine am_Rn.op _ (16, [some (.ref 20), some (.int l1), some (.int l2), some (.int l3), some (.int q14.1), none, none, none], [.ref 20], am_T0 q14.2) rfl rfl ?_
  refine am_Rn.op _ (19, [some (.ref 20), some (.int l1), some (.int l2), some (.int l3), some (.int q14.1), none, none, none], [.ref (TA (q14.2.2 10))], am_T0 q14.2) rfl rfl ?_
  refine am_Rn.op _ (20, [some (.ref 20), some (.int l1), some (.int l2), some (.int l3), some (.int q14.1), none, none, none], [.int l1, .ref (TA (q14.2.2 10))], am_T0 q14.2) rfl rfl ?_
  obtain ⟨q15, hq15, h⟩ := l2_b h
  refine am_Rn.cl _ (some (.int q15.1)) (am_T0 q15.2) rfl (o_clv rfl rfl rfl (l2_isO (q14.2.2 10) q14.2)) (rfX5_closeOf (d + 2) N (q14.2.2 10) l1 q14.2 q15 hq15) ?_
  show am_Rn _ _ _ _ (23, [some (.ref 20), some (.int l1), some (.int l2), some (.int l3), some (.int q14.1), none, none, none], [.int q15.1], am_T0 q15.2)
  refine am_Rn.op _ (25, [some (.ref 20), some (.int l1), some (.int l2), some (.int l3), some (.int q14.1), some (.int q15.1), none, none], [], am_T0 q15.2) rfl rfl ?_
  refine am_Rn.op _ (26, [some (.ref 20), some (.int l1), some (.int l2), some (.int l3), some (.int q14.1), some (.int q15.1), none, none], [.int 0], am_T0 q15.2) rfl rfl ?_
  refine am_Rn.op _ (28, [some (.ref 20), some (.int l1), some (.int l2), some (.int l3), some (.int q14.1), some (.int q15.1), some (.int 0), none], [], am_T0 q15.2) rfl rfl ?_
  obtain ⟨y16, hy16, h⟩ := l2_b h
  refine rfX2_measureBlock_28 d N _ l1 l2 l3 q15.1 (q14.1, 0, q15.2) y16 hy16 ?_ _
  intro w17 w18 w19 w20
  show am_Rn _ _ _ _ (301, [some (.ref 20), some (.int l1), some (.int l2), some (.int l3), w17, w18, w19, w20], [], am_T0 y16)
  refine am_Rn.op _ (302, [some (.ref 20), some (.int l1), some (.int l2), some (.int l3), w17, w18, w19, w20], [.ref 20], am_T0 y16) rfl rfl ?_
  refine am_Rn.op _ (303, [some (.ref 20), some (.int l1), some (.int l2), some (.int l3), w17, w18, w19, w20], [.ref 20, .ref 20], am_T0 y16) rfl rfl ?_
  refine am_Rn.op _ (304, [some (.ref 20), some (.int l1), some (.int l2), some (.int l3), w17, w18, w19, w20], [.int l1, .ref 20, .ref 20], am_T0 y16) rfl rfl ?_
  refine am_Rn.op _ (305, [some (.ref 20), some (.int l1), some (.int l2), some (.int l3), w17, w18, w19, w20], [.int l2, .int l1, .ref 20, .ref 20], am_T0 y16) rfl rfl ?_
  refine am_Rn.op _ (306, [some (.ref 20), some (.int l1), some (.int l2), some (.int l3), w17, w18, w19, w20], [.int l3, .int l2, .int l1, .ref 20, .ref 20], am_T0 y16) rfl rfl ?_
  obtain ⟨q21, hq21, h⟩ := l2_b h
  refine am_Rn.cl _ (some (.int q21.1)) (am_T0 q21.2) rfl rfl (rfX2_rowOf (d + 2) N l1 l2 l3 y16 q21 hq21) ?_
  show am_Rn _ _ _ _ (309, [some (.ref 20), some (.int l1), some (.int l2), some (.int l3), w17, w18, w19, w20], [.int q21.1, .ref 20], am_T0 q21.2)
  obtain ⟨q22, hq22, h⟩ := l2_b h
  refine am_Rn.cl _ none (am_T0 q22) rfl rfl (rfX2_store (d + 2) N q21.1 q21.2 q22 hq22) ?_
  show am_Rn _ _ _ _ (312, [some (.ref 20), some (.int l1), some (.int l2), some (.int l3), w17, w18, w19, w20], [], am_T0 q22)
  cases h
  exact am_Rn.rt _ rfl rfl
-- X2_measureAll
def PfX2_measureAll_15 (d : Nat) (res : Option Value × am_S) (x : Int32 × St) : Prop := ∀ (w1 w3 w4 : Option Value), am_Rn (am_C d) (am_ct 11) (am_rk 11) res (15, [some (.ref 20), w1, some (.int x.1), w3, w4], [], am_T0 x.2)
def QfX2_measureAll_15 (d : Nat) (res : Option Value × am_S) (y : St) : Prop := res = (none, am_T0 y)
def PfX2_measureAll_21 (d : Nat) (res : Option Value × am_S) (l2 : Int32) (x : Int32 × St) : Prop := ∀ (w1 w4 : Option Value), am_Rn (am_C d) (am_ct 11) (am_rk 11) res (21, [some (.ref 20), w1, some (.int l2), some (.int x.1), w4], [], am_T0 x.2)
def QfX2_measureAll_21 (d : Nat) (res : Option Value × am_S) (l2 : Int32) (y : St) : Prop := ∀ (w1 w3 w4 : Option Value), am_Rn (am_C d) (am_ct 11) (am_rk 11) res (65, [some (.ref 20), w1, some (.int l2), w3, w4], [], am_T0 y)
def PfX2_measureAll_39 (d : Nat) (res : Option Value × am_S) (l2 : Int32) (l3 : Int32) (x : Int32 × St) : Prop := ∀ (w1 : Option Value), am_Rn (am_C d) (am_ct 11) (am_rk 11) res (39, [some (.ref 20), w1, some (.int l2), some (.int l3), some (.int x.1)], [], am_T0 x.2)
def QfX2_measureAll_39 (d : Nat) (res : Option Value × am_S) (l2 : Int32) (l3 : Int32) (y : St) : Prop := ∀ (w1 w4 : Option Value), am_Rn (am_C d) (am_ct 11) (am_rk 11) res (59, [some (.ref 20), w1, some (.int l2), some (.int l3), w4], [], am_T0 y)
def fX2_measureAll_59 (N : Nat) (l2 : Int32) (l3 : Int32) (S : St) : Option ((Int32 × St) ⊕ (St)) := some (.inl ((l3 + 1), S))
set_option maxRecDepth 20000 in
theorem rfX2_measureAll_59 (d N : Nat) (res : Option Value × am_S) (l2 : Int32) (l3 : Int32) (S : St) (z : (Int32 × St) ⊕ (St)) (h : fX2_measureAll_59 N l2 l3 S = some z) (hz : Sum.elim (PfX2_measureAll_21 (d + 5) res l2 ) (QfX2_measureAll_21 (d + 5) res l2 ) z) (w1 : Option Value) (w4 : Option Value) : am_Rn (am_C (d + 5)) (am_ct 11) (am_rk 11) res (59, [some (.ref 20), w1, some (.int l2), some (.int l3), w4], [], am_T0 S) := by
  unfold fX2_measureAll_59 at h
  refine am_Rn.op _ (62, [some (.ref 20), w1, some (.int l2), some (.int (l3 + 1)), w4], [], am_T0 S) rfl rfl ?_
  refine am_Rn.op _ (21, [some (.ref 20), w1, some (.int l2), some (.int (l3 + 1)), w4], [], am_T0 S) rfl rfl ?_
  cases h
  exact hz _ _
def bfX2_measureAll_39 (N : Nat) (l2 : Int32) (l3 : Int32) (x : Int32 × St) : Option ((Int32 × St) ⊕ (St)) := (if 4 ≤ x.1 then some (.inr (x.2)) else (fX2_measureBlock N l2 l3 x.1 x.2).bind (fun q1 => some (.inl ((x.1 + 1), q1))))
def fX2_measureAll_39 (N : Nat) (l2 : Int32) (l3 : Int32) (x : Int32 × St) : Option (St) := whl N (bfX2_measureAll_39 N l2 l3 ) x
set_option maxRecDepth 20000 in
theorem rbfX2_measureAll_39 (d N : Nat) (res : Option Value × am_S) (l2 : Int32) (l3 : Int32) (x : Int32 × St) (z : (Int32 × St) ⊕ (St)) (h : bfX2_measureAll_39 N l2 l3 x = some z) (hz : Sum.elim (PfX2_measureAll_39 (d + 5) res l2 l3 ) (QfX2_measureAll_39 (d + 5) res l2 l3 ) z) : PfX2_measureAll_39 (d + 5) res l2 l3 x := by
  unfold bfX2_measureAll_39 at h
  show ∀ (w1 : Option Value), am_Rn (am_C (d + 5)) (am_ct 11) (am_rk 11) res (39, [some (.ref 20), w1, some (.int l2), some (.int l3), some (.int x.1)], [], am_T0 x.2)
  intro w1
  refine am_Rn.op _ (41, [some (.ref 20), w1, some (.int l2), some (.int l3), some (.int x.1)], [.int x.1], am_T0 x.2) rfl rfl ?_
  refine am_Rn.op _ (42, [some (.ref 20), w1, some (.int l2), some (.int l3), some (.int x.1)], [.int 4, .int x.1], am_T0 x.2) rfl rfl ?_
  refine am_Rn.op _ (if 4 ≤ x.1 then 59 else 45, [some (.ref 20), w1, some (.int l2), some (.int l3), some (.int x.1)], [], am_T0 x.2) rfl rfl ?_
  rcases l2_i h with ⟨hc, h⟩ | ⟨hc, h⟩
  · refine am_Rn.ifT hc ?_
    cases h
    exact hz _ _
  · refine am_Rn.ifF hc ?_
    refine am_Rn.op _ (46, [some (.ref 20), w1, some (.int l2), some (.int l3), some (.int x.1)], [.ref 20], am_T0 x.2) rfl rfl ?_
    refine am_Rn.op _ (47, [some (.ref 20), w1, some (.int l2), some (.int l3), some (.int x.1)], [.int l2, .ref 20], am_T0 x.2) rfl rfl ?_
    refine am_Rn.op _ (48, [some (.ref 20), w1, some (.int l2), some (.int l3), some (.int x.1)], [.int l3, .int l2, .ref 20], am_T0 x.2) rfl rfl ?_
    refine am_Rn.op _ (50, [some (.ref 20), w1, some (.int l2), some (.int l3), some (.int x.1)], [.int x.1, .int l3, .int l2, .ref 20], am_T0 x.2) rfl rfl ?_
    obtain ⟨q1, hq1, h⟩ := l2_b h
    refine am_Rn.cl _ none (am_T0 q1) rfl rfl (rfX2_measureBlock (d + 0) N l2 l3 x.1 x.2 q1 hq1) ?_
    show am_Rn _ _ _ _ (53, [some (.ref 20), w1, some (.int l2), some (.int l3), some (.int x.1)], [], am_T0 q1)
    refine am_Rn.op _ (56, [some (.ref 20), w1, some (.int l2), some (.int l3), some (.int (x.1 + 1))], [], am_T0 q1) rfl rfl ?_
    refine am_Rn.op _ (39, [some (.ref 20), w1, some (.int l2), some (.int l3), some (.int (x.1 + 1))], [], am_T0 q1) rfl rfl ?_
    cases h
    exact hz _
theorem rfX2_measureAll_39 (d N : Nat) (res : Option Value × am_S) (l2 : Int32) (l3 : Int32) (x : Int32 × St) (y : St) (h : fX2_measureAll_39 N l2 l3 x = some y) (hq : QfX2_measureAll_39 (d + 5) res l2 l3 y) : PfX2_measureAll_39 (d + 5) res l2 l3 x := whl_ind _ _ (fun x z => rbfX2_measureAll_39 d N res l2 l3 x z) N x y h hq
def bfX2_measureAll_21 (N : Nat) (l2 : Int32) (x : Int32 × St) : Option ((Int32 × St) ⊕ (St)) := (if 6 ≤ x.1 then some (.inr (x.2)) else (fX2_matters N l2 x.1 x.2).bind (fun q2 => (if q2.1 = 0 then fX2_measureAll_59 N l2 x.1 q2.2 else (fX2_measureAll_39 N l2 x.1 (0, q2.2)).bind (fun y3 => fX2_measureAll_59 N l2 x.1 y3))))
def fX2_measureAll_21 (N : Nat) (l2 : Int32) (x : Int32 × St) : Option (St) := whl N (bfX2_measureAll_21 N l2 ) x
set_option maxRecDepth 20000 in
theorem rbfX2_measureAll_21 (d N : Nat) (res : Option Value × am_S) (l2 : Int32) (x : Int32 × St) (z : (Int32 × St) ⊕ (St)) (h : bfX2_measureAll_21 N l2 x = some z) (hz : Sum.elim (PfX2_measureAll_21 (d + 5) res l2 ) (QfX2_measureAll_21 (d + 5) res l2 ) z) : PfX2_measureAll_21 (d + 5) res l2 x := by
  unfold bfX2_measureAll_21 at h
  show ∀ (w1 w4 : Option Value), am_Rn (am_C (d + 5)) (am_ct 11) (am_rk 11) res (21, [some (.ref 20), w1, some (.int l2), some (.int x.1), w4], [], am_T0 x.2)
  intro w1 w4
  refine am_Rn.op _ (22, [some (.ref 20), w1, some (.int l2), some (.int x.1), w4], [.int x.1], am_T0 x.2) rfl rfl ?_
  refine am_Rn.op _ (24, [some (.ref 20), w1, some (.int l2), some (.int x.1), w4], [.int 6, .int x.1], am_T0 x.2) rfl rfl ?_
  refine am_Rn.op _ (if 6 ≤ x.1 then 65 else 27, [some (.ref 20), w1, some (.int l2), some (.int x.1), w4], [], am_T0 x.2) rfl rfl ?_
  rcases l2_i h with ⟨hc, h⟩ | ⟨hc, h⟩
  · refine am_Rn.ifT hc ?_
    cases h
    exact hz _ _ _
  · refine am_Rn.ifF hc ?_
    refine am_Rn.op _ (28, [some (.ref 20), w1, some (.int l2), some (.int x.1), w4], [.ref 20], am_T0 x.2) rfl rfl ?_
    refine am_Rn.op _ (29, [some (.ref 20), w1, some (.int l2), some (.int x.1), w4], [.int l2, .ref 20], am_T0 x.2) rfl rfl ?_
    refine am_Rn.op _ (30, [some (.ref 20), w1, some (.int l2), some (.int x.1), w4], [.int x.1, .int l2, .ref 20], am_T0 x.2) rfl rfl ?_
    obtain ⟨q2, hq2, h⟩ := l2_b h
    refine am_Rn.cl _ (some (.int q2.1)) (am_T0 q2.2) rfl rfl (rfX2_matters (d + 2) N l2 x.1 x.2 q2 hq2) ?_
    show am_Rn _ _ _ _ (33, [some (.ref 20), w1, some (.int l2), some (.int x.1), w4], [.int q2.1], am_T0 q2.2)
    refine am_Rn.op _ (if q2.1 = 0 then 59 else 36, [some (.ref 20), w1, some (.int l2), some (.int x.1), w4], [], am_T0 q2.2) rfl rfl ?_
    rcases l2_i h with ⟨hc, h⟩ | ⟨hc, h⟩
    · refine am_Rn.ifT hc ?_
      exact rfX2_measureAll_59 d N _ l2 x.1 q2.2 _ h hz _ _
    · refine am_Rn.ifF hc ?_
      refine am_Rn.op _ (37, [some (.ref 20), w1, some (.int l2), some (.int x.1), w4], [.int 0], am_T0 q2.2) rfl rfl ?_
      refine am_Rn.op _ (39, [some (.ref 20), w1, some (.int l2), some (.int x.1), some (.int 0)], [], am_T0 q2.2) rfl rfl ?_
      obtain ⟨y3, hy3, h⟩ := l2_b h
      refine rfX2_measureAll_39 d N _ l2 x.1 (0, q2.2) y3 hy3 ?_ _
      intro w4 w5
      show am_Rn _ _ _ _ (59, [some (.ref 20), w4, some (.int l2), some (.int x.1), w5], [], am_T0 y3)
      exact rfX2_measureAll_59 d N _ l2 x.1 y3 _ h hz _ _
theorem rfX2_measureAll_21 (d N : Nat) (res : Option Value × am_S) (l2 : Int32) (x : Int32 × St) (y : St) (h : fX2_measureAll_21 N l2 x = some y) (hq : QfX2_measureAll_21 (d + 5) res l2 y) : PfX2_measureAll_21 (d + 5) res l2 x := whl_ind _ _ (fun x z => rbfX2_measureAll_21 d N res l2 x z) N x y h hq
def bfX2_measureAll_15 (N : Nat) (x : Int32 × St) : Option ((Int32 × St) ⊕ (St)) := (if x.1 < 0 then some (.inr x.2) else (fX2_measureAll_21 N x.1 (0, x.2)).bind (fun y6 => some (.inl ((x.1 + (-1)), y6))))
def fX2_measureAll_15 (N : Nat) (x : Int32 × St) : Option (St) := whl N (bfX2_measureAll_15 N ) x
set_option maxRecDepth 20000 in
theorem rbfX2_measureAll_15 (d N : Nat) (res : Option Value × am_S) (x : Int32 × St) (z : (Int32 × St) ⊕ (St)) (h : bfX2_measureAll_15 N x = some z) (hz : Sum.elim (PfX2_measureAll_15 (d + 5) res ) (QfX2_measureAll_15 (d + 5) res ) z) : PfX2_measureAll_15 (d + 5) res x := by
  unfold bfX2_measureAll_15 at h
  show ∀ (w1 w3 w4 : Option Value), am_Rn (am_C (d + 5)) (am_ct 11) (am_rk 11) res (15, [some (.ref 20), w1, some (.int x.1), w3, w4], [], am_T0 x.2)
  intro w1 w3 w4
  refine am_Rn.op _ (16, [some (.ref 20), w1, some (.int x.1), w3, w4], [.int x.1], am_T0 x.2) rfl rfl ?_
  refine am_Rn.op _ (if x.1 < 0 then 71 else 19, [some (.ref 20), w1, some (.int x.1), w3, w4], [], am_T0 x.2) rfl rfl ?_
  rcases l2_i h with ⟨hc, h⟩ | ⟨hc, h⟩
  · refine am_Rn.ifT hc ?_
    cases h
    exact am_Rn.rt2 _ rfl rfl hz
  · refine am_Rn.ifF hc ?_
    refine am_Rn.op _ (20, [some (.ref 20), w1, some (.int x.1), w3, w4], [.int 0], am_T0 x.2) rfl rfl ?_
    refine am_Rn.op _ (21, [some (.ref 20), w1, some (.int x.1), some (.int 0), w4], [], am_T0 x.2) rfl rfl ?_
    obtain ⟨y6, hy6, h⟩ := l2_b h
    refine rfX2_measureAll_21 d N _ x.1 (0, x.2) y6 hy6 ?_ _ _
    intro w7 w8 w9
    show am_Rn _ _ _ _ (65, [some (.ref 20), w7, some (.int x.1), w8, w9], [], am_T0 y6)
    refine am_Rn.op _ (68, [some (.ref 20), w7, some (.int (x.1 + (-1))), w8, w9], [], am_T0 y6) rfl rfl ?_
    refine am_Rn.op _ (15, [some (.ref 20), w7, some (.int (x.1 + (-1))), w8, w9], [], am_T0 y6) rfl rfl ?_
    cases h
    exact hz _ _ _
theorem rfX2_measureAll_15 (d N : Nat) (res : Option Value × am_S) (x : Int32 × St) (y : St) (h : fX2_measureAll_15 N x = some y) (hq : QfX2_measureAll_15 (d + 5) res y) : PfX2_measureAll_15 (d + 5) res x := whl_ind _ _ (fun x z => rbfX2_measureAll_15 d N res x z) N x y h hq
def fX2_measureAll (N : Nat) (n1 : Nat) (S : St) : Option St := (fX5_blocks N ((st_p S 10 n1).2 10) (st_p S 10 n1)).bind (fun q10 => (fX2_measureAll_15 N ((q10.1 - 1), q10.2)).bind (fun y11 => some y11))
set_option maxRecDepth 20000 in
theorem rfX2_measureAll (d N : Nat) (n1 : Nat) (S : St) (z : St) (h : fX2_measureAll N n1 S = some z) : am_C (d + 6) 11 [.ref 20, .ref (TA n1)] (am_T0 S) (none, am_T0 z) := by
  unfold fX2_measureAll at h
  show am_Rn (am_C (d + 5)) (am_ct 11) (am_rk 11) (none, am_T0 z) (0, [some (.ref 20), some (.ref (TA n1)), none, none, none], [], am_T0 S)
  refine am_Rn.op _ (1, [some (.ref 20), some (.ref (TA n1)), none, none, none], [.ref 20], am_T0 S) rfl rfl ?_
  refine am_Rn.op _ (2, [some (.ref 20), some (.ref (TA n1)), none, none, none], [.ref (TA n1), .ref 20], am_T0 S) rfl rfl ?_
  refine am_Rn.op _ (5, [some (.ref 20), some (.ref (TA n1)), none, none, none], [], (S.1, am_u2 (PP S.2) 20 2 (some (TA n1)), 148)) rfl rfl ?_
  rw [l2_put (j := 10) rfl]
  show am_Rn _ _ _ _ (5, [some (.ref 20), some (.ref (TA n1)), none, none, none], [], am_T0 (st_p S 10 n1))
  refine am_Rn.op _ (6, [some (.ref 20), some (.ref (TA n1)), none, none, none], [.ref 20], am_T0 (st_p S 10 n1)) rfl rfl ?_
  refine am_Rn.op _ (9, [some (.ref 20), some (.ref (TA n1)), none, none, none], [.ref (TA ((st_p S 10 n1).2 10))], am_T0 (st_p S 10 n1)) rfl rfl ?_
  obtain ⟨q10, hq10, h⟩ := l2_b h
  refine am_Rn.cl _ (some (.int q10.1)) (am_T0 q10.2) rfl (o_clv rfl rfl rfl (l2_isO ((st_p S 10 n1).2 10) (st_p S 10 n1))) (rfX5_blocks (d + 4) N ((st_p S 10 n1).2 10) (st_p S 10 n1) q10 hq10) ?_
  show am_Rn _ _ _ _ (12, [some (.ref 20), some (.ref (TA n1)), none, none, none], [.int q10.1], am_T0 q10.2)
  refine am_Rn.op _ (13, [some (.ref 20), some (.ref (TA n1)), none, none, none], [.int 1, .int q10.1], am_T0 q10.2) rfl rfl ?_
  refine am_Rn.op _ (14, [some (.ref 20), some (.ref (TA n1)), none, none, none], [.int (q10.1 - 1)], am_T0 q10.2) rfl rfl ?_
  refine am_Rn.op _ (15, [some (.ref 20), some (.ref (TA n1)), some (.int (q10.1 - 1)), none, none], [], am_T0 q10.2) rfl rfl ?_
  obtain ⟨y11, hy11, h⟩ := l2_b h
  refine rfX2_measureAll_15 d N _  ((q10.1 - 1), q10.2) y11 hy11 ?_ _ _ _
  cases h
  exact rfl
-- X2_tellExits
def PfX2_tellExits_4 (d : Nat) (res : Option Value × am_S) (l1 : Int32) (x : Int32 × Int32 × St) : Prop := ∀ (w4 w5 w6 w7 : Option Value), am_Rn (am_C d) (am_ct 12) (am_rk 12) res (4, [some (.ref 20), some (.int l1), some (.int x.1), some (.int x.2.1), w4, w5, w6, w7], [], am_T0 x.2.2)
def QfX2_tellExits_4 (d : Nat) (res : Option Value × am_S) (l1 : Int32) (y : (Int32 × St)) : Prop := res = (some (.int y.1), am_T0 y.2)
def PfX2_tellExits_21 (d : Nat) (res : Option Value × am_S) (l1 : Int32) (l3 : Int32) (l4 : Int32) (x : Int32 × Int32 × St) : Prop := ∀ (w6 w7 : Option Value), am_Rn (am_C d) (am_ct 12) (am_rk 12) res (21, [some (.ref 20), some (.int l1), some (.int x.1), some (.int l3), some (.int l4), some (.int x.2.1), w6, w7], [], am_T0 x.2.2)
def QfX2_tellExits_21 (d : Nat) (res : Option Value × am_S) (l1 : Int32) (l3 : Int32) (l4 : Int32) (y : Int32 × St) : Prop := ∀ (w4 w5 w6 w7 : Option Value), am_Rn (am_C d) (am_ct 12) (am_rk 12) res (101, [some (.ref 20), some (.int l1), some (.int y.1), some (.int l3), w4, w5, w6, w7], [], am_T0 y.2)
def PfX2_tellExits_31 (d : Nat) (res : Option Value × am_S) (l1 : Int32) (l3 : Int32) (l4 : Int32) (l5 : Int32) (x : Int32 × Int32 × St) : Prop := ∀ (w7 : Option Value), am_Rn (am_C d) (am_ct 12) (am_rk 12) res (31, [some (.ref 20), some (.int l1), some (.int x.1), some (.int l3), some (.int l4), some (.int l5), some (.int x.2.1), w7], [], am_T0 x.2.2)
def QfX2_tellExits_31 (d : Nat) (res : Option Value × am_S) (l1 : Int32) (l3 : Int32) (l4 : Int32) (l5 : Int32) (y : Int32 × St) : Prop := ∀ (w6 w7 : Option Value), am_Rn (am_C d) (am_ct 12) (am_rk 12) res (95, [some (.ref 20), some (.int l1), some (.int y.1), some (.int l3), some (.int l4), some (.int l5), w6, w7], [], am_T0 y.2)
def fX2_tellExits_71 (N : Nat) (l1 : Int32) (l2 : Int32) (l3 : Int32) (l4 : Int32) (l5 : Int32) (l6 : Int32) (l7 : Int32) (S : St) : Option ((Int32 × Int32 × St) ⊕ (Int32 × St)) := (fX0_put N l1 l3 l5 l6 l7 S).bind (fun q1 => some (.inl ((l2 ||| q1.1), (l6 + 1), q1.2)))
set_option maxRecDepth 20000 in
theorem rfX2_tellExits_71 (d N : Nat) (res : Option Value × am_S) (l1 : Int32) (l2 : Int32) (l3 : Int32) (l4 : Int32) (l5 : Int32) (l6 : Int32) (l7 : Int32) (S : St) (z : (Int32 × Int32 × St) ⊕ (Int32 × St)) (h : fX2_tellExits_71 N l1 l2 l3 l4 l5 l6 l7 S = some z) (hz : Sum.elim (PfX2_tellExits_31 (d + 3) res l1 l3 l4 l5 ) (QfX2_tellExits_31 (d + 3) res l1 l3 l4 l5 ) z) : am_Rn (am_C (d + 3)) (am_ct 12) (am_rk 12) res (71, [some (.ref 20), some (.int l1), some (.int l2), some (.int l3), some (.int l4), some (.int l5), some (.int l6), some (.int l7)], [], am_T0 S) := by
  unfold fX2_tellExits_71 at h
  refine am_Rn.op _ (72, [some (.ref 20), some (.int l1), some (.int l2), some (.int l3), some (.int l4), some (.int l5), some (.int l6), some (.int l7)], [.int l2], am_T0 S) rfl rfl ?_
  refine am_Rn.op _ (73, [some (.ref 20), some (.int l1), some (.int l2), some (.int l3), some (.int l4), some (.int l5), some (.int l6), some (.int l7)], [.ref 20, .int l2], am_T0 S) rfl rfl ?_
  refine am_Rn.op _ (76, [some (.ref 20), some (.int l1), some (.int l2), some (.int l3), some (.int l4), some (.int l5), some (.int l6), some (.int l7)], [.ref 18, .int l2], am_T0 S) rfl rfl ?_
  refine am_Rn.op _ (77, [some (.ref 20), some (.int l1), some (.int l2), some (.int l3), some (.int l4), some (.int l5), some (.int l6), some (.int l7)], [.int l1, .ref 18, .int l2], am_T0 S) rfl rfl ?_
  refine am_Rn.op _ (78, [some (.ref 20), some (.int l1), some (.int l2), some (.int l3), some (.int l4), some (.int l5), some (.int l6), some (.int l7)], [.int l3, .int l1, .ref 18, .int l2], am_T0 S) rfl rfl ?_
  refine am_Rn.op _ (80, [some (.ref 20), some (.int l1), some (.int l2), some (.int l3), some (.int l4), some (.int l5), some (.int l6), some (.int l7)], [.int l5, .int l3, .int l1, .ref 18, .int l2], am_T0 S) rfl rfl ?_
  refine am_Rn.op _ (82, [some (.ref 20), some (.int l1), some (.int l2), some (.int l3), some (.int l4), some (.int l5), some (.int l6), some (.int l7)], [.int l6, .int l5, .int l3, .int l1, .ref 18, .int l2], am_T0 S) rfl rfl ?_
  refine am_Rn.op _ (84, [some (.ref 20), some (.int l1), some (.int l2), some (.int l3), some (.int l4), some (.int l5), some (.int l6), some (.int l7)], [.int l7, .int l6, .int l5, .int l3, .int l1, .ref 18, .int l2], am_T0 S) rfl rfl ?_
  obtain ⟨q1, hq1, h⟩ := l2_b h
  refine am_Rn.cl _ (some (.int q1.1)) (am_T0 q1.2) rfl rfl (rfX0_put (d + 0) N l1 l3 l5 l6 l7 S q1 hq1) ?_
  show am_Rn _ _ _ _ (87, [some (.ref 20), some (.int l1), some (.int l2), some (.int l3), some (.int l4), some (.int l5), some (.int l6), some (.int l7)], [.int q1.1, .int l2], am_T0 q1.2)
  refine am_Rn.op _ (88, [some (.ref 20), some (.int l1), some (.int l2), some (.int l3), some (.int l4), some (.int l5), some (.int l6), some (.int l7)], [.int (l2 ||| q1.1)], am_T0 q1.2) rfl rfl ?_
  refine am_Rn.op _ (89, [some (.ref 20), some (.int l1), some (.int (l2 ||| q1.1)), some (.int l3), some (.int l4), some (.int l5), some (.int l6), some (.int l7)], [], am_T0 q1.2) rfl rfl ?_
  refine am_Rn.op _ (92, [some (.ref 20), some (.int l1), some (.int (l2 ||| q1.1)), some (.int l3), some (.int l4), some (.int l5), some (.int (l6 + 1)), some (.int l7)], [], am_T0 q1.2) rfl rfl ?_
  refine am_Rn.op _ (31, [some (.ref 20), some (.int l1), some (.int (l2 ||| q1.1)), some (.int l3), some (.int l4), some (.int l5), some (.int (l6 + 1)), some (.int l7)], [], am_T0 q1.2) rfl rfl ?_
  cases h
  exact hz _
def bfX2_tellExits_31 (N : Nat) (l1 : Int32) (l3 : Int32) (l4 : Int32) (l5 : Int32) (x : Int32 × Int32 × St) : Option ((Int32 × Int32 × St) ⊕ (Int32 × St)) := (if 4 ≤ x.2.1 then some (.inr (x.1, x.2.2)) else (fX2_cell N l4 l5 x.2.1 x.2.2).bind (fun q2 => (if l5 = 0 then (fX2_cell N l4 7 x.2.1 q2.2).bind (fun q3 => fX2_tellExits_71 N l1 x.1 l3 l4 l5 x.2.1 (if q3.1 < q2.1 then q3.1 else q2.1) q3.2) else fX2_tellExits_71 N l1 x.1 l3 l4 l5 x.2.1 q2.1 q2.2)))
def fX2_tellExits_31 (N : Nat) (l1 : Int32) (l3 : Int32) (l4 : Int32) (l5 : Int32) (x : Int32 × Int32 × St) : Option (Int32 × St) := whl N (bfX2_tellExits_31 N l1 l3 l4 l5 ) x
set_option maxRecDepth 20000 in
theorem rbfX2_tellExits_31 (d N : Nat) (res : Option Value × am_S) (l1 : Int32) (l3 : Int32) (l4 : Int32) (l5 : Int32) (x : Int32 × Int32 × St) (z : (Int32 × Int32 × St) ⊕ (Int32 × St)) (h : bfX2_tellExits_31 N l1 l3 l4 l5 x = some z) (hz : Sum.elim (PfX2_tellExits_31 (d + 3) res l1 l3 l4 l5 ) (QfX2_tellExits_31 (d + 3) res l1 l3 l4 l5 ) z) : PfX2_tellExits_31 (d + 3) res l1 l3 l4 l5 x := by
  unfold bfX2_tellExits_31 at h
  show ∀ (w7 : Option Value), am_Rn (am_C (d + 3)) (am_ct 12) (am_rk 12) res (31, [some (.ref 20), some (.int l1), some (.int x.1), some (.int l3), some (.int l4), some (.int l5), some (.int x.2.1), w7], [], am_T0 x.2.2)
  intro w7
  refine am_Rn.op _ (33, [some (.ref 20), some (.int l1), some (.int x.1), some (.int l3), some (.int l4), some (.int l5), some (.int x.2.1), w7], [.int x.2.1], am_T0 x.2.2) rfl rfl ?_
  refine am_Rn.op _ (34, [some (.ref 20), some (.int l1), some (.int x.1), some (.int l3), some (.int l4), some (.int l5), some (.int x.2.1), w7], [.int 4, .int x.2.1], am_T0 x.2.2) rfl rfl ?_
  refine am_Rn.op _ (if 4 ≤ x.2.1 then 95 else 37, [some (.ref 20), some (.int l1), some (.int x.1), some (.int l3), some (.int l4), some (.int l5), some (.int x.2.1), w7], [], am_T0 x.2.2) rfl rfl ?_
  rcases l2_i h with ⟨hc, h⟩ | ⟨hc, h⟩
  · refine am_Rn.ifT hc ?_
    cases h
    exact hz _ _
  · refine am_Rn.ifF hc ?_
    refine am_Rn.op _ (38, [some (.ref 20), some (.int l1), some (.int x.1), some (.int l3), some (.int l4), some (.int l5), some (.int x.2.1), w7], [.ref 20], am_T0 x.2.2) rfl rfl ?_
    refine am_Rn.op _ (40, [some (.ref 20), some (.int l1), some (.int x.1), some (.int l3), some (.int l4), some (.int l5), some (.int x.2.1), w7], [.int l4, .ref 20], am_T0 x.2.2) rfl rfl ?_
    refine am_Rn.op _ (42, [some (.ref 20), some (.int l1), some (.int x.1), some (.int l3), some (.int l4), some (.int l5), some (.int x.2.1), w7], [.int l5, .int l4, .ref 20], am_T0 x.2.2) rfl rfl ?_
    refine am_Rn.op _ (44, [some (.ref 20), some (.int l1), some (.int x.1), some (.int l3), some (.int l4), some (.int l5), some (.int x.2.1), w7], [.int x.2.1, .int l5, .int l4, .ref 20], am_T0 x.2.2) rfl rfl ?_
    obtain ⟨q2, hq2, h⟩ := l2_b h
    refine am_Rn.cl _ (some (.int q2.1)) (am_T0 q2.2) rfl rfl (rfX2_cell (d + 2) N l4 l5 x.2.1 x.2.2 q2 hq2) ?_
    show am_Rn _ _ _ _ (47, [some (.ref 20), some (.int l1), some (.int x.1), some (.int l3), some (.int l4), some (.int l5), some (.int x.2.1), w7], [.int q2.1], am_T0 q2.2)
    refine am_Rn.op _ (49, [some (.ref 20), some (.int l1), some (.int x.1), some (.int l3), some (.int l4), some (.int l5), some (.int x.2.1), some (.int q2.1)], [], am_T0 q2.2) rfl rfl ?_
    refine am_Rn.op _ (51, [some (.ref 20), some (.int l1), some (.int x.1), some (.int l3), some (.int l4), some (.int l5), some (.int x.2.1), some (.int q2.1)], [.int l5], am_T0 q2.2) rfl rfl ?_
    refine am_Rn.op _ (if l5 = 0 then 54 else 71, [some (.ref 20), some (.int l1), some (.int x.1), some (.int l3), some (.int l4), some (.int l5), some (.int x.2.1), some (.int q2.1)], [], am_T0 q2.2) rfl rfl ?_
    rcases l2_i h with ⟨hc, h⟩ | ⟨hc, h⟩
    · refine am_Rn.ifT hc ?_
      refine am_Rn.op _ (56, [some (.ref 20), some (.int l1), some (.int x.1), some (.int l3), some (.int l4), some (.int l5), some (.int x.2.1), some (.int q2.1)], [.int q2.1], am_T0 q2.2) rfl rfl ?_
      refine am_Rn.op _ (57, [some (.ref 20), some (.int l1), some (.int x.1), some (.int l3), some (.int l4), some (.int l5), some (.int x.2.1), some (.int q2.1)], [.ref 20, .int q2.1], am_T0 q2.2) rfl rfl ?_
      refine am_Rn.op _ (59, [some (.ref 20), some (.int l1), some (.int x.1), some (.int l3), some (.int l4), some (.int l5), some (.int x.2.1), some (.int q2.1)], [.int l4, .ref 20, .int q2.1], am_T0 q2.2) rfl rfl ?_
      refine am_Rn.op _ (61, [some (.ref 20), some (.int l1), some (.int x.1), some (.int l3), some (.int l4), some (.int l5), some (.int x.2.1), some (.int q2.1)], [.int 7, .int l4, .ref 20, .int q2.1], am_T0 q2.2) rfl rfl ?_
      refine am_Rn.op _ (63, [some (.ref 20), some (.int l1), some (.int x.1), some (.int l3), some (.int l4), some (.int l5), some (.int x.2.1), some (.int q2.1)], [.int x.2.1, .int 7, .int l4, .ref 20, .int q2.1], am_T0 q2.2) rfl rfl ?_
      obtain ⟨q3, hq3, h⟩ := l2_b h
      refine am_Rn.cl _ (some (.int q3.1)) (am_T0 q3.2) rfl rfl (rfX2_cell (d + 2) N l4 7 x.2.1 q2.2 q3 hq3) ?_
      show am_Rn _ _ _ _ (66, [some (.ref 20), some (.int l1), some (.int x.1), some (.int l3), some (.int l4), some (.int l5), some (.int x.2.1), some (.int q2.1)], [.int q3.1, .int q2.1], am_T0 q3.2)
      refine am_Rn.op _ (69, [some (.ref 20), some (.int l1), some (.int x.1), some (.int l3), some (.int l4), some (.int l5), some (.int x.2.1), some (.int q2.1)], [.int (if q3.1 < q2.1 then q3.1 else q2.1)], am_T0 q3.2) rfl rfl ?_
      refine am_Rn.op _ (71, [some (.ref 20), some (.int l1), some (.int x.1), some (.int l3), some (.int l4), some (.int l5), some (.int x.2.1), some (.int (if q3.1 < q2.1 then q3.1 else q2.1))], [], am_T0 q3.2) rfl rfl ?_
      exact rfX2_tellExits_71 d N _ l1 x.1 l3 l4 l5 x.2.1 (if q3.1 < q2.1 then q3.1 else q2.1) q3.2 _ h hz 
    · refine am_Rn.ifF hc ?_
      exact rfX2_tellExits_71 d N _ l1 x.1 l3 l4 l5 x.2.1 q2.1 q2.2 _ h hz 
theorem rfX2_tellExits_31 (d N : Nat) (res : Option Value × am_S) (l1 : Int32) (l3 : Int32) (l4 : Int32) (l5 : Int32) (x : Int32 × Int32 × St) (y : Int32 × St) (h : fX2_tellExits_31 N l1 l3 l4 l5 x = some y) (hq : QfX2_tellExits_31 (d + 3) res l1 l3 l4 l5 y) : PfX2_tellExits_31 (d + 3) res l1 l3 l4 l5 x := whl_ind _ _ (fun x z => rbfX2_tellExits_31 d N res l1 l3 l4 l5 x z) N x y h hq
def bfX2_tellExits_21 (N : Nat) (l1 : Int32) (l3 : Int32) (l4 : Int32) (x : Int32 × Int32 × St) : Option ((Int32 × Int32 × St) ⊕ (Int32 × St)) := (if 7 ≤ x.2.1 then some (.inr (x.1, x.2.2)) else (fX2_tellExits_31 N l1 l3 l4 x.2.1 (x.1, 0, x.2.2)).bind (fun y4 => some (.inl (y4.1, (x.2.1 + 1), y4.2))))
def fX2_tellExits_21 (N : Nat) (l1 : Int32) (l3 : Int32) (l4 : Int32) (x : Int32 × Int32 × St) : Option (Int32 × St) := whl N (bfX2_tellExits_21 N l1 l3 l4 ) x
set_option maxRecDepth 20000 in
theorem rbfX2_tellExits_21 (d N : Nat) (res : Option Value × am_S) (l1 : Int32) (l3 : Int32) (l4 : Int32) (x : Int32 × Int32 × St) (z : (Int32 × Int32 × St) ⊕ (Int32 × St)) (h : bfX2_tellExits_21 N l1 l3 l4 x = some z) (hz : Sum.elim (PfX2_tellExits_21 (d + 3) res l1 l3 l4 ) (QfX2_tellExits_21 (d + 3) res l1 l3 l4 ) z) : PfX2_tellExits_21 (d + 3) res l1 l3 l4 x := by
  unfold bfX2_tellExits_21 at h
  show ∀ (w6 w7 : Option Value), am_Rn (am_C (d + 3)) (am_ct 12) (am_rk 12) res (21, [some (.ref 20), some (.int l1), some (.int x.1), some (.int l3), some (.int l4), some (.int x.2.1), w6, w7], [], am_T0 x.2.2)
  intro w6 w7
  refine am_Rn.op _ (23, [some (.ref 20), some (.int l1), some (.int x.1), some (.int l3), some (.int l4), some (.int x.2.1), w6, w7], [.int x.2.1], am_T0 x.2.2) rfl rfl ?_
  refine am_Rn.op _ (25, [some (.ref 20), some (.int l1), some (.int x.1), some (.int l3), some (.int l4), some (.int x.2.1), w6, w7], [.int 7, .int x.2.1], am_T0 x.2.2) rfl rfl ?_
  refine am_Rn.op _ (if 7 ≤ x.2.1 then 101 else 28, [some (.ref 20), some (.int l1), some (.int x.1), some (.int l3), some (.int l4), some (.int x.2.1), w6, w7], [], am_T0 x.2.2) rfl rfl ?_
  rcases l2_i h with ⟨hc, h⟩ | ⟨hc, h⟩
  · refine am_Rn.ifT hc ?_
    cases h
    exact hz _ _ _ _
  · refine am_Rn.ifF hc ?_
    refine am_Rn.op _ (29, [some (.ref 20), some (.int l1), some (.int x.1), some (.int l3), some (.int l4), some (.int x.2.1), w6, w7], [.int 0], am_T0 x.2.2) rfl rfl ?_
    refine am_Rn.op _ (31, [some (.ref 20), some (.int l1), some (.int x.1), some (.int l3), some (.int l4), some (.int x.2.1), some (.int 0), w7], [], am_T0 x.2.2) rfl rfl ?_
    obtain ⟨y4, hy4, h⟩ := l2_b h
    refine rfX2_tellExits_31 d N _ l1 l3 l4 x.2.1 (x.1, 0, x.2.2) y4 hy4 ?_ _
    intro w5 w6
    show am_Rn _ _ _ _ (95, [some (.ref 20), some (.int l1), some (.int y4.1), some (.int l3), some (.int l4), some (.int x.2.1), w5, w6], [], am_T0 y4.2)
    refine am_Rn.op _ (98, [some (.ref 20), some (.int l1), some (.int y4.1), some (.int l3), some (.int l4), some (.int (x.2.1 + 1)), w5, w6], [], am_T0 y4.2) rfl rfl ?_
    refine am_Rn.op _ (21, [some (.ref 20), some (.int l1), some (.int y4.1), some (.int l3), some (.int l4), some (.int (x.2.1 + 1)), w5, w6], [], am_T0 y4.2) rfl rfl ?_
    cases h
    exact hz _ _
theorem rfX2_tellExits_21 (d N : Nat) (res : Option Value × am_S) (l1 : Int32) (l3 : Int32) (l4 : Int32) (x : Int32 × Int32 × St) (y : Int32 × St) (h : fX2_tellExits_21 N l1 l3 l4 x = some y) (hq : QfX2_tellExits_21 (d + 3) res l1 l3 l4 y) : PfX2_tellExits_21 (d + 3) res l1 l3 l4 x := whl_ind _ _ (fun x z => rbfX2_tellExits_21 d N res l1 l3 l4 x z) N x y h hq
def bfX2_tellExits_4 (N : Nat) (l1 : Int32) (x : Int32 × Int32 × St) : Option ((Int32 × Int32 × St) ⊕ ((Int32 × St))) := (if 4 ≤ x.2.1 then (if x.1 = 0 ∨ x.1 = 1 then some (.inr (x.1, x.2.2)) else none) else (fX2_rowOf N 0 0 x.2.1 x.2.2).bind (fun q8 => (fX2_tellExits_21 N l1 x.2.1 q8.1 (x.1, 0, q8.2)).bind (fun y9 => some (.inl (y9.1, (x.2.1 + 1), y9.2)))))
def fX2_tellExits_4 (N : Nat) (l1 : Int32) (x : Int32 × Int32 × St) : Option ((Int32 × St)) := whl N (bfX2_tellExits_4 N l1 ) x
set_option maxRecDepth 20000 in
theorem rbfX2_tellExits_4 (d N : Nat) (res : Option Value × am_S) (l1 : Int32) (x : Int32 × Int32 × St) (z : (Int32 × Int32 × St) ⊕ ((Int32 × St))) (h : bfX2_tellExits_4 N l1 x = some z) (hz : Sum.elim (PfX2_tellExits_4 (d + 3) res l1 ) (QfX2_tellExits_4 (d + 3) res l1 ) z) : PfX2_tellExits_4 (d + 3) res l1 x := by
  unfold bfX2_tellExits_4 at h
  show ∀ (w4 w5 w6 w7 : Option Value), am_Rn (am_C (d + 3)) (am_ct 12) (am_rk 12) res (4, [some (.ref 20), some (.int l1), some (.int x.1), some (.int x.2.1), w4, w5, w6, w7], [], am_T0 x.2.2)
  intro w4 w5 w6 w7
  refine am_Rn.op _ (5, [some (.ref 20), some (.int l1), some (.int x.1), some (.int x.2.1), w4, w5, w6, w7], [.int x.2.1], am_T0 x.2.2) rfl rfl ?_
  refine am_Rn.op _ (6, [some (.ref 20), some (.int l1), some (.int x.1), some (.int x.2.1), w4, w5, w6, w7], [.int 4, .int x.2.1], am_T0 x.2.2) rfl rfl ?_
  refine am_Rn.op _ (if 4 ≤ x.2.1 then 107 else 9, [some (.ref 20), some (.int l1), some (.int x.1), some (.int x.2.1), w4, w5, w6, w7], [], am_T0 x.2.2) rfl rfl ?_
  rcases l2_i h with ⟨hc, h⟩ | ⟨hc, h⟩
  · refine am_Rn.ifT hc ?_
    refine am_Rn.op _ (108, [some (.ref 20), some (.int l1), some (.int x.1), some (.int x.2.1), w4, w5, w6, w7], [.int x.1], am_T0 x.2.2) rfl rfl ?_
    obtain ⟨hb7, h⟩ := l2_y h
    cases h
    exact am_Rn.rt2 _ rfl (l2_rz hb7) hz
  · refine am_Rn.ifF hc ?_
    refine am_Rn.op _ (10, [some (.ref 20), some (.int l1), some (.int x.1), some (.int x.2.1), w4, w5, w6, w7], [.ref 20], am_T0 x.2.2) rfl rfl ?_
    refine am_Rn.op _ (11, [some (.ref 20), some (.int l1), some (.int x.1), some (.int x.2.1), w4, w5, w6, w7], [.int 0, .ref 20], am_T0 x.2.2) rfl rfl ?_
    refine am_Rn.op _ (12, [some (.ref 20), some (.int l1), some (.int x.1), some (.int x.2.1), w4, w5, w6, w7], [.int 0, .int 0, .ref 20], am_T0 x.2.2) rfl rfl ?_
    refine am_Rn.op _ (13, [some (.ref 20), some (.int l1), some (.int x.1), some (.int x.2.1), w4, w5, w6, w7], [.int x.2.1, .int 0, .int 0, .ref 20], am_T0 x.2.2) rfl rfl ?_
    obtain ⟨q8, hq8, h⟩ := l2_b h
    refine am_Rn.cl _ (some (.int q8.1)) (am_T0 q8.2) rfl rfl (rfX2_rowOf (d + 1) N 0 0 x.2.1 x.2.2 q8 hq8) ?_
    show am_Rn _ _ _ _ (16, [some (.ref 20), some (.int l1), some (.int x.1), some (.int x.2.1), w4, w5, w6, w7], [.int q8.1], am_T0 q8.2)
    refine am_Rn.op _ (18, [some (.ref 20), some (.int l1), some (.int x.1), some (.int x.2.1), some (.int q8.1), w5, w6, w7], [], am_T0 q8.2) rfl rfl ?_
    refine am_Rn.op _ (19, [some (.ref 20), some (.int l1), some (.int x.1), some (.int x.2.1), some (.int q8.1), w5, w6, w7], [.int 0], am_T0 q8.2) rfl rfl ?_
    refine am_Rn.op _ (21, [some (.ref 20), some (.int l1), some (.int x.1), some (.int x.2.1), some (.int q8.1), some (.int 0), w6, w7], [], am_T0 q8.2) rfl rfl ?_
    obtain ⟨y9, hy9, h⟩ := l2_b h
    refine rfX2_tellExits_21 d N _ l1 x.2.1 q8.1 (x.1, 0, q8.2) y9 hy9 ?_ _ _
    intro w10 w11 w12 w13
    show am_Rn _ _ _ _ (101, [some (.ref 20), some (.int l1), some (.int y9.1), some (.int x.2.1), w10, w11, w12, w13], [], am_T0 y9.2)
    refine am_Rn.op _ (104, [some (.ref 20), some (.int l1), some (.int y9.1), some (.int (x.2.1 + 1)), w10, w11, w12, w13], [], am_T0 y9.2) rfl rfl ?_
    refine am_Rn.op _ (4, [some (.ref 20), some (.int l1), some (.int y9.1), some (.int (x.2.1 + 1)), w10, w11, w12, w13], [], am_T0 y9.2) rfl rfl ?_
    cases h
    exact hz _ _ _ _
theorem rfX2_tellExits_4 (d N : Nat) (res : Option Value × am_S) (l1 : Int32) (x : Int32 × Int32 × St) (y : (Int32 × St)) (h : fX2_tellExits_4 N l1 x = some y) (hq : QfX2_tellExits_4 (d + 3) res l1 y) : PfX2_tellExits_4 (d + 3) res l1 x := whl_ind _ _ (fun x z => rbfX2_tellExits_4 d N res l1 x z) N x y h hq
def fX2_tellExits (N : Nat) (l1 : Int32) (S : St) : Option (Int32 × St) := (fX2_tellExits_4 N l1 (0, 0, S)).bind (fun y14 => some (y14.1, y14.2))
set_option maxRecDepth 20000 in
theorem rfX2_tellExits (d N : Nat) (l1 : Int32) (S : St) (z : (Int32 × St)) (h : fX2_tellExits N l1 S = some z) : am_C (d + 4) 12 [.ref 20, .int l1] (am_T0 S) (some (.int z.1), am_T0 z.2) := by
  unfold fX2_tellExits at h
  show am_Rn (am_C (d + 3)) (am_ct 12) (am_rk 12) (some (.int z.1), am_T0 z.2) (0, [some (.ref 20), some (.int l1), none, none, none, none, none, none], [], am_T0 S)
  refine am_Rn.op _ (1, [some (.ref 20), some (.int l1), none, none, none, none, none, none], [.int 0], am_T0 S) rfl rfl ?_
  refine am_Rn.op _ (2, [some (.ref 20), some (.int l1), some (.int 0), none, none, none, none, none], [], am_T0 S) rfl rfl ?_
  refine am_Rn.op _ (3, [some (.ref 20), some (.int l1), some (.int 0), none, none, none, none, none], [.int 0], am_T0 S) rfl rfl ?_
  refine am_Rn.op _ (4, [some (.ref 20), some (.int l1), some (.int 0), some (.int 0), none, none, none, none], [], am_T0 S) rfl rfl ?_
  obtain ⟨y14, hy14, h⟩ := l2_b h
  refine rfX2_tellExits_4 d N _ l1 (0, 0, S) y14 hy14 ?_ _ _ _ _
  cases h
  exact rfl
-- X2_waysOf
def PfX2_waysOf_14 (d : Nat) (res : Option Value × am_S) (l3 : Int32) (x : Int32 × Int32 × St) : Prop := ∀ (w1 w2 w6 : Option Value), am_Rn (am_C d) (am_ct 13) (am_rk 13) res (14, [some (.ref 20), w1, w2, some (.int l3), some (.int x.1), some (.int x.2.1), w6], [], am_T0 x.2.2)
def QfX2_waysOf_14 (d : Nat) (res : Option Value × am_S) (l3 : Int32) (y : (Int32 × St)) : Prop := res = (some (.int y.1), am_T0 y.2)
def PfX2_waysOf_24 (d : Nat) (res : Option Value × am_S) (l3 : Int32) (l5 : Int32) (x : Int32 × Int32 × St) : Prop := ∀ (w1 w2 : Option Value), am_Rn (am_C d) (am_ct 13) (am_rk 13) res (24, [some (.ref 20), w1, w2, some (.int l3), some (.int x.1), some (.int l5), some (.int x.2.1)], [], am_T0 x.2.2)
def QfX2_waysOf_24 (d : Nat) (res : Option Value × am_S) (l3 : Int32) (l5 : Int32) (y : Int32 × St) : Prop := ∀ (w1 w2 w6 : Option Value), am_Rn (am_C d) (am_ct 13) (am_rk 13) res (59, [some (.ref 20), w1, w2, some (.int l3), some (.int y.1), some (.int l5), w6], [], am_T0 y.2)
def fX2_waysOf_53 (N : Nat) (l3 : Int32) (l4 : Int32) (l5 : Int32) (l6 : Int32) (S : St) : Option ((Int32 × Int32 × St) ⊕ (Int32 × St)) := some (.inl (l4, (l6 + 1), S))
set_option maxRecDepth 20000 in
theorem rfX2_waysOf_53 (d N : Nat) (res : Option Value × am_S) (l3 : Int32) (l4 : Int32) (l5 : Int32) (l6 : Int32) (S : St) (z : (Int32 × Int32 × St) ⊕ (Int32 × St)) (h : fX2_waysOf_53 N l3 l4 l5 l6 S = some z) (hz : Sum.elim (PfX2_waysOf_24 (d + 2) res l3 l5 ) (QfX2_waysOf_24 (d + 2) res l3 l5 ) z) (w1 : Option Value) (w2 : Option Value) : am_Rn (am_C (d + 2)) (am_ct 13) (am_rk 13) res (53, [some (.ref 20), w1, w2, some (.int l3), some (.int l4), some (.int l5), some (.int l6)], [], am_T0 S) := by
  unfold fX2_waysOf_53 at h
  refine am_Rn.op _ (56, [some (.ref 20), w1, w2, some (.int l3), some (.int l4), some (.int l5), some (.int (l6 + 1))], [], am_T0 S) rfl rfl ?_
  refine am_Rn.op _ (24, [some (.ref 20), w1, w2, some (.int l3), some (.int l4), some (.int l5), some (.int (l6 + 1))], [], am_T0 S) rfl rfl ?_
  cases h
  exact hz _ _
def bfX2_waysOf_24 (N : Nat) (l3 : Int32) (l5 : Int32) (x : Int32 × Int32 × St) : Option ((Int32 × Int32 × St) ⊕ (Int32 × St)) := (if 4 ≤ x.2.1 then some (.inr (x.1, x.2.2)) else (fX2_cell N l3 l5 x.2.1 x.2.2).bind (fun q1 => (if 1000000 ≤ q1.1 then fX2_waysOf_53 N l3 x.1 l5 x.2.1 q1.2 else fX2_waysOf_53 N l3 (x.1 ||| (1 <<< (l5 &&& 31))) l5 x.2.1 q1.2)))
def fX2_waysOf_24 (N : Nat) (l3 : Int32) (l5 : Int32) (x : Int32 × Int32 × St) : Option (Int32 × St) := whl N (bfX2_waysOf_24 N l3 l5 ) x
set_option maxRecDepth 20000 in
theorem rbfX2_waysOf_24 (d N : Nat) (res : Option Value × am_S) (l3 : Int32) (l5 : Int32) (x : Int32 × Int32 × St) (z : (Int32 × Int32 × St) ⊕ (Int32 × St)) (h : bfX2_waysOf_24 N l3 l5 x = some z) (hz : Sum.elim (PfX2_waysOf_24 (d + 2) res l3 l5 ) (QfX2_waysOf_24 (d + 2) res l3 l5 ) z) : PfX2_waysOf_24 (d + 2) res l3 l5 x := by
  unfold bfX2_waysOf_24 at h
  show ∀ (w1 w2 : Option Value), am_Rn (am_C (d + 2)) (am_ct 13) (am_rk 13) res (24, [some (.ref 20), w1, w2, some (.int l3), some (.int x.1), some (.int l5), some (.int x.2.1)], [], am_T0 x.2.2)
  intro w1 w2
  refine am_Rn.op _ (26, [some (.ref 20), w1, w2, some (.int l3), some (.int x.1), some (.int l5), some (.int x.2.1)], [.int x.2.1], am_T0 x.2.2) rfl rfl ?_
  refine am_Rn.op _ (27, [some (.ref 20), w1, w2, some (.int l3), some (.int x.1), some (.int l5), some (.int x.2.1)], [.int 4, .int x.2.1], am_T0 x.2.2) rfl rfl ?_
  refine am_Rn.op _ (if 4 ≤ x.2.1 then 59 else 30, [some (.ref 20), w1, w2, some (.int l3), some (.int x.1), some (.int l5), some (.int x.2.1)], [], am_T0 x.2.2) rfl rfl ?_
  rcases l2_i h with ⟨hc, h⟩ | ⟨hc, h⟩
  · refine am_Rn.ifT hc ?_
    cases h
    exact hz _ _ _
  · refine am_Rn.ifF hc ?_
    refine am_Rn.op _ (31, [some (.ref 20), w1, w2, some (.int l3), some (.int x.1), some (.int l5), some (.int x.2.1)], [.ref 20], am_T0 x.2.2) rfl rfl ?_
    refine am_Rn.op _ (32, [some (.ref 20), w1, w2, some (.int l3), some (.int x.1), some (.int l5), some (.int x.2.1)], [.int l3, .ref 20], am_T0 x.2.2) rfl rfl ?_
    refine am_Rn.op _ (34, [some (.ref 20), w1, w2, some (.int l3), some (.int x.1), some (.int l5), some (.int x.2.1)], [.int l5, .int l3, .ref 20], am_T0 x.2.2) rfl rfl ?_
    refine am_Rn.op _ (36, [some (.ref 20), w1, w2, some (.int l3), some (.int x.1), some (.int l5), some (.int x.2.1)], [.int x.2.1, .int l5, .int l3, .ref 20], am_T0 x.2.2) rfl rfl ?_
    obtain ⟨q1, hq1, h⟩ := l2_b h
    refine am_Rn.cl _ (some (.int q1.1)) (am_T0 q1.2) rfl rfl (rfX2_cell (d + 1) N l3 l5 x.2.1 x.2.2 q1 hq1) ?_
    show am_Rn _ _ _ _ (39, [some (.ref 20), w1, w2, some (.int l3), some (.int x.1), some (.int l5), some (.int x.2.1)], [.int q1.1], am_T0 q1.2)
    refine am_Rn.op _ (41, [some (.ref 20), w1, w2, some (.int l3), some (.int x.1), some (.int l5), some (.int x.2.1)], [.int 1000000, .int q1.1], am_T0 q1.2) rfl rfl ?_
    refine am_Rn.op _ (if 1000000 ≤ q1.1 then 53 else 44, [some (.ref 20), w1, w2, some (.int l3), some (.int x.1), some (.int l5), some (.int x.2.1)], [], am_T0 q1.2) rfl rfl ?_
    rcases l2_i h with ⟨hc, h⟩ | ⟨hc, h⟩
    · refine am_Rn.ifT hc ?_
      exact rfX2_waysOf_53 d N _ l3 x.1 l5 x.2.1 q1.2 _ h hz _ _
    · refine am_Rn.ifF hc ?_
      refine am_Rn.op _ (46, [some (.ref 20), w1, w2, some (.int l3), some (.int x.1), some (.int l5), some (.int x.2.1)], [.int x.1], am_T0 q1.2) rfl rfl ?_
      refine am_Rn.op _ (47, [some (.ref 20), w1, w2, some (.int l3), some (.int x.1), some (.int l5), some (.int x.2.1)], [.int 1, .int x.1], am_T0 q1.2) rfl rfl ?_
      refine am_Rn.op _ (49, [some (.ref 20), w1, w2, some (.int l3), some (.int x.1), some (.int l5), some (.int x.2.1)], [.int l5, .int 1, .int x.1], am_T0 q1.2) rfl rfl ?_
      refine am_Rn.op _ (50, [some (.ref 20), w1, w2, some (.int l3), some (.int x.1), some (.int l5), some (.int x.2.1)], [.int (1 <<< (l5 &&& 31)), .int x.1], am_T0 q1.2) rfl rfl ?_
      refine am_Rn.op _ (51, [some (.ref 20), w1, w2, some (.int l3), some (.int x.1), some (.int l5), some (.int x.2.1)], [.int (x.1 ||| (1 <<< (l5 &&& 31)))], am_T0 q1.2) rfl rfl ?_
      refine am_Rn.op _ (53, [some (.ref 20), w1, w2, some (.int l3), some (.int (x.1 ||| (1 <<< (l5 &&& 31)))), some (.int l5), some (.int x.2.1)], [], am_T0 q1.2) rfl rfl ?_
      exact rfX2_waysOf_53 d N _ l3 (x.1 ||| (1 <<< (l5 &&& 31))) l5 x.2.1 q1.2 _ h hz _ _
theorem rfX2_waysOf_24 (d N : Nat) (res : Option Value × am_S) (l3 : Int32) (l5 : Int32) (x : Int32 × Int32 × St) (y : Int32 × St) (h : fX2_waysOf_24 N l3 l5 x = some y) (hq : QfX2_waysOf_24 (d + 2) res l3 l5 y) : PfX2_waysOf_24 (d + 2) res l3 l5 x := whl_ind _ _ (fun x z => rbfX2_waysOf_24 d N res l3 l5 x z) N x y h hq
def bfX2_waysOf_14 (N : Nat) (l3 : Int32) (x : Int32 × Int32 × St) : Option ((Int32 × Int32 × St) ⊕ ((Int32 × St))) := (if 8 ≤ x.2.1 then some (.inr (x.1, x.2.2)) else (fX2_waysOf_24 N l3 x.2.1 (x.1, 0, x.2.2)).bind (fun y2 => some (.inl (y2.1, (x.2.1 + 1), y2.2))))
def fX2_waysOf_14 (N : Nat) (l3 : Int32) (x : Int32 × Int32 × St) : Option ((Int32 × St)) := whl N (bfX2_waysOf_14 N l3 ) x
set_option maxRecDepth 20000 in
theorem rbfX2_waysOf_14 (d N : Nat) (res : Option Value × am_S) (l3 : Int32) (x : Int32 × Int32 × St) (z : (Int32 × Int32 × St) ⊕ ((Int32 × St))) (h : bfX2_waysOf_14 N l3 x = some z) (hz : Sum.elim (PfX2_waysOf_14 (d + 2) res l3 ) (QfX2_waysOf_14 (d + 2) res l3 ) z) : PfX2_waysOf_14 (d + 2) res l3 x := by
  unfold bfX2_waysOf_14 at h
  show ∀ (w1 w2 w6 : Option Value), am_Rn (am_C (d + 2)) (am_ct 13) (am_rk 13) res (14, [some (.ref 20), w1, w2, some (.int l3), some (.int x.1), some (.int x.2.1), w6], [], am_T0 x.2.2)
  intro w1 w2 w6
  refine am_Rn.op _ (16, [some (.ref 20), w1, w2, some (.int l3), some (.int x.1), some (.int x.2.1), w6], [.int x.2.1], am_T0 x.2.2) rfl rfl ?_
  refine am_Rn.op _ (18, [some (.ref 20), w1, w2, some (.int l3), some (.int x.1), some (.int x.2.1), w6], [.int 8, .int x.2.1], am_T0 x.2.2) rfl rfl ?_
  refine am_Rn.op _ (if 8 ≤ x.2.1 then 65 else 21, [some (.ref 20), w1, w2, some (.int l3), some (.int x.1), some (.int x.2.1), w6], [], am_T0 x.2.2) rfl rfl ?_
  rcases l2_i h with ⟨hc, h⟩ | ⟨hc, h⟩
  · refine am_Rn.ifT hc ?_
    refine am_Rn.op _ (67, [some (.ref 20), w1, w2, some (.int l3), some (.int x.1), some (.int x.2.1), w6], [.int x.1], am_T0 x.2.2) rfl rfl ?_
    cases h
    exact am_Rn.rt2 _ rfl rfl hz
  · refine am_Rn.ifF hc ?_
    refine am_Rn.op _ (22, [some (.ref 20), w1, w2, some (.int l3), some (.int x.1), some (.int x.2.1), w6], [.int 0], am_T0 x.2.2) rfl rfl ?_
    refine am_Rn.op _ (24, [some (.ref 20), w1, w2, some (.int l3), some (.int x.1), some (.int x.2.1), some (.int 0)], [], am_T0 x.2.2) rfl rfl ?_
    obtain ⟨y2, hy2, h⟩ := l2_b h
    refine rfX2_waysOf_24 d N _ l3 x.2.1 (x.1, 0, x.2.2) y2 hy2 ?_ _ _
    intro w3 w4 w5
    show am_Rn _ _ _ _ (59, [some (.ref 20), w3, w4, some (.int l3), some (.int y2.1), some (.int x.2.1), w5], [], am_T0 y2.2)
    refine am_Rn.op _ (62, [some (.ref 20), w3, w4, some (.int l3), some (.int y2.1), some (.int (x.2.1 + 1)), w5], [], am_T0 y2.2) rfl rfl ?_
    refine am_Rn.op _ (14, [some (.ref 20), w3, w4, some (.int l3), some (.int y2.1), some (.int (x.2.1 + 1)), w5], [], am_T0 y2.2) rfl rfl ?_
    cases h
    exact hz _ _ _
theorem rfX2_waysOf_14 (d N : Nat) (res : Option Value × am_S) (l3 : Int32) (x : Int32 × Int32 × St) (y : (Int32 × St)) (h : fX2_waysOf_14 N l3 x = some y) (hq : QfX2_waysOf_14 (d + 2) res l3 y) : PfX2_waysOf_14 (d + 2) res l3 x := whl_ind _ _ (fun x z => rbfX2_waysOf_14 d N res l3 x z) N x y h hq
def fX2_waysOf (N : Nat) (l1 : Int32) (l2 : Int32) (S : St) : Option (Int32 × St) := (fX2_rowOf N l1 l2 0 S).bind (fun q6 => (fX2_waysOf_14 N q6.1 (0, 0, q6.2)).bind (fun y7 => some (y7.1, y7.2)))
set_option maxRecDepth 20000 in
theorem rfX2_waysOf (d N : Nat) (l1 : Int32) (l2 : Int32) (S : St) (z : (Int32 × St)) (h : fX2_waysOf N l1 l2 S = some z) : am_C (d + 3) 13 [.ref 20, .int l1, .int l2] (am_T0 S) (some (.int z.1), am_T0 z.2) := by
  unfold fX2_waysOf at h
  show am_Rn (am_C (d + 2)) (am_ct 13) (am_rk 13) (some (.int z.1), am_T0 z.2) (0, [some (.ref 20), some (.int l1), some (.int l2), none, none, none, none], [], am_T0 S)
  refine am_Rn.op _ (1, [some (.ref 20), some (.int l1), some (.int l2), none, none, none, none], [.ref 20], am_T0 S) rfl rfl ?_
  refine am_Rn.op _ (2, [some (.ref 20), some (.int l1), some (.int l2), none, none, none, none], [.int l1, .ref 20], am_T0 S) rfl rfl ?_
  refine am_Rn.op _ (3, [some (.ref 20), some (.int l1), some (.int l2), none, none, none, none], [.int l2, .int l1, .ref 20], am_T0 S) rfl rfl ?_
  refine am_Rn.op _ (4, [some (.ref 20), some (.int l1), some (.int l2), none, none, none, none], [.int 0, .int l2, .int l1, .ref 20], am_T0 S) rfl rfl ?_
  obtain ⟨q6, hq6, h⟩ := l2_b h
  refine am_Rn.cl _ (some (.int q6.1)) (am_T0 q6.2) rfl rfl (rfX2_rowOf (d + 0) N l1 l2 0 S q6 hq6) ?_
  show am_Rn _ _ _ _ (7, [some (.ref 20), some (.int l1), some (.int l2), none, none, none, none], [.int q6.1], am_T0 q6.2)
  refine am_Rn.op _ (8, [some (.ref 20), some (.int l1), some (.int l2), some (.int q6.1), none, none, none], [], am_T0 q6.2) rfl rfl ?_
  refine am_Rn.op _ (9, [some (.ref 20), some (.int l1), some (.int l2), some (.int q6.1), none, none, none], [.int 0], am_T0 q6.2) rfl rfl ?_
  refine am_Rn.op _ (11, [some (.ref 20), some (.int l1), some (.int l2), some (.int q6.1), some (.int 0), none, none], [], am_T0 q6.2) rfl rfl ?_
  refine am_Rn.op _ (12, [some (.ref 20), some (.int l1), some (.int l2), some (.int q6.1), some (.int 0), none, none], [.int 0], am_T0 q6.2) rfl rfl ?_
  refine am_Rn.op _ (14, [some (.ref 20), some (.int l1), some (.int l2), some (.int q6.1), some (.int 0), some (.int 0), none], [], am_T0 q6.2) rfl rfl ?_
  obtain ⟨y7, hy7, h⟩ := l2_b h
  refine rfX2_waysOf_14 d N _ q6.1 (0, 0, q6.2) y7 hy7 ?_ _ _ _
  cases h
  exact rfl
-- X3_number
def fX3_number (N : Nat) (S : St) : Option (Int32 × St) := some ((S.1 3 1), S)
set_option maxRecDepth 20000 in
theorem rfX3_number (d N : Nat) (S : St) (z : (Int32 × St)) (h : fX3_number N S = some z) : am_C (d + 1) 32 [.ref 3] (am_T0 S) (some (.int z.1), am_T0 z.2) := by
  unfold fX3_number at h
  show am_Rn (am_C (d + 0)) (am_ct 32) (am_rk 32) (some (.int z.1), am_T0 z.2) (0, [some (.ref 3)], [], am_T0 S)
  refine am_Rn.op _ (1, [some (.ref 3)], [.ref 3], am_T0 S) rfl rfl ?_
  refine am_Rn.op _ (4, [some (.ref 3)], [.int (S.1 3 1)], am_T0 S) rfl rfl ?_
  cases h
  exact am_Rn.rt _ rfl rfl
-- X3_place
def fX3_place (N : Nat) (S : St) : Option (Int32 × St) := some ((S.1 3 2), S)
set_option maxRecDepth 20000 in
theorem rfX3_place (d N : Nat) (S : St) (z : (Int32 × St)) (h : fX3_place N S = some z) : am_C (d + 1) 33 [.ref 3] (am_T0 S) (some (.int z.1), am_T0 z.2) := by
  unfold fX3_place at h
  show am_Rn (am_C (d + 0)) (am_ct 33) (am_rk 33) (some (.int z.1), am_T0 z.2) (0, [some (.ref 3)], [], am_T0 S)
  refine am_Rn.op _ (1, [some (.ref 3)], [.ref 3], am_T0 S) rfl rfl ?_
  refine am_Rn.op _ (4, [some (.ref 3)], [.int (S.1 3 2)], am_T0 S) rfl rfl ?_
  cases h
  exact am_Rn.rt _ rfl rfl
-- X5_openBlock
def fX5_openBlock (N : Nat) (n0 : Nat) (l1 : Int32) (l2 : Int32) (S : St) : Option (Int32 × St) := (if (S.1 (TA n0) 8) < 31 then (if (S.1 (TA n0) 8) < 0 ∨ 31 ≤ Int32.toNatClampNeg (S.1 (TA n0) 8) then none else (if (S.1 (TA n0) 8) < 0 ∨ 31 ≤ Int32.toNatClampNeg (S.1 (TA n0) 8) then none else (if (S.1 (TA n0) 8) < 0 ∨ 31 ≤ Int32.toNatClampNeg (S.1 (TA n0) 8) then none else (if (S.1 (TA n0) 8) < 0 ∨ 31 ≤ Int32.toNatClampNeg (S.1 (TA n0) 8) then none else (if l1 ≤ 0 then some ((S.1 (TA n0) 8), (st_i (st_i (st_i (st_i (st_i S (TA n0) 8 ((S.1 (TA n0) 8) + 1)) (TA n0 + 3) (Int32.toNatClampNeg (S.1 (TA n0) 8)) l1) (TA n0 + 4) (Int32.toNatClampNeg (S.1 (TA n0) 8)) l1) (TA n0 + 5) (Int32.toNatClampNeg (S.1 (TA n0) 8)) l2) (TA n0 + 6) (Int32.toNatClampNeg (S.1 (TA n0) 8)) (0 &&& 1))) else (if 60 < l1 then some ((S.1 (TA n0) 8), (st_i (st_i (st_i (st_i (st_i S (TA n0) 8 ((S.1 (TA n0) 8) + 1)) (TA n0 + 3) (Int32.toNatClampNeg (S.1 (TA n0) 8)) l1) (TA n0 + 4) (Int32.toNatClampNeg (S.1 (TA n0) 8)) l1) (TA n0 + 5) (Int32.toNatClampNeg (S.1 (TA n0) 8)) l2) (TA n0 + 6) (Int32.toNatClampNeg (S.1 (TA n0) 8)) (0 &&& 1))) else (if (l1 - 1) < 0 ∨ 60 ≤ Int32.toNatClampNeg (l1 - 1) then none else some ((S.1 (TA n0) 8), (st_i (st_i (st_i (st_i (st_i (st_i S (TA n0) 8 ((S.1 (TA n0) 8) + 1)) (TA n0 + 3) (Int32.toNatClampNeg (S.1 (TA n0) 8)) l1) (TA n0 + 4) (Int32.toNatClampNeg (S.1 (TA n0) 8)) l1) (TA n0 + 5) (Int32.toNatClampNeg (S.1 (TA n0) 8)) l2) (TA n0 + 6) (Int32.toNatClampNeg (S.1 (TA n0) 8)) (0 &&& 1)) (TA n0 + 2) (Int32.toNatClampNeg (l1 - 1)) (S.1 (TA n0) 8)))))))))) else some ((-1), S))
set_option maxRecDepth 20000 in
theorem rfX5_openBlock (d N : Nat) (n0 : Nat) (l1 : Int32) (l2 : Int32) (S : St) (z : (Int32 × St)) (h : fX5_openBlock N n0 l1 l2 S = some z) : am_C (d + 1) 51 [.ref (TA n0), .int l1, .int l2] (am_T0 S) (some (.int z.1), am_T0 z.2) := by
  unfold fX5_openBlock at h
  show am_Rn (am_C (d + 0)) (am_ct 51) (am_rk 51) (some (.int z.1), am_T0 z.2) (0, [some (.ref (TA n0)), some (.int l1), some (.int l2), none], [], am_T0 S)
  refine am_Rn.op _ (1, [some (.ref (TA n0)), some (.int l1), some (.int l2), none], [.ref (TA n0)], am_T0 S) rfl rfl ?_
  refine am_Rn.getf rfl (l2_isO n0 S) rfl ?_
  show am_Rn _ _ _ _ (4, [some (.ref (TA n0)), some (.int l1), some (.int l2), none], [.int (S.1 (TA n0) 8)], am_T0 S)
  refine am_Rn.op _ (6, [some (.ref (TA n0)), some (.int l1), some (.int l2), none], [.int 31, .int (S.1 (TA n0) 8)], am_T0 S) rfl rfl ?_
  refine am_Rn.op _ (if (S.1 (TA n0) 8) < 31 then 11 else 9, [some (.ref (TA n0)), some (.int l1), some (.int l2), none], [], am_T0 S) rfl rfl ?_
  rcases l2_i h with ⟨hc, h⟩ | ⟨hc, h⟩
  · refine am_Rn.ifT hc ?_
    refine am_Rn.op _ (12, [some (.ref (TA n0)), some (.int l1), some (.int l2), none], [.ref (TA n0)], am_T0 S) rfl rfl ?_
    refine am_Rn.getf rfl (l2_isO n0 S) rfl ?_
    show am_Rn _ _ _ _ (15, [some (.ref (TA n0)), some (.int l1), some (.int l2), none], [.int (S.1 (TA n0) 8)], am_T0 S)
    refine am_Rn.op _ (16, [some (.ref (TA n0)), some (.int l1), some (.int l2), some (.int (S.1 (TA n0) 8))], [], am_T0 S) rfl rfl ?_
    refine am_Rn.op _ (17, [some (.ref (TA n0)), some (.int l1), some (.int l2), some (.int (S.1 (TA n0) 8))], [.ref (TA n0)], am_T0 S) rfl rfl ?_
    refine am_Rn.op _ (18, [some (.ref (TA n0)), some (.int l1), some (.int l2), some (.int (S.1 (TA n0) 8))], [.ref (TA n0), .ref (TA n0)], am_T0 S) rfl rfl ?_
    refine am_Rn.getf rfl (l2_isO n0 S) rfl ?_
    show am_Rn _ _ _ _ (21, [some (.ref (TA n0)), some (.int l1), some (.int l2), some (.int (S.1 (TA n0) 8))], [.int (S.1 (TA n0) 8), .ref (TA n0)], am_T0 S)
    refine am_Rn.op _ (22, [some (.ref (TA n0)), some (.int l1), some (.int l2), some (.int (S.1 (TA n0) 8))], [.int 1, .int (S.1 (TA n0) 8), .ref (TA n0)], am_T0 S) rfl rfl ?_
    refine am_Rn.op _ (23, [some (.ref (TA n0)), some (.int l1), some (.int l2), some (.int (S.1 (TA n0) 8))], [.int ((S.1 (TA n0) 8) + 1), .ref (TA n0)], am_T0 S) rfl rfl ?_
    refine am_Rn.putf rfl (l2_isO n0 S) rfl ?_
    show am_Rn _ _ _ _ (26, [some (.ref (TA n0)), some (.int l1), some (.int l2), some (.int (S.1 (TA n0) 8))], [], am_T0 (st_i S (TA n0) 8 ((S.1 (TA n0) 8) + 1)))
    refine am_Rn.op _ (27, [some (.ref (TA n0)), some (.int l1), some (.int l2), some (.int (S.1 (TA n0) 8))], [.ref (TA n0)], am_T0 (st_i S (TA n0) 8 ((S.1 (TA n0) 8) + 1))) rfl rfl ?_
    refine am_Rn.getf rfl (l2_isO n0 (st_i S (TA n0) 8 ((S.1 (TA n0) 8) + 1))) (l2_ref n0 3 (st_i S (TA n0) 8 ((S.1 (TA n0) 8) + 1)) (by decide) rfl) ?_
    show am_Rn _ _ _ _ (30, [some (.ref (TA n0)), some (.int l1), some (.int l2), some (.int (S.1 (TA n0) 8))], [.ref (TA n0 + 3)], am_T0 (st_i S (TA n0) 8 ((S.1 (TA n0) 8) + 1)))
    refine am_Rn.op _ (31, [some (.ref (TA n0)), some (.int l1), some (.int l2), some (.int (S.1 (TA n0) 8))], [.int (S.1 (TA n0) 8), .ref (TA n0 + 3)], am_T0 (st_i S (TA n0) 8 ((S.1 (TA n0) 8) + 1))) rfl rfl ?_
    refine am_Rn.op _ (32, [some (.ref (TA n0)), some (.int l1), some (.int l2), some (.int (S.1 (TA n0) 8))], [.int l1, .int (S.1 (TA n0) 8), .ref (TA n0 + 3)], am_T0 (st_i S (TA n0) 8 ((S.1 (TA n0) 8) + 1))) rfl rfl ?_
    obtain ⟨hb1, h⟩ := l2_n h
    refine am_Rn.iast (n := 31) rfl (l2_len n0 3 (st_i S (TA n0) 8 ((S.1 (TA n0) 8) + 1)) (by decide) (by decide)) hb1 ?_
    show am_Rn _ _ _ _ (33, [some (.ref (TA n0)), some (.int l1), some (.int l2), some (.int (S.1 (TA n0) 8))], [], am_T0 (st_i (st_i S (TA n0) 8 ((S.1 (TA n0) 8) + 1)) (TA n0 + 3) (Int32.toNatClampNeg (S.1 (TA n0) 8)) l1))
    refine am_Rn.op _ (34, [some (.ref (TA n0)), some (.int l1), some (.int l2), some (.int (S.1 (TA n0) 8))], [.ref (TA n0)], am_T0 (st_i (st_i S (TA n0) 8 ((S.1 (TA n0) 8) + 1)) (TA n0 + 3) (Int32.toNatClampNeg (S.1 (TA n0) 8)) l1)) rfl rfl ?_
    refine am_Rn.getf rfl (l2_isO n0 (st_i (st_i S (TA n0) 8 ((S.1 (TA n0) 8) + 1)) (TA n0 + 3) (Int32.toNatClampNeg (S.1 (TA n0) 8)) l1)) (l2_ref n0 4 (st_i (st_i S (TA n0) 8 ((S.1 (TA n0) 8) + 1)) (TA n0 + 3) (Int32.toNatClampNeg (S.1 (TA n0) 8)) l1) (by decide) rfl) ?_
    show am_Rn _ _ _ _ (37, [some (.ref (TA n0)), some (.int l1), some (.int l2), some (.int (S.1 (TA n0) 8))], [.ref (TA n0 + 4)], am_T0 (st_i (st_i S (TA n0) 8 ((S.1 (TA n0) 8) + 1)) (TA n0 + 3) (Int32.toNatClampNeg (S.1 (TA n0) 8)) l1))
    refine am_Rn.op _ (38, [some (.ref (TA n0)), some (.int l1), some (.int l2), some (.int (S.1 (TA n0) 8))], [.int (S.1 (TA n0) 8), .ref (TA n0 + 4)], am_T0 (st_i (st_i S (TA n0) 8 ((S.1 (TA n0) 8) + 1)) (TA n0 + 3) (Int32.toNatClampNeg (S.1 (TA n0) 8)) l1)) rfl rfl ?_
    refine am_Rn.op _ (39, [some (.ref (TA n0)), some (.int l1), some (.int l2), some (.int (S.1 (TA n0) 8))], [.int l1, .int (S.1 (TA n0) 8), .ref (TA n0 + 4)], am_T0 (st_i (st_i S (TA n0) 8 ((S.1 (TA n0) 8) + 1)) (TA n0 + 3) (Int32.toNatClampNeg (S.1 (TA n0) 8)) l1)) rfl rfl ?_
    obtain ⟨hb2, h⟩ := l2_n h
    refine am_Rn.iast (n := 31) rfl (l2_len n0 4 (st_i (st_i S (TA n0) 8 ((S.1 (TA n0) 8) + 1)) (TA n0 + 3) (Int32.toNatClampNeg (S.1 (TA n0) 8)) l1) (by decide) (by decide)) hb2 ?_
    show am_Rn _ _ _ _ (40, [some (.ref (TA n0)), some (.int l1), some (.int l2), some (.int (S.1 (TA n0) 8))], [], am_T0 (st_i (st_i (st_i S (TA n0) 8 ((S.1 (TA n0) 8) + 1)) (TA n0 + 3) (Int32.toNatClampNeg (S.1 (TA n0) 8)) l1) (TA n0 + 4) (Int32.toNatClampNeg (S.1 (TA n0) 8)) l1))
    refine am_Rn.op _ (41, [some (.ref (TA n0)), some (.int l1), some (.int l2), some (.int (S.1 (TA n0) 8))], [.ref (TA n0)], am_T0 (st_i (st_i (st_i S (TA n0) 8 ((S.1 (TA n0) 8) + 1)) (TA n0 + 3) (Int32.toNatClampNeg (S.1 (TA n0) 8)) l1) (TA n0 + 4) (Int32.toNatClampNeg (S.1 (TA n0) 8)) l1)) rfl rfl ?_
    refine am_Rn.getf rfl (l2_isO n0 (st_i (st_i (st_i S (TA n0) 8 ((S.1 (TA n0) 8) + 1)) (TA n0 + 3) (Int32.toNatClampNeg (S.1 (TA n0) 8)) l1) (TA n0 + 4) (Int32.toNatClampNeg (S.1 (TA n0) 8)) l1)) (l2_ref n0 5 (st_i (st_i (st_i S (TA n0) 8 ((S.1 (TA n0) 8) + 1)) (TA n0 + 3) (Int32.toNatClampNeg (S.1 (TA n0) 8)) l1) (TA n0 + 4) (Int32.toNatClampNeg (S.1 (TA n0) 8)) l1) (by decide) rfl) ?_
    show am_Rn _ _ _ _ (44, [some (.ref (TA n0)), some (.int l1), some (.int l2), some (.int (S.1 (TA n0) 8))], [.ref (TA n0 + 5)], am_T0 (st_i (st_i (st_i S (TA n0) 8 ((S.1 (TA n0) 8) + 1)) (TA n0 + 3) (Int32.toNatClampNeg (S.1 (TA n0) 8)) l1) (TA n0 + 4) (Int32.toNatClampNeg (S.1 (TA n0) 8)) l1))
    refine am_Rn.op _ (45, [some (.ref (TA n0)), some (.int l1), some (.int l2), some (.int (S.1 (TA n0) 8))], [.int (S.1 (TA n0) 8), .ref (TA n0 + 5)], am_T0 (st_i (st_i (st_i S (TA n0) 8 ((S.1 (TA n0) 8) + 1)) (TA n0 + 3) (Int32.toNatClampNeg (S.1 (TA n0) 8)) l1) (TA n0 + 4) (Int32.toNatClampNeg (S.1 (TA n0) 8)) l1)) rfl rfl ?_
    refine am_Rn.op _ (46, [some (.ref (TA n0)), some (.int l1), some (.int l2), some (.int (S.1 (TA n0) 8))], [.int l2, .int (S.1 (TA n0) 8), .ref (TA n0 + 5)], am_T0 (st_i (st_i (st_i S (TA n0) 8 ((S.1 (TA n0) 8) + 1)) (TA n0 + 3) (Int32.toNatClampNeg (S.1 (TA n0) 8)) l1) (TA n0 + 4) (Int32.toNatClampNeg (S.1 (TA n0) 8)) l1)) rfl rfl ?_
    obtain ⟨hb3, h⟩ := l2_n h
    refine am_Rn.iast (n := 31) rfl (l2_len n0 5 (st_i (st_i (st_i S (TA n0) 8 ((S.1 (TA n0) 8) + 1)) (TA n0 + 3) (Int32.toNatClampNeg (S.1 (TA n0) 8)) l1) (TA n0 + 4) (Int32.toNatClampNeg (S.1 (TA n0) 8)) l1) (by decide) (by decide)) hb3 ?_
    show am_Rn _ _ _ _ (47, [some (.ref (TA n0)), some (.int l1), some (.int l2), some (.int (S.1 (TA n0) 8))], [], am_T0 (st_i (st_i (st_i (st_i S (TA n0) 8 ((S.1 (TA n0) 8) + 1)) (TA n0 + 3) (Int32.toNatClampNeg (S.1 (TA n0) 8)) l1) (TA n0 + 4) (Int32.toNatClampNeg (S.1 (TA n0) 8)) l1) (TA n0 + 5) (Int32.toNatClampNeg (S.1 (TA n0) 8)) l2))
    refine am_Rn.op _ (48, [some (.ref (TA n0)), some (.int l1), some (.int l2), some (.int (S.1 (TA n0) 8))], [.ref (TA n0)], am_T0 (st_i (st_i (st_i (st_i S (TA n0) 8 ((S.1 (TA n0) 8) + 1)) (TA n0 + 3) (Int32.toNatClampNeg (S.1 (TA n0) 8)) l1) (TA n0 + 4) (Int32.toNatClampNeg (S.1 (TA n0) 8)) l1) (TA n0 + 5) (Int32.toNatClampNeg (S.1 (TA n0) 8)) l2)) rfl rfl ?_
    refine am_Rn.getf rfl (l2_isO n0 (st_i (st_i (st_i (st_i S (TA n0) 8 ((S.1 (TA n0) 8) + 1)) (TA n0 + 3) (Int32.toNatClampNeg (S.1 (TA n0) 8)) l1) (TA n0 + 4) (Int32.toNatClampNeg (S.1 (TA n0) 8)) l1) (TA n0 + 5) (Int32.toNatClampNeg (S.1 (TA n0) 8)) l2)) (l2_ref n0 6 (st_i (st_i (st_i (st_i S (TA n0) 8 ((S.1 (TA n0) 8) + 1)) (TA n0 + 3) (Int32.toNatClampNeg (S.1 (TA n0) 8)) l1) (TA n0 + 4) (Int32.toNatClampNeg (S.1 (TA n0) 8)) l1) (TA n0 + 5) (Int32.toNatClampNeg (S.1 (TA n0) 8)) l2) (by decide) rfl) ?_
    show am_Rn _ _ _ _ (51, [some (.ref (TA n0)), some (.int l1), some (.int l2), some (.int (S.1 (TA n0) 8))], [.ref (TA n0 + 6)], am_T0 (st_i (st_i (st_i (st_i S (TA n0) 8 ((S.1 (TA n0) 8) + 1)) (TA n0 + 3) (Int32.toNatClampNeg (S.1 (TA n0) 8)) l1) (TA n0 + 4) (Int32.toNatClampNeg (S.1 (TA n0) 8)) l1) (TA n0 + 5) (Int32.toNatClampNeg (S.1 (TA n0) 8)) l2))
    refine am_Rn.op _ (52, [some (.ref (TA n0)), some (.int l1), some (.int l2), some (.int (S.1 (TA n0) 8))], [.int (S.1 (TA n0) 8), .ref (TA n0 + 6)], am_T0 (st_i (st_i (st_i (st_i S (TA n0) 8 ((S.1 (TA n0) 8) + 1)) (TA n0 + 3) (Int32.toNatClampNeg (S.1 (TA n0) 8)) l1) (TA n0 + 4) (Int32.toNatClampNeg (S.1 (TA n0) 8)) l1) (TA n0 + 5) (Int32.toNatClampNeg (S.1 (TA n0) 8)) l2)) rfl rfl ?_
    refine am_Rn.op _ (53, [some (.ref (TA n0)), some (.int l1), some (.int l2), some (.int (S.1 (TA n0) 8))], [.int 0, .int (S.1 (TA n0) 8), .ref (TA n0 + 6)], am_T0 (st_i (st_i (st_i (st_i S (TA n0) 8 ((S.1 (TA n0) 8) + 1)) (TA n0 + 3) (Int32.toNatClampNeg (S.1 (TA n0) 8)) l1) (TA n0 + 4) (Int32.toNatClampNeg (S.1 (TA n0) 8)) l1) (TA n0 + 5) (Int32.toNatClampNeg (S.1 (TA n0) 8)) l2)) rfl rfl ?_
    obtain ⟨hb4, h⟩ := l2_n h
    refine am_Rn.bast2 (n := 31) rfl (l2_len n0 6 (st_i (st_i (st_i (st_i S (TA n0) 8 ((S.1 (TA n0) 8) + 1)) (TA n0 + 3) (Int32.toNatClampNeg (S.1 (TA n0) 8)) l1) (TA n0 + 4) (Int32.toNatClampNeg (S.1 (TA n0) 8)) l1) (TA n0 + 5) (Int32.toNatClampNeg (S.1 (TA n0) 8)) l2) (by decide) (by decide)) hb4 ?_
    show am_Rn _ _ _ _ (54, [some (.ref (TA n0)), some (.int l1), some (.int l2), some (.int (S.1 (TA n0) 8))], [], am_T0 (st_i (st_i (st_i (st_i (st_i S (TA n0) 8 ((S.1 (TA n0) 8) + 1)) (TA n0 + 3) (Int32.toNatClampNeg (S.1 (TA n0) 8)) l1) (TA n0 + 4) (Int32.toNatClampNeg (S.1 (TA n0) 8)) l1) (TA n0 + 5) (Int32.toNatClampNeg (S.1 (TA n0) 8)) l2) (TA n0 + 6) (Int32.toNatClampNeg (S.1 (TA n0) 8)) (0 &&& 1)))
    refine am_Rn.op _ (55, [some (.ref (TA n0)), some (.int l1), some (.int l2), some (.int (S.1 (TA n0) 8))], [.int l1], am_T0 (st_i (st_i (st_i (st_i (st_i S (TA n0) 8 ((S.1 (TA n0) 8) + 1)) (TA n0 + 3) (Int32.toNatClampNeg (S.1 (TA n0) 8)) l1) (TA n0 + 4) (Int32.toNatClampNeg (S.1 (TA n0) 8)) l1) (TA n0 + 5) (Int32.toNatClampNeg (S.1 (TA n0) 8)) l2) (TA n0 + 6) (Int32.toNatClampNeg (S.1 (TA n0) 8)) (0 &&& 1))) rfl rfl ?_
    refine am_Rn.op _ (if l1 ≤ 0 then 76 else 58, [some (.ref (TA n0)), some (.int l1), some (.int l2), some (.int (S.1 (TA n0) 8))], [], am_T0 (st_i (st_i (st_i (st_i (st_i S (TA n0) 8 ((S.1 (TA n0) 8) + 1)) (TA n0 + 3) (Int32.toNatClampNeg (S.1 (TA n0) 8)) l1) (TA n0 + 4) (Int32.toNatClampNeg (S.1 (TA n0) 8)) l1) (TA n0 + 5) (Int32.toNatClampNeg (S.1 (TA n0) 8)) l2) (TA n0 + 6) (Int32.toNatClampNeg (S.1 (TA n0) 8)) (0 &&& 1))) rfl rfl ?_
    rcases l2_i h with ⟨hc, h⟩ | ⟨hc, h⟩
    · refine am_Rn.ifT hc ?_
      refine am_Rn.op _ (77, [some (.ref (TA n0)), some (.int l1), some (.int l2), some (.int (S.1 (TA n0) 8))], [.int (S.1 (TA n0) 8)], am_T0 (st_i (st_i (st_i (st_i (st_i S (TA n0) 8 ((S.1 (TA n0) 8) + 1)) (TA n0 + 3) (Int32.toNatClampNeg (S.1 (TA n0) 8)) l1) (TA n0 + 4) (Int32.toNatClampNeg (S.1 (TA n0) 8)) l1) (TA n0 + 5) (Int32.toNatClampNeg (S.1 (TA n0) 8)) l2) (TA n0 + 6) (Int32.toNatClampNeg (S.1 (TA n0) 8)) (0 &&& 1))) rfl rfl ?_
      cases h
      exact am_Rn.rt _ rfl rfl
    · refine am_Rn.ifF hc ?_
      refine am_Rn.op _ (59, [some (.ref (TA n0)), some (.int l1), some (.int l2), some (.int (S.1 (TA n0) 8))], [.int l1], am_T0 (st_i (st_i (st_i (st_i (st_i S (TA n0) 8 ((S.1 (TA n0) 8) + 1)) (TA n0 + 3) (Int32.toNatClampNeg (S.1 (TA n0) 8)) l1) (TA n0 + 4) (Int32.toNatClampNeg (S.1 (TA n0) 8)) l1) (TA n0 + 5) (Int32.toNatClampNeg (S.1 (TA n0) 8)) l2) (TA n0 + 6) (Int32.toNatClampNeg (S.1 (TA n0) 8)) (0 &&& 1))) rfl rfl ?_
      refine am_Rn.op _ (60, [some (.ref (TA n0)), some (.int l1), some (.int l2), some (.int (S.1 (TA n0) 8))], [.ref (TA n0), .int l1], am_T0 (st_i (st_i (st_i (st_i (st_i S (TA n0) 8 ((S.1 (TA n0) 8) + 1)) (TA n0 + 3) (Int32.toNatClampNeg (S.1 (TA n0) 8)) l1) (TA n0 + 4) (Int32.toNatClampNeg (S.1 (TA n0) 8)) l1) (TA n0 + 5) (Int32.toNatClampNeg (S.1 (TA n0) 8)) l2) (TA n0 + 6) (Int32.toNatClampNeg (S.1 (TA n0) 8)) (0 &&& 1))) rfl rfl ?_
      refine am_Rn.getf rfl (l2_isO n0 (st_i (st_i (st_i (st_i (st_i S (TA n0) 8 ((S.1 (TA n0) 8) + 1)) (TA n0 + 3) (Int32.toNatClampNeg (S.1 (TA n0) 8)) l1) (TA n0 + 4) (Int32.toNatClampNeg (S.1 (TA n0) 8)) l1) (TA n0 + 5) (Int32.toNatClampNeg (S.1 (TA n0) 8)) l2) (TA n0 + 6) (Int32.toNatClampNeg (S.1 (TA n0) 8)) (0 &&& 1))) (l2_ref n0 2 (st_i (st_i (st_i (st_i (st_i S (TA n0) 8 ((S.1 (TA n0) 8) + 1)) (TA n0 + 3) (Int32.toNatClampNeg (S.1 (TA n0) 8)) l1) (TA n0 + 4) (Int32.toNatClampNeg (S.1 (TA n0) 8)) l1) (TA n0 + 5) (Int32.toNatClampNeg (S.1 (TA n0) 8)) l2) (TA n0 + 6) (Int32.toNatClampNeg (S.1 (TA n0) 8)) (0 &&& 1)) (by decide) rfl) ?_
      show am_Rn _ _ _ _ (63, [some (.ref (TA n0)), some (.int l1), some (.int l2), some (.int (S.1 (TA n0) 8))], [.ref (TA n0 + 2), .int l1], am_T0 (st_i (st_i (st_i (st_i (st_i S (TA n0) 8 ((S.1 (TA n0) 8) + 1)) (TA n0 + 3) (Int32.toNatClampNeg (S.1 (TA n0) 8)) l1) (TA n0 + 4) (Int32.toNatClampNeg (S.1 (TA n0) 8)) l1) (TA n0 + 5) (Int32.toNatClampNeg (S.1 (TA n0) 8)) l2) (TA n0 + 6) (Int32.toNatClampNeg (S.1 (TA n0) 8)) (0 &&& 1)))
      refine am_Rn.alen (n := 60) rfl (l2_alen n0 2 (st_i (st_i (st_i (st_i (st_i S (TA n0) 8 ((S.1 (TA n0) 8) + 1)) (TA n0 + 3) (Int32.toNatClampNeg (S.1 (TA n0) 8)) l1) (TA n0 + 4) (Int32.toNatClampNeg (S.1 (TA n0) 8)) l1) (TA n0 + 5) (Int32.toNatClampNeg (S.1 (TA n0) 8)) l2) (TA n0 + 6) (Int32.toNatClampNeg (S.1 (TA n0) 8)) (0 &&& 1)) (by decide) (by decide) (by decide)) ?_
      show am_Rn _ _ _ _ (64, [some (.ref (TA n0)), some (.int l1), some (.int l2), some (.int (S.1 (TA n0) 8))], [.int 60, .int l1], am_T0 (st_i (st_i (st_i (st_i (st_i S (TA n0) 8 ((S.1 (TA n0) 8) + 1)) (TA n0 + 3) (Int32.toNatClampNeg (S.1 (TA n0) 8)) l1) (TA n0 + 4) (Int32.toNatClampNeg (S.1 (TA n0) 8)) l1) (TA n0 + 5) (Int32.toNatClampNeg (S.1 (TA n0) 8)) l2) (TA n0 + 6) (Int32.toNatClampNeg (S.1 (TA n0) 8)) (0 &&& 1)))
      refine am_Rn.op _ (if 60 < l1 then 76 else 67, [some (.ref (TA n0)), some (.int l1), some (.int l2), some (.int (S.1 (TA n0) 8))], [], am_T0 (st_i (st_i (st_i (st_i (st_i S (TA n0) 8 ((S.1 (TA n0) 8) + 1)) (TA n0 + 3) (Int32.toNatClampNeg (S.1 (TA n0) 8)) l1) (TA n0 + 4) (Int32.toNatClampNeg (S.1 (TA n0) 8)) l1) (TA n0 + 5) (Int32.toNatClampNeg (S.1 (TA n0) 8)) l2) (TA n0 + 6) (Int32.toNatClampNeg (S.1 (TA n0) 8)) (0 &&& 1))) rfl rfl ?_
      rcases l2_i h with ⟨hc, h⟩ | ⟨hc, h⟩
      · refine am_Rn.ifT hc ?_
        refine am_Rn.op _ (77, [some (.ref (TA n0)), some (.int l1), some (.int l2), some (.int (S.1 (TA n0) 8))], [.int (S.1 (TA n0) 8)], am_T0 (st_i (st_i (st_i (st_i (st_i S (TA n0) 8 ((S.1 (TA n0) 8) + 1)) (TA n0 + 3) (Int32.toNatClampNeg (S.1 (TA n0) 8)) l1) (TA n0 + 4) (Int32.toNatClampNeg (S.1 (TA n0) 8)) l1) (TA n0 + 5) (Int32.toNatClampNeg (S.1 (TA n0) 8)) l2) (TA n0 + 6) (Int32.toNatClampNeg (S.1 (TA n0) 8)) (0 &&& 1))) rfl rfl ?_
        cases h
        exact am_Rn.rt _ rfl rfl
      · refine am_Rn.ifF hc ?_
        refine am_Rn.op _ (68, [some (.ref (TA n0)), some (.int l1), some (.int l2), some (.int (S.1 (TA n0) 8))], [.ref (TA n0)], am_T0 (st_i (st_i (st_i (st_i (st_i S (TA n0) 8 ((S.1 (TA n0) 8) + 1)) (TA n0 + 3) (Int32.toNatClampNeg (S.1 (TA n0) 8)) l1) (TA n0 + 4) (Int32.toNatClampNeg (S.1 (TA n0) 8)) l1) (TA n0 + 5) (Int32.toNatClampNeg (S.1 (TA n0) 8)) l2) (TA n0 + 6) (Int32.toNatClampNeg (S.1 (TA n0) 8)) (0 &&& 1))) rfl rfl ?_
        refine am_Rn.getf rfl (l2_isO n0 (st_i (st_i (st_i (st_i (st_i S (TA n0) 8 ((S.1 (TA n0) 8) + 1)) (TA n0 + 3) (Int32.toNatClampNeg (S.1 (TA n0) 8)) l1) (TA n0 + 4) (Int32.toNatClampNeg (S.1 (TA n0) 8)) l1) (TA n0 + 5) (Int32.toNatClampNeg (S.1 (TA n0) 8)) l2) (TA n0 + 6) (Int32.toNatClampNeg (S.1 (TA n0) 8)) (0 &&& 1))) (l2_ref n0 2 (st_i (st_i (st_i (st_i (st_i S (TA n0) 8 ((S.1 (TA n0) 8) + 1)) (TA n0 + 3) (Int32.toNatClampNeg (S.1 (TA n0) 8)) l1) (TA n0 + 4) (Int32.toNatClampNeg (S.1 (TA n0) 8)) l1) (TA n0 + 5) (Int32.toNatClampNeg (S.1 (TA n0) 8)) l2) (TA n0 + 6) (Int32.toNatClampNeg (S.1 (TA n0) 8)) (0 &&& 1)) (by decide) rfl) ?_
        show am_Rn _ _ _ _ (71, [some (.ref (TA n0)), some (.int l1), some (.int l2), some (.int (S.1 (TA n0) 8))], [.ref (TA n0 + 2)], am_T0 (st_i (st_i (st_i (st_i (st_i S (TA n0) 8 ((S.1 (TA n0) 8) + 1)) (TA n0 + 3) (Int32.toNatClampNeg (S.1 (TA n0) 8)) l1) (TA n0 + 4) (Int32.toNatClampNeg (S.1 (TA n0) 8)) l1) (TA n0 + 5) (Int32.toNatClampNeg (S.1 (TA n0) 8)) l2) (TA n0 + 6) (Int32.toNatClampNeg (S.1 (TA n0) 8)) (0 &&& 1)))
        refine am_Rn.op _ (72, [some (.ref (TA n0)), some (.int l1), some (.int l2), some (.int (S.1 (TA n0) 8))], [.int l1, .ref (TA n0 + 2)], am_T0 (st_i (st_i (st_i (st_i (st_i S (TA n0) 8 ((S.1 (TA n0) 8) + 1)) (TA n0 + 3) (Int32.toNatClampNeg (S.1 (TA n0) 8)) l1) (TA n0 + 4) (Int32.toNatClampNeg (S.1 (TA n0) 8)) l1) (TA n0 + 5) (Int32.toNatClampNeg (S.1 (TA n0) 8)) l2) (TA n0 + 6) (Int32.toNatClampNeg (S.1 (TA n0) 8)) (0 &&& 1))) rfl rfl ?_
        refine am_Rn.op _ (73, [some (.ref (TA n0)), some (.int l1), some (.int l2), some (.int (S.1 (TA n0) 8))], [.int 1, .int l1, .ref (TA n0 + 2)], am_T0 (st_i (st_i (st_i (st_i (st_i S (TA n0) 8 ((S.1 (TA n0) 8) + 1)) (TA n0 + 3) (Int32.toNatClampNeg (S.1 (TA n0) 8)) l1) (TA n0 + 4) (Int32.toNatClampNeg (S.1 (TA n0) 8)) l1) (TA n0 + 5) (Int32.toNatClampNeg (S.1 (TA n0) 8)) l2) (TA n0 + 6) (Int32.toNatClampNeg (S.1 (TA n0) 8)) (0 &&& 1))) rfl rfl ?_
        refine am_Rn.op _ (74, [some (.ref (TA n0)), some (.int l1), some (.int l2), some (.int (S.1 (TA n0) 8))], [.int (l1 - 1), .ref (TA n0 + 2)], am_T0 (st_i (st_i (st_i (st_i (st_i S (TA n0) 8 ((S.1 (TA n0) 8) + 1)) (TA n0 + 3) (Int32.toNatClampNeg (S.1 (TA n0) 8)) l1) (TA n0 + 4) (Int32.toNatClampNeg (S.1 (TA n0) 8)) l1) (TA n0 + 5) (Int32.toNatClampNeg (S.1 (TA n0) 8)) l2) (TA n0 + 6) (Int32.toNatClampNeg (S.1 (TA n0) 8)) (0 &&& 1))) rfl rfl ?_
        refine am_Rn.op _ (75, [some (.ref (TA n0)), some (.int l1), some (.int l2), some (.int (S.1 (TA n0) 8))], [.int (S.1 (TA n0) 8), .int (l1 - 1), .ref (TA n0 + 2)], am_T0 (st_i (st_i (st_i (st_i (st_i S (TA n0) 8 ((S.1 (TA n0) 8) + 1)) (TA n0 + 3) (Int32.toNatClampNeg (S.1 (TA n0) 8)) l1) (TA n0 + 4) (Int32.toNatClampNeg (S.1 (TA n0) 8)) l1) (TA n0 + 5) (Int32.toNatClampNeg (S.1 (TA n0) 8)) l2) (TA n0 + 6) (Int32.toNatClampNeg (S.1 (TA n0) 8)) (0 &&& 1))) rfl rfl ?_
        obtain ⟨hb5, h⟩ := l2_n h
        refine am_Rn.iast (n := 60) rfl (l2_len n0 2 (st_i (st_i (st_i (st_i (st_i S (TA n0) 8 ((S.1 (TA n0) 8) + 1)) (TA n0 + 3) (Int32.toNatClampNeg (S.1 (TA n0) 8)) l1) (TA n0 + 4) (Int32.toNatClampNeg (S.1 (TA n0) 8)) l1) (TA n0 + 5) (Int32.toNatClampNeg (S.1 (TA n0) 8)) l2) (TA n0 + 6) (Int32.toNatClampNeg (S.1 (TA n0) 8)) (0 &&& 1)) (by decide) (by decide)) hb5 ?_
        show am_Rn _ _ _ _ (76, [some (.ref (TA n0)), some (.int l1), some (.int l2), some (.int (S.1 (TA n0) 8))], [], am_T0 (st_i (st_i (st_i (st_i (st_i (st_i S (TA n0) 8 ((S.1 (TA n0) 8) + 1)) (TA n0 + 3) (Int32.toNatClampNeg (S.1 (TA n0) 8)) l1) (TA n0 + 4) (Int32.toNatClampNeg (S.1 (TA n0) 8)) l1) (TA n0 + 5) (Int32.toNatClampNeg (S.1 (TA n0) 8)) l2) (TA n0 + 6) (Int32.toNatClampNeg (S.1 (TA n0) 8)) (0 &&& 1)) (TA n0 + 2) (Int32.toNatClampNeg (l1 - 1)) (S.1 (TA n0) 8)))
        refine am_Rn.op _ (77, [some (.ref (TA n0)), some (.int l1), some (.int l2), some (.int (S.1 (TA n0) 8))], [.int (S.1 (TA n0) 8)], am_T0 (st_i (st_i (st_i (st_i (st_i (st_i S (TA n0) 8 ((S.1 (TA n0) 8) + 1)) (TA n0 + 3) (Int32.toNatClampNeg (S.1 (TA n0) 8)) l1) (TA n0 + 4) (Int32.toNatClampNeg (S.1 (TA n0) 8)) l1) (TA n0 + 5) (Int32.toNatClampNeg (S.1 (TA n0) 8)) l2) (TA n0 + 6) (Int32.toNatClampNeg (S.1 (TA n0) 8)) (0 &&& 1)) (TA n0 + 2) (Int32.toNatClampNeg (l1 - 1)) (S.1 (TA n0) 8))) rfl rfl ?_
        cases h
        exact am_Rn.rt _ rfl rfl
  · refine am_Rn.ifF hc ?_
    refine am_Rn.op _ (10, [some (.ref (TA n0)), some (.int l1), some (.int l2), none], [.int (-1)], am_T0 S) rfl rfl ?_
    cases h
    exact am_Rn.rt _ rfl rfl
-- X5_length
def fX5_length (N : Nat) (n0 : Nat) (S : St) : Option (Int32 × St) := some ((S.1 (TA n0) 1), S)
set_option maxRecDepth 20000 in
theorem rfX5_length (d N : Nat) (n0 : Nat) (S : St) (z : (Int32 × St)) (h : fX5_length N n0 S = some z) : am_C (d + 1) 48 [.ref (TA n0)] (am_T0 S) (some (.int z.1), am_T0 z.2) := by
  unfold fX5_length at h
  show am_Rn (am_C (d + 0)) (am_ct 48) (am_rk 48) (some (.int z.1), am_T0 z.2) (0, [some (.ref (TA n0))], [], am_T0 S)
  refine am_Rn.op _ (1, [some (.ref (TA n0))], [.ref (TA n0)], am_T0 S) rfl rfl ?_
  refine am_Rn.getf rfl (l2_isO n0 S) rfl ?_
  show am_Rn _ _ _ _ (4, [some (.ref (TA n0))], [.int (S.1 (TA n0) 1)], am_T0 S)
  cases h
  exact am_Rn.rt _ rfl rfl
-- X3_refuse
def fX3_refuse (N : Nat) (l1 : Int32) (l2 : Int32) (S : St) : Option (Int32 × St) := some ((-1), (st_i (st_i S 3 1 l1) 3 2 l2))
set_option maxRecDepth 20000 in
theorem rfX3_refuse (d N : Nat) (l1 : Int32) (l2 : Int32) (S : St) (z : (Int32 × St)) (h : fX3_refuse N l1 l2 S = some z) : am_C (d + 1) 35 [.ref 3, .int l1, .int l2] (am_T0 S) (some (.int z.1), am_T0 z.2) := by
  unfold fX3_refuse at h
  show am_Rn (am_C (d + 0)) (am_ct 35) (am_rk 35) (some (.int z.1), am_T0 z.2) (0, [some (.ref 3), some (.int l1), some (.int l2)], [], am_T0 S)
  refine am_Rn.op _ (1, [some (.ref 3), some (.int l1), some (.int l2)], [.ref 3], am_T0 S) rfl rfl ?_
  refine am_Rn.op _ (2, [some (.ref 3), some (.int l1), some (.int l2)], [.int l1, .ref 3], am_T0 S) rfl rfl ?_
  refine am_Rn.op _ (5, [some (.ref 3), some (.int l1), some (.int l2)], [], am_T0 (st_i S 3 1 l1)) rfl rfl ?_
  refine am_Rn.op _ (6, [some (.ref 3), some (.int l1), some (.int l2)], [.ref 3], am_T0 (st_i S 3 1 l1)) rfl rfl ?_
  refine am_Rn.op _ (7, [some (.ref 3), some (.int l1), some (.int l2)], [.int l2, .ref 3], am_T0 (st_i S 3 1 l1)) rfl rfl ?_
  refine am_Rn.op _ (10, [some (.ref 3), some (.int l1), some (.int l2)], [], am_T0 (st_i (st_i S 3 1 l1) 3 2 l2)) rfl rfl ?_
  refine am_Rn.op _ (11, [some (.ref 3), some (.int l1), some (.int l2)], [.int (-1)], am_T0 (st_i (st_i S 3 1 l1) 3 2 l2)) rfl rfl ?_
  cases h
  exact am_Rn.rt _ rfl rfl
