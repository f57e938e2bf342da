def N0 : Nat := 2097152
/-- what one pair of calls must do: both answer, alike, and the state stays good -/
def LStep (Inv : St → Prop) : Prop := ∀ S : St, Inv S → (∀ (a1 a2 a3 a4 a5 : Int32), ∃ (r : Int32) (S1 S2 : St), fX7_feed N0 a1 a2 a3 a4 a5 S = some (r, S1) ∧ fX8_feed N0 a1 a2 a3 a4 a5 S1 = some (r, S2) ∧ Inv S2) ∧
  (∀ (a1 a2 : Int32), ∃ (r : Int32) (S1 S2 : St), fX7_text N0 a1 a2 S = some (r, S1) ∧ fX8_text N0 a1 a2 S1 = some (r, S2) ∧ Inv S2) ∧
  (∀ (a1 a2 : Int32), ∃ (r : Int32) (S1 S2 : St), fX7_under N0 a1 a2 S = some (r, S1) ∧ fX8_under N0 a1 a2 S1 = some (r, S2) ∧ Inv S2) ∧
  (∀ (a1 a2 : Int32), ∃ (r : Int32) (S1 S2 : St), fX7_promise N0 a1 a2 S = some (r, S1) ∧ fX8_promise N0 a1 a2 S1 = some (r, S2) ∧ Inv S2) ∧
  (∀ (a1 a2 a3 a4 : Int32), ∃ (r : Int32) (S1 S2 : St), fX7_steps N0 a1 a2 a3 a4 S = some (r, S1) ∧ fX8_steps N0 a1 a2 a3 a4 S1 = some (r, S2) ∧ Inv S2) ∧
  (∀ (a1 a2 : Int32), ∃ (r : Int32) (S1 S2 : St), fX7_leaves N0 a1 a2 S = some (r, S1) ∧ fX8_leaves N0 a1 a2 S1 = some (r, S2) ∧ Inv S2) ∧
  (∀ (a1 a2 : Int32), ∃ (r : Int32) (S1 S2 : St), fX7_ends N0 a1 a2 S = some (r, S1) ∧ fX8_ends N0 a1 a2 S1 = some (r, S2) ∧ Inv S2) ∧
  (∀ (a1 a2 : Int32), ∃ (r : Int32) (S1 S2 : St), fX7_due N0 a1 a2 S = some (r, S1) ∧ fX8_due N0 a1 a2 S1 = some (r, S2) ∧ Inv S2) ∧
  (∀ (a1 : Int32), ∃ (r : Int32) (S1 S2 : St), fX7_takers N0 a1 S = some (r, S1) ∧ fX8_takers N0 a1 S1 = some (r, S2) ∧ Inv S2) ∧
  (∀ (a1 a2 a3 : Int32), ∃ (r : Int32) (S1 S2 : St), fX7_taker N0 a1 a2 a3 S = some (r, S1) ∧ fX8_taker N0 a1 a2 a3 S1 = some (r, S2) ∧ Inv S2) ∧
  (∀ (a1 : Int32), ∃ (r : Int32) (S1 S2 : St), fX7_lost N0 a1 S = some (r, S1) ∧ fX8_lost N0 a1 S1 = some (r, S2) ∧ Inv S2) ∧
  (∀ (a1 : Int32), ∃ (r : Int32) (S1 S2 : St), fX7_broken N0 a1 S = some (r, S1) ∧ fX8_broken N0 a1 S1 = some (r, S2) ∧ Inv S2) ∧
  (∀ (a1 : Int32), ∃ (r : Int32) (S1 S2 : St), fX7_idle N0 a1 S = some (r, S1) ∧ fX8_idle N0 a1 S1 = some (r, S2) ∧ Inv S2) ∧
  (∀ (a1 a2 : Int32), ∃ (r : Int32) (S1 S2 : St), fX7_look N0 a1 a2 S = some (r, S1) ∧ fX8_look N0 a1 a2 S1 = some (r, S2) ∧ Inv S2) ∧
  (∀ (a1 a2 : Int32), ∃ (r : Int32) (S1 S2 : St), fX7_is N0 a1 a2 S = some (r, S1) ∧ fX8_is N0 a1 a2 S1 = some (r, S2) ∧ Inv S2) ∧
  (∀ (a1 : Int32), ∃ (r : Int32) (S1 S2 : St), fX7_fault N0 a1 S = some (r, S1) ∧ fX8_fault N0 a1 S1 = some (r, S2) ∧ Inv S2)
theorem law_ix {i k L : Nat} {x y : Int32} (hx : x = nI i) (hy : y = nI k) (h : i + k < L) (hL : L ≤ 3072) : vp_in (x + y) L := by
  rw [hx, hy, nI_add]; exact vp_in_nI h (by omega)
theorem law_go {i L : Nat} (hL : L ≤ 3072) (hi : i ≤ L + 6) (h : ¬ (Int32.ofNat L - 6 < nI i)) : i + 6 ≤ L := by
  rcases Nat.lt_or_ge L (i + 6) with q | q
  · refine absurd ?_ h
    have e : (Int32.ofNat L - 6).toInt = (L : Int) - 6 := pk_sub_toInt (a := L) (b := 6) (by omega) (by omega)
    rw [Int32.lt_iff_toInt_lt, e, nI_toInt (by omega)]
    omega
  · exact q
theorem law_wl {ix k : Nat} (h : decide (Cond.methodLink R_law ix (am_y k) ∈ lw_tbl) = true) : Cond.methodLink R_law ix (am_y k) ∈ am_T := am_inT (of_decide_eq_true h) rfl
set_option maxRecDepth 100000 in
theorem law_sl : am_sl 148 = 469818 := by decide +kernel
theorem law_call0 {p : Program} {l : Launch} {e : Env} {s : State} {m : MethodId} {below : List Frame} {meth : Method} {c : Code} {D : va_G} {cA : Nat → ClassId} {sb : Nat} {Q : State → Prop} {H : Heap} {locs : List Loc} {ls : Array Slot} {pc ix k d a : Nat} {As rest st : List Value} {S S1 : St} {r : Int32} (hx : p.tables.exec = Jvm.exec) (hb : c.code = code) (hml : c.maxLocals = 4) (hown : s.vm.findClass R_law = some m.cls) (hts : ∀ w ∈ lw_tbl, w.before #[Value.ref sb] s = true) (hK : va_K D vwCl (am_tys cA) s) (hN : am_NW s)
    (hd : decode code pc = .ok (.invokevirtual ix, 3)) (hlk : Cond.methodLink R_law ix (am_y k) ∈ am_T) (hk : k < am_nM) (hmk : am_mk k = 0) (hlen : As.length = am_np k) (hall : As.all am_c1 = true) (hdd : d ≤ 100) (hO : am_isO a (am_own k) (am_T0 S) = true) (hC : am_C d k (.ref a :: As) (am_T0 S) (some (.int r), am_T0 S1))
    (hst : st = (As.map (am_cv s.heap.size)).reverse ++ .ref (s.heap.size + a) :: rest) (hrest : (rest.map fun v => v.category).sum ≤ 8) (hls : ls.size = 4) (hr : am_rel D cA s.heap.size (am_T0 S) H) (hS : va_S (fun q => s.heap.size ≤ q) s.heap H locs)
    (kk : ∀ (H1 : Heap) (locs1 : List Loc), am_rel D cA s.heap.size (am_T0 S1) H1 → va_S (fun q => s.heap.size ≤ q) s.heap H1 locs1 → W p l e room_1 s m #[Value.ref sb] below meth c H1 locs1 148 (am_sl 148) Q (F0 m (pc + 3) ls (.int r :: rest))) :
    W p l e room_1 s m #[Value.ref sb] below meth c H locs 148 (am_sl 148) Q (F0 m pc ls st) := by
  have e1 : (am_T0 S1).2.2 - (am_T0 S).2.2 = 0 := Nat.sub_self 148
  have e2 : am_sl (am_T0 S1).2.2 - am_sl (am_T0 S).2.2 = 0 := Nat.sub_self (am_sl 148)
  refine law_call (res := (some (.int r), am_T0 S1)) hx hb hml hown hts hK hN hd hlk hk hmk hlen hall hdd hO hC ?_ ?_ hst hrest hls hr hS ?_
  · show 148 + ((am_T0 S1).2.2 - (am_T0 S).2.2) ≤ _
    rw [e1]; decide
  · show am_sl 148 + (am_sl (am_T0 S1).2.2 - am_sl (am_T0 S).2.2) ≤ _
    rw [e2, law_sl]; decide
  · intro H1 locs1 h1 h2
    show W p l e room_1 s m #[Value.ref sb] below meth c H1 locs1 (148 + ((am_T0 S1).2.2 - (am_T0 S).2.2)) (am_sl 148 + (am_sl (am_T0 S1).2.2 - am_sl (am_T0 S).2.2)) Q (F0 m (pc + 3) ls (.int r :: rest))
    rw [e1, e2, Nat.add_zero, Nat.add_zero]
    exact kk H1 locs1 h1 h2
set_option maxRecDepth 100000 in
set_option maxHeartbeats 4000000 in
theorem law_case0 (Inv : St → Prop) (hst : LStep Inv) {p : Program} {l : Launch} {e : Env} {s : State} {m : MethodId} {below : List Frame} {meth : Method} {c : Code} {D : va_G} {cA : Nat → ClassId} {sb L : Nat} {xs : Nat → Int32} (hL : L ≤ 3072) (C0 : lw_At p s m meth c sb L xs) (hK : va_K D vwCl (am_tys cA) s) (hN : am_NW s) {i : Nat} {x3 : Int32} (ex : x3 = nI i) (hi6 : i + 6 ≤ L) {S : St} (hI : Inv S) {H : Heap} {locs : List Loc} {ls : Array Slot} (hr : am_rel D cA s.heap.size (am_T0 S) H) (hS : va_S (fun q => s.heap.size ≤ q) s.heap H locs) (hl : lv_has ls 4 [(0, .ref sb), (1, .ref (s.heap.size + 0)), (2, .ref (s.heap.size + 128)), (3, .int x3)])
    (kk : ∀ (S2 : St) (H : Heap) (locs : List Loc), Inv S2 → am_rel D cA s.heap.size (am_T0 S2) H → va_S (fun q => s.heap.size ≤ q) s.heap H locs → W p l e room_1 s m #[Value.ref sb] below meth c H locs 148 (am_sl 148) (lw_Z below #[Value.ref sb] s) (F0 m 650 ls [])) : W p l e room_1 s m #[Value.ref sb] below meth c H locs 148 (am_sl 148) (lw_Z below #[Value.ref sb] s) (F0 m 112 ls []) := by
  obtain ⟨hx, hb, hrr, hml, hown, hts, hX, hbl, hlocks, hgv⟩ := C0
  have hbA : ¬ (fun q : Nat => s.heap.size ≤ q) sb := Nat.not_le.mpr hbl
  have hin1 : vp_in (x3 + 1) L := law_ix ex (k := 1) rfl (by omega) hL
  have hin2 : vp_in (x3 + 2) L := law_ix ex (k := 2) rfl (by omega) hL
  have hin3 : vp_in (x3 + 3) L := law_ix ex (k := 3) rfl (by omega) hL
  have hin4 : vp_in (x3 + 4) L := law_ix ex (k := 4) rfl (by omega) hL
  have hin5 : vp_in (x3 + 5) L := law_ix ex (k := 5) rfl (by omega) hL
  obtain ⟨r, S1, S2, h1, h2, hI2⟩ := (hst S hI).1 (xs (Int32.toNatClampNeg (x3 + 1))) (xs (Int32.toNatClampNeg (x3 + 2))) (xs (Int32.toNatClampNeg (x3 + 3))) (xs (Int32.toNatClampNeg (x3 + 4))) (xs (Int32.toNatClampNeg (x3 + 5)))
  refine lv_aload_n hx hb dL_law_112 rfl (lv_at hl 1 rfl) ?_
  refine lv_aload_n hx hb dL_law_113 rfl (lv_at hl 0 rfl) ?_
  refine lv_iload_n hx hb dL_law_114 rfl (lv_at hl 3 rfl) ?_
  refine lv_iconst (v := 1) hx hb dL_law_115 (by decide) ?_
  refine lv_iadd hx hb dL_law_116 ?_
  refine va_sld hx hb hX hbl hbA hS hin1 dL_law_117 ?_
  refine lv_aload_n hx hb dL_law_118 rfl (lv_at hl 0 rfl) ?_
  refine lv_iload_n hx hb dL_law_119 rfl (lv_at hl 3 rfl) ?_
  refine lv_iconst (v := 2) hx hb dL_law_120 (by decide) ?_
  refine lv_iadd hx hb dL_law_121 ?_
  refine va_sld hx hb hX hbl hbA hS hin2 dL_law_122 ?_
  refine lv_aload_n hx hb dL_law_123 rfl (lv_at hl 0 rfl) ?_
  refine lv_iload_n hx hb dL_law_124 rfl (lv_at hl 3 rfl) ?_
  refine lv_iconst (v := 3) hx hb dL_law_125 (by decide) ?_
  refine lv_iadd hx hb dL_law_126 ?_
  refine va_sld hx hb hX hbl hbA hS hin3 dL_law_127 ?_
  refine lv_aload_n hx hb dL_law_128 rfl (lv_at hl 0 rfl) ?_
  refine lv_iload_n hx hb dL_law_129 rfl (lv_at hl 3 rfl) ?_
  refine lv_iconst (v := 4) hx hb dL_law_130 (by decide) ?_
  refine lv_iadd hx hb dL_law_131 ?_
  refine va_sld hx hb hX hbl hbA hS hin4 dL_law_132 ?_
  refine lv_aload_n hx hb dL_law_133 rfl (lv_at hl 0 rfl) ?_
  refine lv_iload_n hx hb dL_law_134 rfl (lv_at hl 3 rfl) ?_
  refine lv_iconst (v := 5) hx hb dL_law_135 (by decide) ?_
  refine lv_iadd hx hb dL_law_136 ?_
  refine va_sld hx hb hX hbl hbA hS hin5 dL_law_137 ?_
  refine law_call0 (k := 83) (d := 0 + 2) (a := 0) (As := [.int (xs (Int32.toNatClampNeg (x3 + 1))), .int (xs (Int32.toNatClampNeg (x3 + 2))), .int (xs (Int32.toNatClampNeg (x3 + 3))), .int (xs (Int32.toNatClampNeg (x3 + 4))), .int (xs (Int32.toNatClampNeg (x3 + 5)))]) (rest := []) (S := S) (S1 := S1) (r := r) hx hb hml hown hts hK hN dL_law_138 (law_wl (by decide +kernel)) (by decide) rfl rfl rfl (by decide) rfl (rfX7_feed 0 N0 (xs (Int32.toNatClampNeg (x3 + 1))) (xs (Int32.toNatClampNeg (x3 + 2))) (xs (Int32.toNatClampNeg (x3 + 3))) (xs (Int32.toNatClampNeg (x3 + 4))) (xs (Int32.toNatClampNeg (x3 + 5))) S (r, S1) h1) rfl (Nat.le_of_ble_eq_true rfl) hl.1 hr hS (fun H locs hr hS => ?_)
  refine lv_aload_n hx hb dL_law_141 rfl (lv_at hl 2 rfl) ?_
  refine lv_aload_n hx hb dL_law_142 rfl (lv_at hl 0 rfl) ?_
  refine lv_iload_n hx hb dL_law_143 rfl (lv_at hl 3 rfl) ?_
  refine lv_iconst (v := 1) hx hb dL_law_144 (by decide) ?_
  refine lv_iadd hx hb dL_law_145 ?_
  refine va_sld hx hb hX hbl hbA hS hin1 dL_law_146 ?_
  refine lv_aload_n hx hb dL_law_147 rfl (lv_at hl 0 rfl) ?_
  refine lv_iload_n hx hb dL_law_148 rfl (lv_at hl 3 rfl) ?_
  refine lv_iconst (v := 2) hx hb dL_law_149 (by decide) ?_
  refine lv_iadd hx hb dL_law_150 ?_
  refine va_sld hx hb hX hbl hbA hS hin2 dL_law_151 ?_
  refine lv_aload_n hx hb dL_law_152 rfl (lv_at hl 0 rfl) ?_
  refine lv_iload_n hx hb dL_law_153 rfl (lv_at hl 3 rfl) ?_
  refine lv_iconst (v := 3) hx hb dL_law_154 (by decide) ?_
  refine lv_iadd hx hb dL_law_155 ?_
  refine va_sld hx hb hX hbl hbA hS hin3 dL_law_156 ?_
  refine lv_aload_n hx hb dL_law_157 rfl (lv_at hl 0 rfl) ?_
  refine lv_iload_n hx hb dL_law_158 rfl (lv_at hl 3 rfl) ?_
  refine lv_iconst (v := 4) hx hb dL_law_159 (by decide) ?_
  refine lv_iadd hx hb dL_law_160 ?_
  refine va_sld hx hb hX hbl hbA hS hin4 dL_law_161 ?_
  refine lv_aload_n hx hb dL_law_162 rfl (lv_at hl 0 rfl) ?_
  refine lv_iload_n hx hb dL_law_163 rfl (lv_at hl 3 rfl) ?_
  refine lv_iconst (v := 5) hx hb dL_law_164 (by decide) ?_
  refine lv_iadd hx hb dL_law_165 ?_
  refine va_sld hx hb hX hbl hbA hS hin5 dL_law_166 ?_
  refine law_call0 (k := 118) (d := 0 + 2) (a := 128) (As := [.int (xs (Int32.toNatClampNeg (x3 + 1))), .int (xs (Int32.toNatClampNeg (x3 + 2))), .int (xs (Int32.toNatClampNeg (x3 + 3))), .int (xs (Int32.toNatClampNeg (x3 + 4))), .int (xs (Int32.toNatClampNeg (x3 + 5)))]) (rest := [.int r]) (S := S1) (S1 := S2) (r := r) hx hb hml hown hts hK hN dL_law_167 (law_wl (by decide +kernel)) (by decide) rfl rfl rfl (by decide) rfl (rfX8_feed 0 N0 (xs (Int32.toNatClampNeg (x3 + 1))) (xs (Int32.toNatClampNeg (x3 + 2))) (xs (Int32.toNatClampNeg (x3 + 3))) (xs (Int32.toNatClampNeg (x3 + 4))) (xs (Int32.toNatClampNeg (x3 + 5))) S1 (r, S2) h2) rfl (Nat.le_of_ble_eq_true rfl) hl.1 hr hS (fun H locs hr hS => ?_)
  refine lv_icmp_eq (tgt := 650) hx hb dL_law_170 (by decide) (fun _ => ?_) (fun q => absurd rfl q)
  exact kk S2 H locs hI2 hr hS
set_option maxRecDepth 100000 in
set_option maxHeartbeats 4000000 in
theorem law_case1 (Inv : St → Prop) (hst : LStep Inv) {p : Program} {l : Launch} {e : Env} {s : State} {m : MethodId} {below : List Frame} {meth : Method} {c : Code} {D : va_G} {cA : Nat → ClassId} {sb L : Nat} {xs : Nat → Int32} (hL : L ≤ 3072) (C0 : lw_At p s m meth c sb L xs) (hK : va_K D vwCl (am_tys cA) s) (hN : am_NW s) {i : Nat} {x3 : Int32} (ex : x3 = nI i) (hi6 : i + 6 ≤ L) {S : St} (hI : Inv S) {H : Heap} {locs : List Loc} {ls : Array Slot} (hr : am_rel D cA s.heap.size (am_T0 S) H) (hS : va_S (fun q => s.heap.size ≤ q) s.heap H locs) (hl : lv_has ls 4 [(0, .ref sb), (1, .ref (s.heap.size + 0)), (2, .ref (s.heap.size + 128)), (3, .int x3)])
    (kk : ∀ (S2 : St) (H : Heap) (locs : List Loc), Inv S2 → am_rel D cA s.heap.size (am_T0 S2) H → va_S (fun q => s.heap.size ≤ q) s.heap H locs → W p l e room_1 s m #[Value.ref sb] below meth c H locs 148 (am_sl 148) (lw_Z below #[Value.ref sb] s) (F0 m 650 ls [])) : W p l e room_1 s m #[Value.ref sb] below meth c H locs 148 (am_sl 148) (lw_Z below #[Value.ref sb] s) (F0 m 175 ls []) := by
  obtain ⟨hx, hb, hrr, hml, hown, hts, hX, hbl, hlocks, hgv⟩ := C0
  have hbA : ¬ (fun q : Nat => s.heap.size ≤ q) sb := Nat.not_le.mpr hbl
  have hin1 : vp_in (x3 + 1) L := law_ix ex (k := 1) rfl (by omega) hL
  have hin2 : vp_in (x3 + 2) L := law_ix ex (k := 2) rfl (by omega) hL
  obtain ⟨r, S1, S2, h1, h2, hI2⟩ := (hst S hI).2.1 (xs (Int32.toNatClampNeg (x3 + 1))) (xs (Int32.toNatClampNeg (x3 + 2)))
  refine lv_aload_n hx hb dL_law_175 rfl (lv_at hl 1 rfl) ?_
  refine lv_aload_n hx hb dL_law_176 rfl (lv_at hl 0 rfl) ?_
  refine lv_iload_n hx hb dL_law_177 rfl (lv_at hl 3 rfl) ?_
  refine lv_iconst (v := 1) hx hb dL_law_178 (by decide) ?_
  refine lv_iadd hx hb dL_law_179 ?_
  refine va_sld hx hb hX hbl hbA hS hin1 dL_law_180 ?_
  refine lv_aload_n hx hb dL_law_181 rfl (lv_at hl 0 rfl) ?_
  refine lv_iload_n hx hb dL_law_182 rfl (lv_at hl 3 rfl) ?_
  refine lv_iconst (v := 2) hx hb dL_law_183 (by decide) ?_
  refine lv_iadd hx hb dL_law_184 ?_
  refine va_sld hx hb hX hbl hbA hS hin2 dL_law_185 ?_
  refine law_call0 (k := 84) (d := 0 + 45) (a := 0) (As := [.int (xs (Int32.toNatClampNeg (x3 + 1))), .int (xs (Int32.toNatClampNeg (x3 + 2)))]) (rest := []) (S := S) (S1 := S1) (r := r) hx hb hml hown hts hK hN dL_law_186 (law_wl (by decide +kernel)) (by decide) rfl rfl rfl (by decide) rfl (rfX7_text 0 N0 (xs (Int32.toNatClampNeg (x3 + 1))) (xs (Int32.toNatClampNeg (x3 + 2))) S (r, S1) h1) rfl (Nat.le_of_ble_eq_true rfl) hl.1 hr hS (fun H locs hr hS => ?_)
  refine lv_aload_n hx hb dL_law_189 rfl (lv_at hl 2 rfl) ?_
  refine lv_aload_n hx hb dL_law_190 rfl (lv_at hl 0 rfl) ?_
  refine lv_iload_n hx hb dL_law_191 rfl (lv_at hl 3 rfl) ?_
  refine lv_iconst (v := 1) hx hb dL_law_192 (by decide) ?_
  refine lv_iadd hx hb dL_law_193 ?_
  refine va_sld hx hb hX hbl hbA hS hin1 dL_law_194 ?_
  refine lv_aload_n hx hb dL_law_195 rfl (lv_at hl 0 rfl) ?_
  refine lv_iload_n hx hb dL_law_196 rfl (lv_at hl 3 rfl) ?_
  refine lv_iconst (v := 2) hx hb dL_law_197 (by decide) ?_
  refine lv_iadd hx hb dL_law_198 ?_
  refine va_sld hx hb hX hbl hbA hS hin2 dL_law_199 ?_
  refine law_call0 (k := 127) (d := 0 + 6) (a := 128) (As := [.int (xs (Int32.toNatClampNeg (x3 + 1))), .int (xs (Int32.toNatClampNeg (x3 + 2)))]) (rest := [.int r]) (S := S1) (S1 := S2) (r := r) hx hb hml hown hts hK hN dL_law_200 (law_wl (by decide +kernel)) (by decide) rfl rfl rfl (by decide) rfl (rfX8_text 0 N0 (xs (Int32.toNatClampNeg (x3 + 1))) (xs (Int32.toNatClampNeg (x3 + 2))) S1 (r, S2) h2) rfl (Nat.le_of_ble_eq_true rfl) hl.1 hr hS (fun H locs hr hS => ?_)
  refine lv_icmp_eq (tgt := 650) hx hb dL_law_203 (by decide) (fun _ => ?_) (fun q => absurd rfl q)
  exact kk S2 H locs hI2 hr hS
set_option maxRecDepth 100000 in
set_option maxHeartbeats 4000000 in
theorem law_case2 (Inv : St → Prop) (hst : LStep Inv) {p : Program} {l : Launch} {e : Env} {s : State} {m : MethodId} {below : List Frame} {meth : Method} {c : Code} {D : va_G} {cA : Nat → ClassId} {sb L : Nat} {xs : Nat → Int32} (hL : L ≤ 3072) (C0 : lw_At p s m meth c sb L xs) (hK : va_K D vwCl (am_tys cA) s) (hN : am_NW s) {i : Nat} {x3 : Int32} (ex : x3 = nI i) (hi6 : i + 6 ≤ L) {S : St} (hI : Inv S) {H : Heap} {locs : List Loc} {ls : Array Slot} (hr : am_rel D cA s.heap.size (am_T0 S) H) (hS : va_S (fun q => s.heap.size ≤ q) s.heap H locs) (hl : lv_has ls 4 [(0, .ref sb), (1, .ref (s.heap.size + 0)), (2, .ref (s.heap.size + 128)), (3, .int x3)])
    (kk : ∀ (S2 : St) (H : Heap) (locs : List Loc), Inv S2 → am_rel D cA s.heap.size (am_T0 S2) H → va_S (fun q => s.heap.size ≤ q) s.heap H locs → W p l e room_1 s m #[Value.ref sb] below meth c H locs 148 (am_sl 148) (lw_Z below #[Value.ref sb] s) (F0 m 650 ls [])) : W p l e room_1 s m #[Value.ref sb] below meth c H locs 148 (am_sl 148) (lw_Z below #[Value.ref sb] s) (F0 m 208 ls []) := by
  obtain ⟨hx, hb, hrr, hml, hown, hts, hX, hbl, hlocks, hgv⟩ := C0
  have hbA : ¬ (fun q : Nat => s.heap.size ≤ q) sb := Nat.not_le.mpr hbl
  have hin1 : vp_in (x3 + 1) L := law_ix ex (k := 1) rfl (by omega) hL
  have hin2 : vp_in (x3 + 2) L := law_ix ex (k := 2) rfl (by omega) hL
  obtain ⟨r, S1, S2, h1, h2, hI2⟩ := (hst S hI).2.2.1 (xs (Int32.toNatClampNeg (x3 + 1))) (xs (Int32.toNatClampNeg (x3 + 2)))
  refine lv_aload_n hx hb dL_law_208 rfl (lv_at hl 1 rfl) ?_
  refine lv_aload_n hx hb dL_law_209 rfl (lv_at hl 0 rfl) ?_
  refine lv_iload_n hx hb dL_law_210 rfl (lv_at hl 3 rfl) ?_
  refine lv_iconst (v := 1) hx hb dL_law_211 (by decide) ?_
  refine lv_iadd hx hb dL_law_212 ?_
  refine va_sld hx hb hX hbl hbA hS hin1 dL_law_213 ?_
  refine lv_aload_n hx hb dL_law_214 rfl (lv_at hl 0 rfl) ?_
  refine lv_iload_n hx hb dL_law_215 rfl (lv_at hl 3 rfl) ?_
  refine lv_iconst (v := 2) hx hb dL_law_216 (by decide) ?_
  refine lv_iadd hx hb dL_law_217 ?_
  refine va_sld hx hb hX hbl hbA hS hin2 dL_law_218 ?_
  refine law_call0 (k := 85) (d := 0 + 4) (a := 0) (As := [.int (xs (Int32.toNatClampNeg (x3 + 1))), .int (xs (Int32.toNatClampNeg (x3 + 2)))]) (rest := []) (S := S) (S1 := S1) (r := r) hx hb hml hown hts hK hN dL_law_219 (law_wl (by decide +kernel)) (by decide) rfl rfl rfl (by decide) rfl (rfX7_under 0 N0 (xs (Int32.toNatClampNeg (x3 + 1))) (xs (Int32.toNatClampNeg (x3 + 2))) S (r, S1) h1) rfl (Nat.le_of_ble_eq_true rfl) hl.1 hr hS (fun H locs hr hS => ?_)
  refine lv_aload_n hx hb dL_law_222 rfl (lv_at hl 2 rfl) ?_
  refine lv_aload_n hx hb dL_law_223 rfl (lv_at hl 0 rfl) ?_
  refine lv_iload_n hx hb dL_law_224 rfl (lv_at hl 3 rfl) ?_
  refine lv_iconst (v := 1) hx hb dL_law_225 (by decide) ?_
  refine lv_iadd hx hb dL_law_226 ?_
  refine va_sld hx hb hX hbl hbA hS hin1 dL_law_227 ?_
  refine lv_aload_n hx hb dL_law_228 rfl (lv_at hl 0 rfl) ?_
  refine lv_iload_n hx hb dL_law_229 rfl (lv_at hl 3 rfl) ?_
  refine lv_iconst (v := 2) hx hb dL_law_230 (by decide) ?_
  refine lv_iadd hx hb dL_law_231 ?_
  refine va_sld hx hb hX hbl hbA hS hin2 dL_law_232 ?_
  refine law_call0 (k := 115) (d := 0 + 2) (a := 128) (As := [.int (xs (Int32.toNatClampNeg (x3 + 1))), .int (xs (Int32.toNatClampNeg (x3 + 2)))]) (rest := [.int r]) (S := S1) (S1 := S2) (r := r) hx hb hml hown hts hK hN dL_law_233 (law_wl (by decide +kernel)) (by decide) rfl rfl rfl (by decide) rfl (rfX8_under 0 N0 (xs (Int32.toNatClampNeg (x3 + 1))) (xs (Int32.toNatClampNeg (x3 + 2))) S1 (r, S2) h2) rfl (Nat.le_of_ble_eq_true rfl) hl.1 hr hS (fun H locs hr hS => ?_)
  refine lv_icmp_eq (tgt := 650) hx hb dL_law_236 (by decide) (fun _ => ?_) (fun q => absurd rfl q)
  exact kk S2 H locs hI2 hr hS
set_option maxRecDepth 100000 in
set_option maxHeartbeats 4000000 in
theorem law_case3 (Inv : St → Prop) (hst : LStep Inv) {p : Program} {l : Launch} {e : Env} {s : State} {m : MethodId} {below : List Frame} {meth : Method} {c : Code} {D : va_G} {cA : Nat → ClassId} {sb L : Nat} {xs : Nat → Int32} (hL : L ≤ 3072) (C0 : lw_At p s m meth c sb L xs) (hK : va_K D vwCl (am_tys cA) s) (hN : am_NW s) {i : Nat} {x3 : Int32} (ex : x3 = nI i) (hi6 : i + 6 ≤ L) {S : St} (hI : Inv S) {H : Heap} {locs : List Loc} {ls : Array Slot} (hr : am_rel D cA s.heap.size (am_T0 S) H) (hS : va_S (fun q => s.heap.size ≤ q) s.heap H locs) (hl : lv_has ls 4 [(0, .ref sb), (1, .ref (s.heap.size + 0)), (2, .ref (s.heap.size + 128)), (3, .int x3)])
    (kk : ∀ (S2 : St) (H : Heap) (locs : List Loc), Inv S2 → am_rel D cA s.heap.size (am_T0 S2) H → va_S (fun q => s.heap.size ≤ q) s.heap H locs → W p l e room_1 s m #[Value.ref sb] below meth c H locs 148 (am_sl 148) (lw_Z below #[Value.ref sb] s) (F0 m 650 ls [])) : W p l e room_1 s m #[Value.ref sb] below meth c H locs 148 (am_sl 148) (lw_Z below #[Value.ref sb] s) (F0 m 241 ls []) := by
  obtain ⟨hx, hb, hrr, hml, hown, hts, hX, hbl, hlocks, hgv⟩ := C0
  have hbA : ¬ (fun q : Nat => s.heap.size ≤ q) sb := Nat.not_le.mpr hbl
  have hin1 : vp_in (x3 + 1) L := law_ix ex (k := 1) rfl (by omega) hL
  have hin2 : vp_in (x3 + 2) L := law_ix ex (k := 2) rfl (by omega) hL
  obtain ⟨r, S1, S2, h1, h2, hI2⟩ := (hst S hI).2.2.2.1 (xs (Int32.toNatClampNeg (x3 + 1))) (xs (Int32.toNatClampNeg (x3 + 2)))
  refine lv_aload_n hx hb dL_law_241 rfl (lv_at hl 1 rfl) ?_
  refine lv_aload_n hx hb dL_law_242 rfl (lv_at hl 0 rfl) ?_
  refine lv_iload_n hx hb dL_law_243 rfl (lv_at hl 3 rfl) ?_
  refine lv_iconst (v := 1) hx hb dL_law_244 (by decide) ?_
  refine lv_iadd hx hb dL_law_245 ?_
  refine va_sld hx hb hX hbl hbA hS hin1 dL_law_246 ?_
  refine lv_aload_n hx hb dL_law_247 rfl (lv_at hl 0 rfl) ?_
  refine lv_iload_n hx hb dL_law_248 rfl (lv_at hl 3 rfl) ?_
  refine lv_iconst (v := 2) hx hb dL_law_249 (by decide) ?_
  refine lv_iadd hx hb dL_law_250 ?_
  refine va_sld hx hb hX hbl hbA hS hin2 dL_law_251 ?_
  refine law_call0 (k := 86) (d := 0 + 2) (a := 0) (As := [.int (xs (Int32.toNatClampNeg (x3 + 1))), .int (xs (Int32.toNatClampNeg (x3 + 2)))]) (rest := []) (S := S) (S1 := S1) (r := r) hx hb hml hown hts hK hN dL_law_252 (law_wl (by decide +kernel)) (by decide) rfl rfl rfl (by decide) rfl (rfX7_promise 0 N0 (xs (Int32.toNatClampNeg (x3 + 1))) (xs (Int32.toNatClampNeg (x3 + 2))) S (r, S1) h1) rfl (Nat.le_of_ble_eq_true rfl) hl.1 hr hS (fun H locs hr hS => ?_)
  refine lv_aload_n hx hb dL_law_255 rfl (lv_at hl 2 rfl) ?_
  refine lv_aload_n hx hb dL_law_256 rfl (lv_at hl 0 rfl) ?_
  refine lv_iload_n hx hb dL_law_257 rfl (lv_at hl 3 rfl) ?_
  refine lv_iconst (v := 1) hx hb dL_law_258 (by decide) ?_
  refine lv_iadd hx hb dL_law_259 ?_
  refine va_sld hx hb hX hbl hbA hS hin1 dL_law_260 ?_
  refine lv_aload_n hx hb dL_law_261 rfl (lv_at hl 0 rfl) ?_
  refine lv_iload_n hx hb dL_law_262 rfl (lv_at hl 3 rfl) ?_
  refine lv_iconst (v := 2) hx hb dL_law_263 (by decide) ?_
  refine lv_iadd hx hb dL_law_264 ?_
  refine va_sld hx hb hX hbl hbA hS hin2 dL_law_265 ?_
  refine law_call0 (k := 163) (d := 0 + 2) (a := 128) (As := [.int (xs (Int32.toNatClampNeg (x3 + 1))), .int (xs (Int32.toNatClampNeg (x3 + 2)))]) (rest := [.int r]) (S := S1) (S1 := S2) (r := r) hx hb hml hown hts hK hN dL_law_266 (law_wl (by decide +kernel)) (by decide) rfl rfl rfl (by decide) rfl (rfX8_promise 0 N0 (xs (Int32.toNatClampNeg (x3 + 1))) (xs (Int32.toNatClampNeg (x3 + 2))) S1 (r, S2) h2) rfl (Nat.le_of_ble_eq_true rfl) hl.1 hr hS (fun H locs hr hS => ?_)
  refine lv_icmp_eq (tgt := 650) hx hb dL_law_269 (by decide) (fun _ => ?_) (fun q => absurd rfl q)
  exact kk S2 H locs hI2 hr hS
set_option maxRecDepth 100000 in
set_option maxHeartbeats 4000000 in
theorem law_case4 (Inv : St → Prop) (hst : LStep Inv) {p : Program} {l : Launch} {e : Env} {s : State} {m : MethodId} {below : List Frame} {meth : Method} {c : Code} {D : va_G} {cA : Nat → ClassId} {sb L : Nat} {xs : Nat → Int32} (hL : L ≤ 3072) (C0 : lw_At p s m meth c sb L xs) (hK : va_K D vwCl (am_tys cA) s) (hN : am_NW s) {i : Nat} {x3 : Int32} (ex : x3 = nI i) (hi6 : i + 6 ≤ L) {S : St} (hI : Inv S) {H : Heap} {locs : List Loc} {ls : Array Slot} (hr : am_rel D cA s.heap.size (am_T0 S) H) (hS : va_S (fun q => s.heap.size ≤ q) s.heap H locs) (hl : lv_has ls 4 [(0, .ref sb), (1, .ref (s.heap.size + 0)), (2, .ref (s.heap.size + 128)), (3, .int x3)])
    (kk : ∀ (S2 : St) (H : Heap) (locs : List Loc), Inv S2 → am_rel D cA s.heap.size (am_T0 S2) H → va_S (fun q => s.heap.size ≤ q) s.heap H locs → W p l e room_1 s m #[Value.ref sb] below meth c H locs 148 (am_sl 148) (lw_Z below #[Value.ref sb] s) (F0 m 650 ls [])) : W p l e room_1 s m #[Value.ref sb] below meth c H locs 148 (am_sl 148) (lw_Z below #[Value.ref sb] s) (F0 m 274 ls []) := by
  obtain ⟨hx, hb, hrr, hml, hown, hts, hX, hbl, hlocks, hgv⟩ := C0
  have hbA : ¬ (fun q : Nat => s.heap.size ≤ q) sb := Nat.not_le.mpr hbl
  have hin1 : vp_in (x3 + 1) L := law_ix ex (k := 1) rfl (by omega) hL
  have hin2 : vp_in (x3 + 2) L := law_ix ex (k := 2) rfl (by omega) hL
  have hin3 : vp_in (x3 + 3) L := law_ix ex (k := 3) rfl (by omega) hL
  have hin4 : vp_in (x3 + 4) L := law_ix ex (k := 4) rfl (by omega) hL
  obtain ⟨r, S1, S2, h1, h2, hI2⟩ := (hst S hI).2.2.2.2.1 (xs (Int32.toNatClampNeg (x3 + 1))) (xs (Int32.toNatClampNeg (x3 + 2))) (xs (Int32.toNatClampNeg (x3 + 3))) (xs (Int32.toNatClampNeg (x3 + 4)))
  refine lv_aload_n hx hb dL_law_274 rfl (lv_at hl 1 rfl) ?_
  refine lv_aload_n hx hb dL_law_275 rfl (lv_at hl 0 rfl) ?_
  refine lv_iload_n hx hb dL_law_276 rfl (lv_at hl 3 rfl) ?_
  refine lv_iconst (v := 1) hx hb dL_law_277 (by decide) ?_
  refine lv_iadd hx hb dL_law_278 ?_
  refine va_sld hx hb hX hbl hbA hS hin1 dL_law_279 ?_
  refine lv_aload_n hx hb dL_law_280 rfl (lv_at hl 0 rfl) ?_
  refine lv_iload_n hx hb dL_law_281 rfl (lv_at hl 3 rfl) ?_
  refine lv_iconst (v := 2) hx hb dL_law_282 (by decide) ?_
  refine lv_iadd hx hb dL_law_283 ?_
  refine va_sld hx hb hX hbl hbA hS hin2 dL_law_284 ?_
  refine lv_aload_n hx hb dL_law_285 rfl (lv_at hl 0 rfl) ?_
  refine lv_iload_n hx hb dL_law_286 rfl (lv_at hl 3 rfl) ?_
  refine lv_iconst (v := 3) hx hb dL_law_287 (by decide) ?_
  refine lv_iadd hx hb dL_law_288 ?_
  refine va_sld hx hb hX hbl hbA hS hin3 dL_law_289 ?_
  refine lv_aload_n hx hb dL_law_290 rfl (lv_at hl 0 rfl) ?_
  refine lv_iload_n hx hb dL_law_291 rfl (lv_at hl 3 rfl) ?_
  refine lv_iconst (v := 4) hx hb dL_law_292 (by decide) ?_
  refine lv_iadd hx hb dL_law_293 ?_
  refine va_sld hx hb hX hbl hbA hS hin4 dL_law_294 ?_
  refine law_call0 (k := 87) (d := 0 + 8) (a := 0) (As := [.int (xs (Int32.toNatClampNeg (x3 + 1))), .int (xs (Int32.toNatClampNeg (x3 + 2))), .int (xs (Int32.toNatClampNeg (x3 + 3))), .int (xs (Int32.toNatClampNeg (x3 + 4)))]) (rest := []) (S := S) (S1 := S1) (r := r) hx hb hml hown hts hK hN dL_law_295 (law_wl (by decide +kernel)) (by decide) rfl rfl rfl (by decide) rfl (rfX7_steps 0 N0 (xs (Int32.toNatClampNeg (x3 + 1))) (xs (Int32.toNatClampNeg (x3 + 2))) (xs (Int32.toNatClampNeg (x3 + 3))) (xs (Int32.toNatClampNeg (x3 + 4))) S (r, S1) h1) rfl (Nat.le_of_ble_eq_true rfl) hl.1 hr hS (fun H locs hr hS => ?_)
  refine lv_aload_n hx hb dL_law_298 rfl (lv_at hl 2 rfl) ?_
  refine lv_aload_n hx hb dL_law_299 rfl (lv_at hl 0 rfl) ?_
  refine lv_iload_n hx hb dL_law_300 rfl (lv_at hl 3 rfl) ?_
  refine lv_iconst (v := 1) hx hb dL_law_301 (by decide) ?_
  refine lv_iadd hx hb dL_law_302 ?_
  refine va_sld hx hb hX hbl hbA hS hin1 dL_law_303 ?_
  refine lv_aload_n hx hb dL_law_304 rfl (lv_at hl 0 rfl) ?_
  refine lv_iload_n hx hb dL_law_305 rfl (lv_at hl 3 rfl) ?_
  refine lv_iconst (v := 2) hx hb dL_law_306 (by decide) ?_
  refine lv_iadd hx hb dL_law_307 ?_
  refine va_sld hx hb hX hbl hbA hS hin2 dL_law_308 ?_
  refine lv_aload_n hx hb dL_law_309 rfl (lv_at hl 0 rfl) ?_
  refine lv_iload_n hx hb dL_law_310 rfl (lv_at hl 3 rfl) ?_
  refine lv_iconst (v := 3) hx hb dL_law_311 (by decide) ?_
  refine lv_iadd hx hb dL_law_312 ?_
  refine va_sld hx hb hX hbl hbA hS hin3 dL_law_313 ?_
  refine lv_aload_n hx hb dL_law_314 rfl (lv_at hl 0 rfl) ?_
  refine lv_iload_n hx hb dL_law_315 rfl (lv_at hl 3 rfl) ?_
  refine lv_iconst (v := 4) hx hb dL_law_316 (by decide) ?_
  refine lv_iadd hx hb dL_law_317 ?_
  refine va_sld hx hb hX hbl hbA hS hin4 dL_law_318 ?_
  refine law_call0 (k := 152) (d := 0 + 10) (a := 128) (As := [.int (xs (Int32.toNatClampNeg (x3 + 1))), .int (xs (Int32.toNatClampNeg (x3 + 2))), .int (xs (Int32.toNatClampNeg (x3 + 3))), .int (xs (Int32.toNatClampNeg (x3 + 4)))]) (rest := [.int r]) (S := S1) (S1 := S2) (r := r) hx hb hml hown hts hK hN dL_law_319 (law_wl (by decide +kernel)) (by decide) rfl rfl rfl (by decide) rfl (rfX8_steps 0 N0 (xs (Int32.toNatClampNeg (x3 + 1))) (xs (Int32.toNatClampNeg (x3 + 2))) (xs (Int32.toNatClampNeg (x3 + 3))) (xs (Int32.toNatClampNeg (x3 + 4))) S1 (r, S2) h2) rfl (Nat.le_of_ble_eq_true rfl) hl.1 hr hS (fun H locs hr hS => ?_)
  refine lv_icmp_eq (tgt := 650) hx hb dL_law_322 (by decide) (fun _ => ?_) (fun q => absurd rfl q)
  exact kk S2 H locs hI2 hr hS
set_option maxRecDepth 100000 in
set_option maxHeartbeats 4000000 in
theorem law_case5 (Inv : St → Prop) (hst : LStep Inv) {p : Program} {l : Launch} {e : Env} {s : State} {m : MethodId} {below : List Frame} {meth : Method} {c : Code} {D : va_G} {cA : Nat → ClassId} {sb L : Nat} {xs : Nat → Int32} (hL : L ≤ 3072) (C0 : lw_At p s m meth c sb L xs) (hK : va_K D vwCl (am_tys cA) s) (hN : am_NW s) {i : Nat} {x3 : Int32} (ex : x3 = nI i) (hi6 : i + 6 ≤ L) {S : St} (hI : Inv S) {H : Heap} {locs : List Loc} {ls : Array Slot} (hr : am_rel D cA s.heap.size (am_T0 S) H) (hS : va_S (fun q => s.heap.size ≤ q) s.heap H locs) (hl : lv_has ls 4 [(0, .ref sb), (1, .ref (s.heap.size + 0)), (2, .ref (s.heap.size + 128)), (3, .int x3)])
    (kk : ∀ (S2 : St) (H : Heap) (locs : List Loc), Inv S2 → am_rel D cA s.heap.size (am_T0 S2) H → va_S (fun q => s.heap.size ≤ q) s.heap H locs → W p l e room_1 s m #[Value.ref sb] below meth c H locs 148 (am_sl 148) (lw_Z below #[Value.ref sb] s) (F0 m 650 ls [])) : W p l e room_1 s m #[Value.ref sb] below meth c H locs 148 (am_sl 148) (lw_Z below #[Value.ref sb] s) (F0 m 327 ls []) := by
  obtain ⟨hx, hb, hrr, hml, hown, hts, hX, hbl, hlocks, hgv⟩ := C0
  have hbA : ¬ (fun q : Nat => s.heap.size ≤ q) sb := Nat.not_le.mpr hbl
  have hin1 : vp_in (x3 + 1) L := law_ix ex (k := 1) rfl (by omega) hL
  have hin2 : vp_in (x3 + 2) L := law_ix ex (k := 2) rfl (by omega) hL
  obtain ⟨r, S1, S2, h1, h2, hI2⟩ := (hst S hI).2.2.2.2.2.1 (xs (Int32.toNatClampNeg (x3 + 1))) (xs (Int32.toNatClampNeg (x3 + 2)))
  refine lv_aload_n hx hb dL_law_327 rfl (lv_at hl 1 rfl) ?_
  refine lv_aload_n hx hb dL_law_328 rfl (lv_at hl 0 rfl) ?_
  refine lv_iload_n hx hb dL_law_329 rfl (lv_at hl 3 rfl) ?_
  refine lv_iconst (v := 1) hx hb dL_law_330 (by decide) ?_
  refine lv_iadd hx hb dL_law_331 ?_
  refine va_sld hx hb hX hbl hbA hS hin1 dL_law_332 ?_
  refine lv_aload_n hx hb dL_law_333 rfl (lv_at hl 0 rfl) ?_
  refine lv_iload_n hx hb dL_law_334 rfl (lv_at hl 3 rfl) ?_
  refine lv_iconst (v := 2) hx hb dL_law_335 (by decide) ?_
  refine lv_iadd hx hb dL_law_336 ?_
  refine va_sld hx hb hX hbl hbA hS hin2 dL_law_337 ?_
  refine law_call0 (k := 88) (d := 0 + 8) (a := 0) (As := [.int (xs (Int32.toNatClampNeg (x3 + 1))), .int (xs (Int32.toNatClampNeg (x3 + 2)))]) (rest := []) (S := S) (S1 := S1) (r := r) hx hb hml hown hts hK hN dL_law_338 (law_wl (by decide +kernel)) (by decide) rfl rfl rfl (by decide) rfl (rfX7_leaves 0 N0 (xs (Int32.toNatClampNeg (x3 + 1))) (xs (Int32.toNatClampNeg (x3 + 2))) S (r, S1) h1) rfl (Nat.le_of_ble_eq_true rfl) hl.1 hr hS (fun H locs hr hS => ?_)
  refine lv_aload_n hx hb dL_law_341 rfl (lv_at hl 2 rfl) ?_
  refine lv_aload_n hx hb dL_law_342 rfl (lv_at hl 0 rfl) ?_
  refine lv_iload_n hx hb dL_law_343 rfl (lv_at hl 3 rfl) ?_
  refine lv_iconst (v := 1) hx hb dL_law_344 (by decide) ?_
  refine lv_iadd hx hb dL_law_345 ?_
  refine va_sld hx hb hX hbl hbA hS hin1 dL_law_346 ?_
  refine lv_aload_n hx hb dL_law_347 rfl (lv_at hl 0 rfl) ?_
  refine lv_iload_n hx hb dL_law_348 rfl (lv_at hl 3 rfl) ?_
  refine lv_iconst (v := 2) hx hb dL_law_349 (by decide) ?_
  refine lv_iadd hx hb dL_law_350 ?_
  refine va_sld hx hb hX hbl hbA hS hin2 dL_law_351 ?_
  refine law_call0 (k := 154) (d := 0 + 12) (a := 128) (As := [.int (xs (Int32.toNatClampNeg (x3 + 1))), .int (xs (Int32.toNatClampNeg (x3 + 2)))]) (rest := [.int r]) (S := S1) (S1 := S2) (r := r) hx hb hml hown hts hK hN dL_law_352 (law_wl (by decide +kernel)) (by decide) rfl rfl rfl (by decide) rfl (rfX8_leaves 0 N0 (xs (Int32.toNatClampNeg (x3 + 1))) (xs (Int32.toNatClampNeg (x3 + 2))) S1 (r, S2) h2) rfl (Nat.le_of_ble_eq_true rfl) hl.1 hr hS (fun H locs hr hS => ?_)
  refine lv_icmp_eq (tgt := 650) hx hb dL_law_355 (by decide) (fun _ => ?_) (fun q => absurd rfl q)
  exact kk S2 H locs hI2 hr hS
set_option maxRecDepth 100000 in
set_option maxHeartbeats 4000000 in
theorem law_case6 (Inv : St → Prop) (hst : LStep Inv) {p : Program} {l : Launch} {e : Env} {s : State} {m : MethodId} {below : List Frame} {meth : Method} {c : Code} {D : va_G} {cA : Nat → ClassId} {sb L : Nat} {xs : Nat → Int32} (hL : L ≤ 3072) (C0 : lw_At p s m meth c sb L xs) (hK : va_K D vwCl (am_tys cA) s) (hN : am_NW s) {i : Nat} {x3 : Int32} (ex : x3 = nI i) (hi6 : i + 6 ≤ L) {S : St} (hI : Inv S) {H : Heap} {locs : List Loc} {ls : Array Slot} (hr : am_rel D cA s.heap.size (am_T0 S) H) (hS : va_S (fun q => s.heap.size ≤ q) s.heap H locs) (hl : lv_has ls 4 [(0, .ref sb), (1, .ref (s.heap.size + 0)), (2, .ref (s.heap.size + 128)), (3, .int x3)])
    (kk : ∀ (S2 : St) (H : Heap) (locs : List Loc), Inv S2 → am_rel D cA s.heap.size (am_T0 S2) H → va_S (fun q => s.heap.size ≤ q) s.heap H locs → W p l e room_1 s m #[Value.ref sb] below meth c H locs 148 (am_sl 148) (lw_Z below #[Value.ref sb] s) (F0 m 650 ls [])) : W p l e room_1 s m #[Value.ref sb] below meth c H locs 148 (am_sl 148) (lw_Z below #[Value.ref sb] s) (F0 m 360 ls []) := by
  obtain ⟨hx, hb, hrr, hml, hown, hts, hX, hbl, hlocks, hgv⟩ := C0
  have hbA : ¬ (fun q : Nat => s.heap.size ≤ q) sb := Nat.not_le.mpr hbl
  have hin1 : vp_in (x3 + 1) L := law_ix ex (k := 1) rfl (by omega) hL
  have hin2 : vp_in (x3 + 2) L := law_ix ex (k := 2) rfl (by omega) hL
  obtain ⟨r, S1, S2, h1, h2, hI2⟩ := (hst S hI).2.2.2.2.2.2.1 (xs (Int32.toNatClampNeg (x3 + 1))) (xs (Int32.toNatClampNeg (x3 + 2)))
  refine lv_aload_n hx hb dL_law_360 rfl (lv_at hl 1 rfl) ?_
  refine lv_aload_n hx hb dL_law_361 rfl (lv_at hl 0 rfl) ?_
  refine lv_iload_n hx hb dL_law_362 rfl (lv_at hl 3 rfl) ?_
  refine lv_iconst (v := 1) hx hb dL_law_363 (by decide) ?_
  refine lv_iadd hx hb dL_law_364 ?_
  refine va_sld hx hb hX hbl hbA hS hin1 dL_law_365 ?_
  refine lv_aload_n hx hb dL_law_366 rfl (lv_at hl 0 rfl) ?_
  refine lv_iload_n hx hb dL_law_367 rfl (lv_at hl 3 rfl) ?_
  refine lv_iconst (v := 2) hx hb dL_law_368 (by decide) ?_
  refine lv_iadd hx hb dL_law_369 ?_
  refine va_sld hx hb hX hbl hbA hS hin2 dL_law_370 ?_
  refine law_call0 (k := 89) (d := 0 + 8) (a := 0) (As := [.int (xs (Int32.toNatClampNeg (x3 + 1))), .int (xs (Int32.toNatClampNeg (x3 + 2)))]) (rest := []) (S := S) (S1 := S1) (r := r) hx hb hml hown hts hK hN dL_law_371 (law_wl (by decide +kernel)) (by decide) rfl rfl rfl (by decide) rfl (rfX7_ends 0 N0 (xs (Int32.toNatClampNeg (x3 + 1))) (xs (Int32.toNatClampNeg (x3 + 2))) S (r, S1) h1) rfl (Nat.le_of_ble_eq_true rfl) hl.1 hr hS (fun H locs hr hS => ?_)
  refine lv_aload_n hx hb dL_law_374 rfl (lv_at hl 2 rfl) ?_
  refine lv_aload_n hx hb dL_law_375 rfl (lv_at hl 0 rfl) ?_
  refine lv_iload_n hx hb dL_law_376 rfl (lv_at hl 3 rfl) ?_
  refine lv_iconst (v := 1) hx hb dL_law_377 (by decide) ?_
  refine lv_iadd hx hb dL_law_378 ?_
  refine va_sld hx hb hX hbl hbA hS hin1 dL_law_379 ?_
  refine lv_aload_n hx hb dL_law_380 rfl (lv_at hl 0 rfl) ?_
  refine lv_iload_n hx hb dL_law_381 rfl (lv_at hl 3 rfl) ?_
  refine lv_iconst (v := 2) hx hb dL_law_382 (by decide) ?_
  refine lv_iadd hx hb dL_law_383 ?_
  refine va_sld hx hb hX hbl hbA hS hin2 dL_law_384 ?_
  refine law_call0 (k := 155) (d := 0 + 12) (a := 128) (As := [.int (xs (Int32.toNatClampNeg (x3 + 1))), .int (xs (Int32.toNatClampNeg (x3 + 2)))]) (rest := [.int r]) (S := S1) (S1 := S2) (r := r) hx hb hml hown hts hK hN dL_law_385 (law_wl (by decide +kernel)) (by decide) rfl rfl rfl (by decide) rfl (rfX8_ends 0 N0 (xs (Int32.toNatClampNeg (x3 + 1))) (xs (Int32.toNatClampNeg (x3 + 2))) S1 (r, S2) h2) rfl (Nat.le_of_ble_eq_true rfl) hl.1 hr hS (fun H locs hr hS => ?_)
  refine lv_icmp_eq (tgt := 650) hx hb dL_law_388 (by decide) (fun _ => ?_) (fun q => absurd rfl q)
  exact kk S2 H locs hI2 hr hS
set_option maxRecDepth 100000 in
set_option maxHeartbeats 4000000 in
theorem law_case7 (Inv : St → Prop) (hst : LStep Inv) {p : Program} {l : Launch} {e : Env} {s : State} {m : MethodId} {below : List Frame} {meth : Method} {c : Code} {D : va_G} {cA : Nat → ClassId} {sb L : Nat} {xs : Nat → Int32} (hL : L ≤ 3072) (C0 : lw_At p s m meth c sb L xs) (hK : va_K D vwCl (am_tys cA) s) (hN : am_NW s) {i : Nat} {x3 : Int32} (ex : x3 = nI i) (hi6 : i + 6 ≤ L) {S : St} (hI : Inv S) {H : Heap} {locs : List Loc} {ls : Array Slot} (hr : am_rel D cA s.heap.size (am_T0 S) H) (hS : va_S (fun q => s.heap.size ≤ q) s.heap H locs) (hl : lv_has ls 4 [(0, .ref sb), (1, .ref (s.heap.size + 0)), (2, .ref (s.heap.size + 128)), (3, .int x3)])
    (kk : ∀ (S2 : St) (H : Heap) (locs : List Loc), Inv S2 → am_rel D cA s.heap.size (am_T0 S2) H → va_S (fun q => s.heap.size ≤ q) s.heap H locs → W p l e room_1 s m #[Value.ref sb] below meth c H locs 148 (am_sl 148) (lw_Z below #[Value.ref sb] s) (F0 m 650 ls [])) : W p l e room_1 s m #[Value.ref sb] below meth c H locs 148 (am_sl 148) (lw_Z below #[Value.ref sb] s) (F0 m 393 ls []) := by
  obtain ⟨hx, hb, hrr, hml, hown, hts, hX, hbl, hlocks, hgv⟩ := C0
  have hbA : ¬ (fun q : Nat => s.heap.size ≤ q) sb := Nat.not_le.mpr hbl
  have hin1 : vp_in (x3 + 1) L := law_ix ex (k := 1) rfl (by omega) hL
  have hin2 : vp_in (x3 + 2) L := law_ix ex (k := 2) rfl (by omega) hL
  obtain ⟨r, S1, S2, h1, h2, hI2⟩ := (hst S hI).2.2.2.2.2.2.2.1 (xs (Int32.toNatClampNeg (x3 + 1))) (xs (Int32.toNatClampNeg (x3 + 2)))
  refine lv_aload_n hx hb dL_law_393 rfl (lv_at hl 1 rfl) ?_
  refine lv_aload_n hx hb dL_law_394 rfl (lv_at hl 0 rfl) ?_
  refine lv_iload_n hx hb dL_law_395 rfl (lv_at hl 3 rfl) ?_
  refine lv_iconst (v := 1) hx hb dL_law_396 (by decide) ?_
  refine lv_iadd hx hb dL_law_397 ?_
  refine va_sld hx hb hX hbl hbA hS hin1 dL_law_398 ?_
  refine lv_aload_n hx hb dL_law_399 rfl (lv_at hl 0 rfl) ?_
  refine lv_iload_n hx hb dL_law_400 rfl (lv_at hl 3 rfl) ?_
  refine lv_iconst (v := 2) hx hb dL_law_401 (by decide) ?_
  refine lv_iadd hx hb dL_law_402 ?_
  refine va_sld hx hb hX hbl hbA hS hin2 dL_law_403 ?_
  refine law_call0 (k := 90) (d := 0 + 8) (a := 0) (As := [.int (xs (Int32.toNatClampNeg (x3 + 1))), .int (xs (Int32.toNatClampNeg (x3 + 2)))]) (rest := []) (S := S) (S1 := S1) (r := r) hx hb hml hown hts hK hN dL_law_404 (law_wl (by decide +kernel)) (by decide) rfl rfl rfl (by decide) rfl (rfX7_due 0 N0 (xs (Int32.toNatClampNeg (x3 + 1))) (xs (Int32.toNatClampNeg (x3 + 2))) S (r, S1) h1) rfl (Nat.le_of_ble_eq_true rfl) hl.1 hr hS (fun H locs hr hS => ?_)
  refine lv_aload_n hx hb dL_law_407 rfl (lv_at hl 2 rfl) ?_
  refine lv_aload_n hx hb dL_law_408 rfl (lv_at hl 0 rfl) ?_
  refine lv_iload_n hx hb dL_law_409 rfl (lv_at hl 3 rfl) ?_
  refine lv_iconst (v := 1) hx hb dL_law_410 (by decide) ?_
  refine lv_iadd hx hb dL_law_411 ?_
  refine va_sld hx hb hX hbl hbA hS hin1 dL_law_412 ?_
  refine lv_aload_n hx hb dL_law_413 rfl (lv_at hl 0 rfl) ?_
  refine lv_iload_n hx hb dL_law_414 rfl (lv_at hl 3 rfl) ?_
  refine lv_iconst (v := 2) hx hb dL_law_415 (by decide) ?_
  refine lv_iadd hx hb dL_law_416 ?_
  refine va_sld hx hb hX hbl hbA hS hin2 dL_law_417 ?_
  refine law_call0 (k := 156) (d := 0 + 11) (a := 128) (As := [.int (xs (Int32.toNatClampNeg (x3 + 1))), .int (xs (Int32.toNatClampNeg (x3 + 2)))]) (rest := [.int r]) (S := S1) (S1 := S2) (r := r) hx hb hml hown hts hK hN dL_law_418 (law_wl (by decide +kernel)) (by decide) rfl rfl rfl (by decide) rfl (rfX8_due 0 N0 (xs (Int32.toNatClampNeg (x3 + 1))) (xs (Int32.toNatClampNeg (x3 + 2))) S1 (r, S2) h2) rfl (Nat.le_of_ble_eq_true rfl) hl.1 hr hS (fun H locs hr hS => ?_)
  refine lv_icmp_eq (tgt := 650) hx hb dL_law_421 (by decide) (fun _ => ?_) (fun q => absurd rfl q)
  exact kk S2 H locs hI2 hr hS
set_option maxRecDepth 100000 in
set_option maxHeartbeats 4000000 in
theorem law_case8 (Inv : St → Prop) (hst : LStep Inv) {p : Program} {l : Launch} {e : Env} {s : State} {m : MethodId} {below : List Frame} {meth : Method} {c : Code} {D : va_G} {cA : Nat → ClassId} {sb L : Nat} {xs : Nat → Int32} (hL : L ≤ 3072) (C0 : lw_At p s m meth c sb L xs) (hK : va_K D vwCl (am_tys cA) s) (hN : am_NW s) {i : Nat} {x3 : Int32} (ex : x3 = nI i) (hi6 : i + 6 ≤ L) {S : St} (hI : Inv S) {H : Heap} {locs : List Loc} {ls : Array Slot} (hr : am_rel D cA s.heap.size (am_T0 S) H) (hS : va_S (fun q => s.heap.size ≤ q) s.heap H locs) (hl : lv_has ls 4 [(0, .ref sb), (1, .ref (s.heap.size + 0)), (2, .ref (s.heap.size + 128)), (3, .int x3)])
    (kk : ∀ (S2 : St) (H : Heap) (locs : List Loc), Inv S2 → am_rel D cA s.heap.size (am_T0 S2) H → va_S (fun q => s.heap.size ≤ q) s.heap H locs → W p l e room_1 s m #[Value.ref sb] below meth c H locs 148 (am_sl 148) (lw_Z below #[Value.ref sb] s) (F0 m 650 ls [])) : W p l e room_1 s m #[Value.ref sb] below meth c H locs 148 (am_sl 148) (lw_Z below #[Value.ref sb] s) (F0 m 426 ls []) := by
  obtain ⟨hx, hb, hrr, hml, hown, hts, hX, hbl, hlocks, hgv⟩ := C0
  have hbA : ¬ (fun q : Nat => s.heap.size ≤ q) sb := Nat.not_le.mpr hbl
  have hin1 : vp_in (x3 + 1) L := law_ix ex (k := 1) rfl (by omega) hL
  obtain ⟨r, S1, S2, h1, h2, hI2⟩ := (hst S hI).2.2.2.2.2.2.2.2.1 (xs (Int32.toNatClampNeg (x3 + 1)))
  refine lv_aload_n hx hb dL_law_426 rfl (lv_at hl 1 rfl) ?_
  refine lv_aload_n hx hb dL_law_427 rfl (lv_at hl 0 rfl) ?_
  refine lv_iload_n hx hb dL_law_428 rfl (lv_at hl 3 rfl) ?_
  refine lv_iconst (v := 1) hx hb dL_law_429 (by decide) ?_
  refine lv_iadd hx hb dL_law_430 ?_
  refine va_sld hx hb hX hbl hbA hS hin1 dL_law_431 ?_
  refine law_call0 (k := 91) (d := 0 + 2) (a := 0) (As := [.int (xs (Int32.toNatClampNeg (x3 + 1)))]) (rest := []) (S := S) (S1 := S1) (r := r) hx hb hml hown hts hK hN dL_law_432 (law_wl (by decide +kernel)) (by decide) rfl rfl rfl (by decide) rfl (rfX7_takers 0 N0 (xs (Int32.toNatClampNeg (x3 + 1))) S (r, S1) h1) rfl (Nat.le_of_ble_eq_true rfl) hl.1 hr hS (fun H locs hr hS => ?_)
  refine lv_aload_n hx hb dL_law_435 rfl (lv_at hl 2 rfl) ?_
  refine lv_aload_n hx hb dL_law_436 rfl (lv_at hl 0 rfl) ?_
  refine lv_iload_n hx hb dL_law_437 rfl (lv_at hl 3 rfl) ?_
  refine lv_iconst (v := 1) hx hb dL_law_438 (by decide) ?_
  refine lv_iadd hx hb dL_law_439 ?_
  refine va_sld hx hb hX hbl hbA hS hin1 dL_law_440 ?_
  refine law_call0 (k := 159) (d := 0 + 3) (a := 128) (As := [.int (xs (Int32.toNatClampNeg (x3 + 1)))]) (rest := [.int r]) (S := S1) (S1 := S2) (r := r) hx hb hml hown hts hK hN dL_law_441 (law_wl (by decide +kernel)) (by decide) rfl rfl rfl (by decide) rfl (rfX8_takers 0 N0 (xs (Int32.toNatClampNeg (x3 + 1))) S1 (r, S2) h2) rfl (Nat.le_of_ble_eq_true rfl) hl.1 hr hS (fun H locs hr hS => ?_)
  refine lv_icmp_eq (tgt := 650) hx hb dL_law_444 (by decide) (fun _ => ?_) (fun q => absurd rfl q)
  exact kk S2 H locs hI2 hr hS
set_option maxRecDepth 100000 in
set_option maxHeartbeats 4000000 in
theorem law_case9 (Inv : St → Prop) (hst : LStep Inv) {p : Program} {l : Launch} {e : Env} {s : State} {m : MethodId} {below : List Frame} {meth : Method} {c : Code} {D : va_G} {cA : Nat → ClassId} {sb L : Nat} {xs : Nat → Int32} (hL : L ≤ 3072) (C0 : lw_At p s m meth c sb L xs) (hK : va_K D vwCl (am_tys cA) s) (hN : am_NW s) {i : Nat} {x3 : Int32} (ex : x3 = nI i) (hi6 : i + 6 ≤ L) {S : St} (hI : Inv S) {H : Heap} {locs : List Loc} {ls : Array Slot} (hr : am_rel D cA s.heap.size (am_T0 S) H) (hS : va_S (fun q => s.heap.size ≤ q) s.heap H locs) (hl : lv_has ls 4 [(0, .ref sb), (1, .ref (s.heap.size + 0)), (2, .ref (s.heap.size + 128)), (3, .int x3)])
    (kk : ∀ (S2 : St) (H : Heap) (locs : List Loc), Inv S2 → am_rel D cA s.heap.size (am_T0 S2) H → va_S (fun q => s.heap.size ≤ q) s.heap H locs → W p l e room_1 s m #[Value.ref sb] below meth c H locs 148 (am_sl 148) (lw_Z below #[Value.ref sb] s) (F0 m 650 ls [])) : W p l e room_1 s m #[Value.ref sb] below meth c H locs 148 (am_sl 148) (lw_Z below #[Value.ref sb] s) (F0 m 449 ls []) := by
  obtain ⟨hx, hb, hrr, hml, hown, hts, hX, hbl, hlocks, hgv⟩ := C0
  have hbA : ¬ (fun q : Nat => s.heap.size ≤ q) sb := Nat.not_le.mpr hbl
  have hin1 : vp_in (x3 + 1) L := law_ix ex (k := 1) rfl (by omega) hL
  have hin2 : vp_in (x3 + 2) L := law_ix ex (k := 2) rfl (by omega) hL
  have hin3 : vp_in (x3 + 3) L := law_ix ex (k := 3) rfl (by omega) hL
  obtain ⟨r, S1, S2, h1, h2, hI2⟩ := (hst S hI).2.2.2.2.2.2.2.2.2.1 (xs (Int32.toNatClampNeg (x3 + 1))) (xs (Int32.toNatClampNeg (x3 + 2))) (xs (Int32.toNatClampNeg (x3 + 3)))
  refine lv_aload_n hx hb dL_law_449 rfl (lv_at hl 1 rfl) ?_
  refine lv_aload_n hx hb dL_law_450 rfl (lv_at hl 0 rfl) ?_
  refine lv_iload_n hx hb dL_law_451 rfl (lv_at hl 3 rfl) ?_
  refine lv_iconst (v := 1) hx hb dL_law_452 (by decide) ?_
  refine lv_iadd hx hb dL_law_453 ?_
  refine va_sld hx hb hX hbl hbA hS hin1 dL_law_454 ?_
  refine lv_aload_n hx hb dL_law_455 rfl (lv_at hl 0 rfl) ?_
  refine lv_iload_n hx hb dL_law_456 rfl (lv_at hl 3 rfl) ?_
  refine lv_iconst (v := 2) hx hb dL_law_457 (by decide) ?_
  refine lv_iadd hx hb dL_law_458 ?_
  refine va_sld hx hb hX hbl hbA hS hin2 dL_law_459 ?_
  refine lv_aload_n hx hb dL_law_460 rfl (lv_at hl 0 rfl) ?_
  refine lv_iload_n hx hb dL_law_461 rfl (lv_at hl 3 rfl) ?_
  refine lv_iconst (v := 3) hx hb dL_law_462 (by decide) ?_
  refine lv_iadd hx hb dL_law_463 ?_
  refine va_sld hx hb hX hbl hbA hS hin3 dL_law_464 ?_
  refine law_call0 (k := 92) (d := 0 + 8) (a := 0) (As := [.int (xs (Int32.toNatClampNeg (x3 + 1))), .int (xs (Int32.toNatClampNeg (x3 + 2))), .int (xs (Int32.toNatClampNeg (x3 + 3)))]) (rest := []) (S := S) (S1 := S1) (r := r) hx hb hml hown hts hK hN dL_law_465 (law_wl (by decide +kernel)) (by decide) rfl rfl rfl (by decide) rfl (rfX7_taker 0 N0 (xs (Int32.toNatClampNeg (x3 + 1))) (xs (Int32.toNatClampNeg (x3 + 2))) (xs (Int32.toNatClampNeg (x3 + 3))) S (r, S1) h1) rfl (Nat.le_of_ble_eq_true rfl) hl.1 hr hS (fun H locs hr hS => ?_)
  refine lv_aload_n hx hb dL_law_468 rfl (lv_at hl 2 rfl) ?_
  refine lv_aload_n hx hb dL_law_469 rfl (lv_at hl 0 rfl) ?_
  refine lv_iload_n hx hb dL_law_470 rfl (lv_at hl 3 rfl) ?_
  refine lv_iconst (v := 1) hx hb dL_law_471 (by decide) ?_
  refine lv_iadd hx hb dL_law_472 ?_
  refine va_sld hx hb hX hbl hbA hS hin1 dL_law_473 ?_
  refine lv_aload_n hx hb dL_law_474 rfl (lv_at hl 0 rfl) ?_
  refine lv_iload_n hx hb dL_law_475 rfl (lv_at hl 3 rfl) ?_
  refine lv_iconst (v := 2) hx hb dL_law_476 (by decide) ?_
  refine lv_iadd hx hb dL_law_477 ?_
  refine va_sld hx hb hX hbl hbA hS hin2 dL_law_478 ?_
  refine lv_aload_n hx hb dL_law_479 rfl (lv_at hl 0 rfl) ?_
  refine lv_iload_n hx hb dL_law_480 rfl (lv_at hl 3 rfl) ?_
  refine lv_iconst (v := 3) hx hb dL_law_481 (by decide) ?_
  refine lv_iadd hx hb dL_law_482 ?_
  refine va_sld hx hb hX hbl hbA hS hin3 dL_law_483 ?_
  refine law_call0 (k := 161) (d := 0 + 12) (a := 128) (As := [.int (xs (Int32.toNatClampNeg (x3 + 1))), .int (xs (Int32.toNatClampNeg (x3 + 2))), .int (xs (Int32.toNatClampNeg (x3 + 3)))]) (rest := [.int r]) (S := S1) (S1 := S2) (r := r) hx hb hml hown hts hK hN dL_law_484 (law_wl (by decide +kernel)) (by decide) rfl rfl rfl (by decide) rfl (rfX8_taker 0 N0 (xs (Int32.toNatClampNeg (x3 + 1))) (xs (Int32.toNatClampNeg (x3 + 2))) (xs (Int32.toNatClampNeg (x3 + 3))) S1 (r, S2) h2) rfl (Nat.le_of_ble_eq_true rfl) hl.1 hr hS (fun H locs hr hS => ?_)
  refine lv_icmp_eq (tgt := 650) hx hb dL_law_487 (by decide) (fun _ => ?_) (fun q => absurd rfl q)
  exact kk S2 H locs hI2 hr hS
set_option maxRecDepth 100000 in
set_option maxHeartbeats 4000000 in
theorem law_case10 (Inv : St → Prop) (hst : LStep Inv) {p : Program} {l : Launch} {e : Env} {s : State} {m : MethodId} {below : List Frame} {meth : Method} {c : Code} {D : va_G} {cA : Nat → ClassId} {sb L : Nat} {xs : Nat → Int32} (hL : L ≤ 3072) (C0 : lw_At p s m meth c sb L xs) (hK : va_K D vwCl (am_tys cA) s) (hN : am_NW s) {i : Nat} {x3 : Int32} (ex : x3 = nI i) (hi6 : i + 6 ≤ L) {S : St} (hI : Inv S) {H : Heap} {locs : List Loc} {ls : Array Slot} (hr : am_rel D cA s.heap.size (am_T0 S) H) (hS : va_S (fun q => s.heap.size ≤ q) s.heap H locs) (hl : lv_has ls 4 [(0, .ref sb), (1, .ref (s.heap.size + 0)), (2, .ref (s.heap.size + 128)), (3, .int x3)])
    (kk : ∀ (S2 : St) (H : Heap) (locs : List Loc), Inv S2 → am_rel D cA s.heap.size (am_T0 S2) H → va_S (fun q => s.heap.size ≤ q) s.heap H locs → W p l e room_1 s m #[Value.ref sb] below meth c H locs 148 (am_sl 148) (lw_Z below #[Value.ref sb] s) (F0 m 650 ls [])) : W p l e room_1 s m #[Value.ref sb] below meth c H locs 148 (am_sl 148) (lw_Z below #[Value.ref sb] s) (F0 m 492 ls []) := by
  obtain ⟨hx, hb, hrr, hml, hown, hts, hX, hbl, hlocks, hgv⟩ := C0
  have hbA : ¬ (fun q : Nat => s.heap.size ≤ q) sb := Nat.not_le.mpr hbl
  have hin1 : vp_in (x3 + 1) L := law_ix ex (k := 1) rfl (by omega) hL
  obtain ⟨r, S1, S2, h1, h2, hI2⟩ := (hst S hI).2.2.2.2.2.2.2.2.2.2.1 (xs (Int32.toNatClampNeg (x3 + 1)))
  refine lv_aload_n hx hb dL_law_492 rfl (lv_at hl 1 rfl) ?_
  refine lv_aload_n hx hb dL_law_493 rfl (lv_at hl 0 rfl) ?_
  refine lv_iload_n hx hb dL_law_494 rfl (lv_at hl 3 rfl) ?_
  refine lv_iconst (v := 1) hx hb dL_law_495 (by decide) ?_
  refine lv_iadd hx hb dL_law_496 ?_
  refine va_sld hx hb hX hbl hbA hS hin1 dL_law_497 ?_
  refine law_call0 (k := 93) (d := 0 + 8) (a := 0) (As := [.int (xs (Int32.toNatClampNeg (x3 + 1)))]) (rest := []) (S := S) (S1 := S1) (r := r) hx hb hml hown hts hK hN dL_law_498 (law_wl (by decide +kernel)) (by decide) rfl rfl rfl (by decide) rfl (rfX7_lost 0 N0 (xs (Int32.toNatClampNeg (x3 + 1))) S (r, S1) h1) rfl (Nat.le_of_ble_eq_true rfl) hl.1 hr hS (fun H locs hr hS => ?_)
  refine lv_aload_n hx hb dL_law_501 rfl (lv_at hl 2 rfl) ?_
  refine lv_aload_n hx hb dL_law_502 rfl (lv_at hl 0 rfl) ?_
  refine lv_iload_n hx hb dL_law_503 rfl (lv_at hl 3 rfl) ?_
  refine lv_iconst (v := 1) hx hb dL_law_504 (by decide) ?_
  refine lv_iadd hx hb dL_law_505 ?_
  refine va_sld hx hb hX hbl hbA hS hin1 dL_law_506 ?_
  refine law_call0 (k := 162) (d := 0 + 11) (a := 128) (As := [.int (xs (Int32.toNatClampNeg (x3 + 1)))]) (rest := [.int r]) (S := S1) (S1 := S2) (r := r) hx hb hml hown hts hK hN dL_law_507 (law_wl (by decide +kernel)) (by decide) rfl rfl rfl (by decide) rfl (rfX8_lost 0 N0 (xs (Int32.toNatClampNeg (x3 + 1))) S1 (r, S2) h2) rfl (Nat.le_of_ble_eq_true rfl) hl.1 hr hS (fun H locs hr hS => ?_)
  refine lv_icmp_eq (tgt := 650) hx hb dL_law_510 (by decide) (fun _ => ?_) (fun q => absurd rfl q)
  exact kk S2 H locs hI2 hr hS
set_option maxRecDepth 100000 in
set_option maxHeartbeats 4000000 in
theorem law_case11 (Inv : St → Prop) (hst : LStep Inv) {p : Program} {l : Launch} {e : Env} {s : State} {m : MethodId} {below : List Frame} {meth : Method} {c : Code} {D : va_G} {cA : Nat → ClassId} {sb L : Nat} {xs : Nat → Int32} (hL : L ≤ 3072) (C0 : lw_At p s m meth c sb L xs) (hK : va_K D vwCl (am_tys cA) s) (hN : am_NW s) {i : Nat} {x3 : Int32} (ex : x3 = nI i) (hi6 : i + 6 ≤ L) {S : St} (hI : Inv S) {H : Heap} {locs : List Loc} {ls : Array Slot} (hr : am_rel D cA s.heap.size (am_T0 S) H) (hS : va_S (fun q => s.heap.size ≤ q) s.heap H locs) (hl : lv_has ls 4 [(0, .ref sb), (1, .ref (s.heap.size + 0)), (2, .ref (s.heap.size + 128)), (3, .int x3)])
    (kk : ∀ (S2 : St) (H : Heap) (locs : List Loc), Inv S2 → am_rel D cA s.heap.size (am_T0 S2) H → va_S (fun q => s.heap.size ≤ q) s.heap H locs → W p l e room_1 s m #[Value.ref sb] below meth c H locs 148 (am_sl 148) (lw_Z below #[Value.ref sb] s) (F0 m 650 ls [])) : W p l e room_1 s m #[Value.ref sb] below meth c H locs 148 (am_sl 148) (lw_Z below #[Value.ref sb] s) (F0 m 515 ls []) := by
  obtain ⟨hx, hb, hrr, hml, hown, hts, hX, hbl, hlocks, hgv⟩ := C0
  have hbA : ¬ (fun q : Nat => s.heap.size ≤ q) sb := Nat.not_le.mpr hbl
  have hin1 : vp_in (x3 + 1) L := law_ix ex (k := 1) rfl (by omega) hL
  obtain ⟨r, S1, S2, h1, h2, hI2⟩ := (hst S hI).2.2.2.2.2.2.2.2.2.2.2.1 (xs (Int32.toNatClampNeg (x3 + 1)))
  refine lv_aload_n hx hb dL_law_515 rfl (lv_at hl 1 rfl) ?_
  refine lv_aload_n hx hb dL_law_516 rfl (lv_at hl 0 rfl) ?_
  refine lv_iload_n hx hb dL_law_517 rfl (lv_at hl 3 rfl) ?_
  refine lv_iconst (v := 1) hx hb dL_law_518 (by decide) ?_
  refine lv_iadd hx hb dL_law_519 ?_
  refine va_sld hx hb hX hbl hbA hS hin1 dL_law_520 ?_
  refine law_call0 (k := 94) (d := 0 + 8) (a := 0) (As := [.int (xs (Int32.toNatClampNeg (x3 + 1)))]) (rest := []) (S := S) (S1 := S1) (r := r) hx hb hml hown hts hK hN dL_law_521 (law_wl (by decide +kernel)) (by decide) rfl rfl rfl (by decide) rfl (rfX7_broken 0 N0 (xs (Int32.toNatClampNeg (x3 + 1))) S (r, S1) h1) rfl (Nat.le_of_ble_eq_true rfl) hl.1 hr hS (fun H locs hr hS => ?_)
  refine lv_aload_n hx hb dL_law_524 rfl (lv_at hl 2 rfl) ?_
  refine lv_aload_n hx hb dL_law_525 rfl (lv_at hl 0 rfl) ?_
  refine lv_iload_n hx hb dL_law_526 rfl (lv_at hl 3 rfl) ?_
  refine lv_iconst (v := 1) hx hb dL_law_527 (by decide) ?_
  refine lv_iadd hx hb dL_law_528 ?_
  refine va_sld hx hb hX hbl hbA hS hin1 dL_law_529 ?_
  refine law_call0 (k := 164) (d := 0 + 13) (a := 128) (As := [.int (xs (Int32.toNatClampNeg (x3 + 1)))]) (rest := [.int r]) (S := S1) (S1 := S2) (r := r) hx hb hml hown hts hK hN dL_law_530 (law_wl (by decide +kernel)) (by decide) rfl rfl rfl (by decide) rfl (rfX8_broken 0 N0 (xs (Int32.toNatClampNeg (x3 + 1))) S1 (r, S2) h2) rfl (Nat.le_of_ble_eq_true rfl) hl.1 hr hS (fun H locs hr hS => ?_)
  refine lv_icmp_eq (tgt := 650) hx hb dL_law_533 (by decide) (fun _ => ?_) (fun q => absurd rfl q)
  exact kk S2 H locs hI2 hr hS
set_option maxRecDepth 100000 in
set_option maxHeartbeats 4000000 in
theorem law_case12 (Inv : St → Prop) (hst : LStep Inv) {p : Program} {l : Launch} {e : Env} {s : State} {m : MethodId} {below : List Frame} {meth : Method} {c : Code} {D : va_G} {cA : Nat → ClassId} {sb L : Nat} {xs : Nat → Int32} (hL : L ≤ 3072) (C0 : lw_At p s m meth c sb L xs) (hK : va_K D vwCl (am_tys cA) s) (hN : am_NW s) {i : Nat} {x3 : Int32} (ex : x3 = nI i) (hi6 : i + 6 ≤ L) {S : St} (hI : Inv S) {H : Heap} {locs : List Loc} {ls : Array Slot} (hr : am_rel D cA s.heap.size (am_T0 S) H) (hS : va_S (fun q => s.heap.size ≤ q) s.heap H locs) (hl : lv_has ls 4 [(0, .ref sb), (1, .ref (s.heap.size + 0)), (2, .ref (s.heap.size + 128)), (3, .int x3)])
    (kk : ∀ (S2 : St) (H : Heap) (locs : List Loc), Inv S2 → am_rel D cA s.heap.size (am_T0 S2) H → va_S (fun q => s.heap.size ≤ q) s.heap H locs → W p l e room_1 s m #[Value.ref sb] below meth c H locs 148 (am_sl 148) (lw_Z below #[Value.ref sb] s) (F0 m 650 ls [])) : W p l e room_1 s m #[Value.ref sb] below meth c H locs 148 (am_sl 148) (lw_Z below #[Value.ref sb] s) (F0 m 538 ls []) := by
  obtain ⟨hx, hb, hrr, hml, hown, hts, hX, hbl, hlocks, hgv⟩ := C0
  have hbA : ¬ (fun q : Nat => s.heap.size ≤ q) sb := Nat.not_le.mpr hbl
  have hin1 : vp_in (x3 + 1) L := law_ix ex (k := 1) rfl (by omega) hL
  obtain ⟨r, S1, S2, h1, h2, hI2⟩ := (hst S hI).2.2.2.2.2.2.2.2.2.2.2.2.1 (xs (Int32.toNatClampNeg (x3 + 1)))
  refine lv_aload_n hx hb dL_law_538 rfl (lv_at hl 1 rfl) ?_
  refine lv_aload_n hx hb dL_law_539 rfl (lv_at hl 0 rfl) ?_
  refine lv_iload_n hx hb dL_law_540 rfl (lv_at hl 3 rfl) ?_
  refine lv_iconst (v := 1) hx hb dL_law_541 (by decide) ?_
  refine lv_iadd hx hb dL_law_542 ?_
  refine va_sld hx hb hX hbl hbA hS hin1 dL_law_543 ?_
  refine law_call0 (k := 95) (d := 0 + 8) (a := 0) (As := [.int (xs (Int32.toNatClampNeg (x3 + 1)))]) (rest := []) (S := S) (S1 := S1) (r := r) hx hb hml hown hts hK hN dL_law_544 (law_wl (by decide +kernel)) (by decide) rfl rfl rfl (by decide) rfl (rfX7_idle 0 N0 (xs (Int32.toNatClampNeg (x3 + 1))) S (r, S1) h1) rfl (Nat.le_of_ble_eq_true rfl) hl.1 hr hS (fun H locs hr hS => ?_)
  refine lv_aload_n hx hb dL_law_547 rfl (lv_at hl 2 rfl) ?_
  refine lv_aload_n hx hb dL_law_548 rfl (lv_at hl 0 rfl) ?_
  refine lv_iload_n hx hb dL_law_549 rfl (lv_at hl 3 rfl) ?_
  refine lv_iconst (v := 1) hx hb dL_law_550 (by decide) ?_
  refine lv_iadd hx hb dL_law_551 ?_
  refine va_sld hx hb hX hbl hbA hS hin1 dL_law_552 ?_
  refine law_call0 (k := 165) (d := 0 + 13) (a := 128) (As := [.int (xs (Int32.toNatClampNeg (x3 + 1)))]) (rest := [.int r]) (S := S1) (S1 := S2) (r := r) hx hb hml hown hts hK hN dL_law_553 (law_wl (by decide +kernel)) (by decide) rfl rfl rfl (by decide) rfl (rfX8_idle 0 N0 (xs (Int32.toNatClampNeg (x3 + 1))) S1 (r, S2) h2) rfl (Nat.le_of_ble_eq_true rfl) hl.1 hr hS (fun H locs hr hS => ?_)
  refine lv_icmp_eq (tgt := 650) hx hb dL_law_556 (by decide) (fun _ => ?_) (fun q => absurd rfl q)
  exact kk S2 H locs hI2 hr hS
set_option maxRecDepth 100000 in
set_option maxHeartbeats 4000000 in
theorem law_case13 (Inv : St → Prop) (hst : LStep Inv) {p : Program} {l : Launch} {e : Env} {s : State} {m : MethodId} {below : List Frame} {meth : Method} {c : Code} {D : va_G} {cA : Nat → ClassId} {sb L : Nat} {xs : Nat → Int32} (hL : L ≤ 3072) (C0 : lw_At p s m meth c sb L xs) (hK : va_K D vwCl (am_tys cA) s) (hN : am_NW s) {i : Nat} {x3 : Int32} (ex : x3 = nI i) (hi6 : i + 6 ≤ L) {S : St} (hI : Inv S) {H : Heap} {locs : List Loc} {ls : Array Slot} (hr : am_rel D cA s.heap.size (am_T0 S) H) (hS : va_S (fun q => s.heap.size ≤ q) s.heap H locs) (hl : lv_has ls 4 [(0, .ref sb), (1, .ref (s.heap.size + 0)), (2, .ref (s.heap.size + 128)), (3, .int x3)])
    (kk : ∀ (S2 : St) (H : Heap) (locs : List Loc), Inv S2 → am_rel D cA s.heap.size (am_T0 S2) H → va_S (fun q => s.heap.size ≤ q) s.heap H locs → W p l e room_1 s m #[Value.ref sb] below meth c H locs 148 (am_sl 148) (lw_Z below #[Value.ref sb] s) (F0 m 650 ls [])) : W p l e room_1 s m #[Value.ref sb] below meth c H locs 148 (am_sl 148) (lw_Z below #[Value.ref sb] s) (F0 m 561 ls []) := by
  obtain ⟨hx, hb, hrr, hml, hown, hts, hX, hbl, hlocks, hgv⟩ := C0
  have hbA : ¬ (fun q : Nat => s.heap.size ≤ q) sb := Nat.not_le.mpr hbl
  have hin1 : vp_in (x3 + 1) L := law_ix ex (k := 1) rfl (by omega) hL
  have hin2 : vp_in (x3 + 2) L := law_ix ex (k := 2) rfl (by omega) hL
  obtain ⟨r, S1, S2, h1, h2, hI2⟩ := (hst S hI).2.2.2.2.2.2.2.2.2.2.2.2.2.1 (xs (Int32.toNatClampNeg (x3 + 1))) (xs (Int32.toNatClampNeg (x3 + 2)))
  refine lv_aload_n hx hb dL_law_561 rfl (lv_at hl 1 rfl) ?_
  refine lv_aload_n hx hb dL_law_562 rfl (lv_at hl 0 rfl) ?_
  refine lv_iload_n hx hb dL_law_563 rfl (lv_at hl 3 rfl) ?_
  refine lv_iconst (v := 1) hx hb dL_law_564 (by decide) ?_
  refine lv_iadd hx hb dL_law_565 ?_
  refine va_sld hx hb hX hbl hbA hS hin1 dL_law_566 ?_
  refine lv_aload_n hx hb dL_law_567 rfl (lv_at hl 0 rfl) ?_
  refine lv_iload_n hx hb dL_law_568 rfl (lv_at hl 3 rfl) ?_
  refine lv_iconst (v := 2) hx hb dL_law_569 (by decide) ?_
  refine lv_iadd hx hb dL_law_570 ?_
  refine va_sld hx hb hX hbl hbA hS hin2 dL_law_571 ?_
  refine law_call0 (k := 96) (d := 0 + 3) (a := 0) (As := [.int (xs (Int32.toNatClampNeg (x3 + 1))), .int (xs (Int32.toNatClampNeg (x3 + 2)))]) (rest := []) (S := S) (S1 := S1) (r := r) hx hb hml hown hts hK hN dL_law_572 (law_wl (by decide +kernel)) (by decide) rfl rfl rfl (by decide) rfl (rfX7_look 0 N0 (xs (Int32.toNatClampNeg (x3 + 1))) (xs (Int32.toNatClampNeg (x3 + 2))) S (r, S1) h1) rfl (Nat.le_of_ble_eq_true rfl) hl.1 hr hS (fun H locs hr hS => ?_)
  refine lv_aload_n hx hb dL_law_575 rfl (lv_at hl 2 rfl) ?_
  refine lv_aload_n hx hb dL_law_576 rfl (lv_at hl 0 rfl) ?_
  refine lv_iload_n hx hb dL_law_577 rfl (lv_at hl 3 rfl) ?_
  refine lv_iconst (v := 1) hx hb dL_law_578 (by decide) ?_
  refine lv_iadd hx hb dL_law_579 ?_
  refine va_sld hx hb hX hbl hbA hS hin1 dL_law_580 ?_
  refine lv_aload_n hx hb dL_law_581 rfl (lv_at hl 0 rfl) ?_
  refine lv_iload_n hx hb dL_law_582 rfl (lv_at hl 3 rfl) ?_
  refine lv_iconst (v := 2) hx hb dL_law_583 (by decide) ?_
  refine lv_iadd hx hb dL_law_584 ?_
  refine va_sld hx hb hX hbl hbA hS hin2 dL_law_585 ?_
  refine law_call0 (k := 167) (d := 0 + 3) (a := 128) (As := [.int (xs (Int32.toNatClampNeg (x3 + 1))), .int (xs (Int32.toNatClampNeg (x3 + 2)))]) (rest := [.int r]) (S := S1) (S1 := S2) (r := r) hx hb hml hown hts hK hN dL_law_586 (law_wl (by decide +kernel)) (by decide) rfl rfl rfl (by decide) rfl (rfX8_look 0 N0 (xs (Int32.toNatClampNeg (x3 + 1))) (xs (Int32.toNatClampNeg (x3 + 2))) S1 (r, S2) h2) rfl (Nat.le_of_ble_eq_true rfl) hl.1 hr hS (fun H locs hr hS => ?_)
  refine lv_icmp_eq (tgt := 650) hx hb dL_law_589 (by decide) (fun _ => ?_) (fun q => absurd rfl q)
  exact kk S2 H locs hI2 hr hS
set_option maxRecDepth 100000 in
set_option maxHeartbeats 4000000 in
theorem law_case14 (Inv : St → Prop) (hst : LStep Inv) {p : Program} {l : Launch} {e : Env} {s : State} {m : MethodId} {below : List Frame} {meth : Method} {c : Code} {D : va_G} {cA : Nat → ClassId} {sb L : Nat} {xs : Nat → Int32} (hL : L ≤ 3072) (C0 : lw_At p s m meth c sb L xs) (hK : va_K D vwCl (am_tys cA) s) (hN : am_NW s) {i : Nat} {x3 : Int32} (ex : x3 = nI i) (hi6 : i + 6 ≤ L) {S : St} (hI : Inv S) {H : Heap} {locs : List Loc} {ls : Array Slot} (hr : am_rel D cA s.heap.size (am_T0 S) H) (hS : va_S (fun q => s.heap.size ≤ q) s.heap H locs) (hl : lv_has ls 4 [(0, .ref sb), (1, .ref (s.heap.size + 0)), (2, .ref (s.heap.size + 128)), (3, .int x3)])
    (kk : ∀ (S2 : St) (H : Heap) (locs : List Loc), Inv S2 → am_rel D cA s.heap.size (am_T0 S2) H → va_S (fun q => s.heap.size ≤ q) s.heap H locs → W p l e room_1 s m #[Value.ref sb] below meth c H locs 148 (am_sl 148) (lw_Z below #[Value.ref sb] s) (F0 m 650 ls [])) : W p l e room_1 s m #[Value.ref sb] below meth c H locs 148 (am_sl 148) (lw_Z below #[Value.ref sb] s) (F0 m 594 ls []) := by
  obtain ⟨hx, hb, hrr, hml, hown, hts, hX, hbl, hlocks, hgv⟩ := C0
  have hbA : ¬ (fun q : Nat => s.heap.size ≤ q) sb := Nat.not_le.mpr hbl
  have hin1 : vp_in (x3 + 1) L := law_ix ex (k := 1) rfl (by omega) hL
  have hin2 : vp_in (x3 + 2) L := law_ix ex (k := 2) rfl (by omega) hL
  obtain ⟨r, S1, S2, h1, h2, hI2⟩ := (hst S hI).2.2.2.2.2.2.2.2.2.2.2.2.2.2.1 (xs (Int32.toNatClampNeg (x3 + 1))) (xs (Int32.toNatClampNeg (x3 + 2)))
  refine lv_aload_n hx hb dL_law_594 rfl (lv_at hl 1 rfl) ?_
  refine lv_aload_n hx hb dL_law_595 rfl (lv_at hl 0 rfl) ?_
  refine lv_iload_n hx hb dL_law_596 rfl (lv_at hl 3 rfl) ?_
  refine lv_iconst (v := 1) hx hb dL_law_597 (by decide) ?_
  refine lv_iadd hx hb dL_law_598 ?_
  refine va_sld hx hb hX hbl hbA hS hin1 dL_law_599 ?_
  refine lv_aload_n hx hb dL_law_600 rfl (lv_at hl 0 rfl) ?_
  refine lv_iload_n hx hb dL_law_601 rfl (lv_at hl 3 rfl) ?_
  refine lv_iconst (v := 2) hx hb dL_law_602 (by decide) ?_
  refine lv_iadd hx hb dL_law_603 ?_
  refine va_sld hx hb hX hbl hbA hS hin2 dL_law_604 ?_
  refine law_call0 (k := 97) (d := 0 + 3) (a := 0) (As := [.int (xs (Int32.toNatClampNeg (x3 + 1))), .int (xs (Int32.toNatClampNeg (x3 + 2)))]) (rest := []) (S := S) (S1 := S1) (r := r) hx hb hml hown hts hK hN dL_law_605 (law_wl (by decide +kernel)) (by decide) rfl rfl rfl (by decide) rfl (rfX7_is 0 N0 (xs (Int32.toNatClampNeg (x3 + 1))) (xs (Int32.toNatClampNeg (x3 + 2))) S (r, S1) h1) rfl (Nat.le_of_ble_eq_true rfl) hl.1 hr hS (fun H locs hr hS => ?_)
  refine lv_aload_n hx hb dL_law_608 rfl (lv_at hl 2 rfl) ?_
  refine lv_aload_n hx hb dL_law_609 rfl (lv_at hl 0 rfl) ?_
  refine lv_iload_n hx hb dL_law_610 rfl (lv_at hl 3 rfl) ?_
  refine lv_iconst (v := 1) hx hb dL_law_611 (by decide) ?_
  refine lv_iadd hx hb dL_law_612 ?_
  refine va_sld hx hb hX hbl hbA hS hin1 dL_law_613 ?_
  refine lv_aload_n hx hb dL_law_614 rfl (lv_at hl 0 rfl) ?_
  refine lv_iload_n hx hb dL_law_615 rfl (lv_at hl 3 rfl) ?_
  refine lv_iconst (v := 2) hx hb dL_law_616 (by decide) ?_
  refine lv_iadd hx hb dL_law_617 ?_
  refine va_sld hx hb hX hbl hbA hS hin2 dL_law_618 ?_
  refine law_call0 (k := 116) (d := 0 + 2) (a := 128) (As := [.int (xs (Int32.toNatClampNeg (x3 + 1))), .int (xs (Int32.toNatClampNeg (x3 + 2)))]) (rest := [.int r]) (S := S1) (S1 := S2) (r := r) hx hb hml hown hts hK hN dL_law_619 (law_wl (by decide +kernel)) (by decide) rfl rfl rfl (by decide) rfl (rfX8_is 0 N0 (xs (Int32.toNatClampNeg (x3 + 1))) (xs (Int32.toNatClampNeg (x3 + 2))) S1 (r, S2) h2) rfl (Nat.le_of_ble_eq_true rfl) hl.1 hr hS (fun H locs hr hS => ?_)
  refine lv_icmp_eq (tgt := 650) hx hb dL_law_622 (by decide) (fun _ => ?_) (fun q => absurd rfl q)
  exact kk S2 H locs hI2 hr hS
set_option maxRecDepth 100000 in
set_option maxHeartbeats 4000000 in
theorem law_case15 (Inv : St → Prop) (hst : LStep Inv) {p : Program} {l : Launch} {e : Env} {s : State} {m : MethodId} {below : List Frame} {meth : Method} {c : Code} {D : va_G} {cA : Nat → ClassId} {sb L : Nat} {xs : Nat → Int32} (hL : L ≤ 3072) (C0 : lw_At p s m meth c sb L xs) (hK : va_K D vwCl (am_tys cA) s) (hN : am_NW s) {i : Nat} {x3 : Int32} (ex : x3 = nI i) (hi6 : i + 6 ≤ L) {S : St} (hI : Inv S) {H : Heap} {locs : List Loc} {ls : Array Slot} (hr : am_rel D cA s.heap.size (am_T0 S) H) (hS : va_S (fun q => s.heap.size ≤ q) s.heap H locs) (hl : lv_has ls 4 [(0, .ref sb), (1, .ref (s.heap.size + 0)), (2, .ref (s.heap.size + 128)), (3, .int x3)])
    (kk : ∀ (S2 : St) (H : Heap) (locs : List Loc), Inv S2 → am_rel D cA s.heap.size (am_T0 S2) H → va_S (fun q => s.heap.size ≤ q) s.heap H locs → W p l e room_1 s m #[Value.ref sb] below meth c H locs 148 (am_sl 148) (lw_Z below #[Value.ref sb] s) (F0 m 650 ls [])) : W p l e room_1 s m #[Value.ref sb] below meth c H locs 148 (am_sl 148) (lw_Z below #[Value.ref sb] s) (F0 m 627 ls []) := by
  obtain ⟨hx, hb, hrr, hml, hown, hts, hX, hbl, hlocks, hgv⟩ := C0
  have hbA : ¬ (fun q : Nat => s.heap.size ≤ q) sb := Nat.not_le.mpr hbl
  have hin1 : vp_in (x3 + 1) L := law_ix ex (k := 1) rfl (by omega) hL
  obtain ⟨r, S1, S2, h1, h2, hI2⟩ := (hst S hI).2.2.2.2.2.2.2.2.2.2.2.2.2.2.2 (xs (Int32.toNatClampNeg (x3 + 1)))
  refine lv_aload_n hx hb dL_law_627 rfl (lv_at hl 1 rfl) ?_
  refine lv_aload_n hx hb dL_law_628 rfl (lv_at hl 0 rfl) ?_
  refine lv_iload_n hx hb dL_law_629 rfl (lv_at hl 3 rfl) ?_
  refine lv_iconst (v := 1) hx hb dL_law_630 (by decide) ?_
  refine lv_iadd hx hb dL_law_631 ?_
  refine va_sld hx hb hX hbl hbA hS hin1 dL_law_632 ?_
  refine law_call0 (k := 98) (d := 0 + 2) (a := 0) (As := [.int (xs (Int32.toNatClampNeg (x3 + 1)))]) (rest := []) (S := S) (S1 := S1) (r := r) hx hb hml hown hts hK hN dL_law_633 (law_wl (by decide +kernel)) (by decide) rfl rfl rfl (by decide) rfl (rfX7_fault 0 N0 (xs (Int32.toNatClampNeg (x3 + 1))) S (r, S1) h1) rfl (Nat.le_of_ble_eq_true rfl) hl.1 hr hS (fun H locs hr hS => ?_)
  refine lv_aload_n hx hb dL_law_636 rfl (lv_at hl 2 rfl) ?_
  refine lv_aload_n hx hb dL_law_637 rfl (lv_at hl 0 rfl) ?_
  refine lv_iload_n hx hb dL_law_638 rfl (lv_at hl 3 rfl) ?_
  refine lv_iconst (v := 1) hx hb dL_law_639 (by decide) ?_
  refine lv_iadd hx hb dL_law_640 ?_
  refine va_sld hx hb hX hbl hbA hS hin1 dL_law_641 ?_
  refine law_call0 (k := 168) (d := 0 + 1) (a := 128) (As := [.int (xs (Int32.toNatClampNeg (x3 + 1)))]) (rest := [.int r]) (S := S1) (S1 := S2) (r := r) hx hb hml hown hts hK hN dL_law_642 (law_wl (by decide +kernel)) (by decide) rfl rfl rfl (by decide) rfl (rfX8_fault 0 N0 (xs (Int32.toNatClampNeg (x3 + 1))) S1 (r, S2) h2) rfl (Nat.le_of_ble_eq_true rfl) hl.1 hr hS (fun H locs hr hS => ?_)
  refine lv_icmp_eq (tgt := 650) hx hb dL_law_645 (by decide) (fun _ => ?_) (fun q => absurd rfl q)
  exact kk S2 H locs hI2 hr hS
