set_option maxRecDepth 100000 in
set_option maxHeartbeats 4000000 in
theorem law_loop (Inv : St → Prop) (hst : LStep Inv) {p : Program} {l : Launch} {e : Env} {s : State} {m : MethodId} {below : List Frame} {meth : Method} {c : Code} {D : va_G} {cA : Nat → ClassId} {sb L : Nat} {xs : Nat → Int32} (hL : L ≤ 3072) (C0 : lw_At p s m meth c sb L xs) (hK : va_K D vwCl (am_tys cA) s) (hN : am_NW s) : ∀ (n i : Nat) (x3 : Int32), i ≤ L + 6 → L + 7 ≤ i + n → x3 = nI i → ∀ (S : St), Inv S → ∀ (H : Heap) (locs : List Loc) (ls : Array Slot), am_rel D cA s.heap.size (am_T0 S) H → va_S (fun q => s.heap.size ≤ q) s.heap H locs → lv_has ls 4 [(0, .ref sb), (1, .ref (s.heap.size + 0)), (2, .ref (s.heap.size + 128)), (3, .int x3)] → W p l e room_1 s m #[Value.ref sb] below meth c H locs 148 (am_sl 148) (lw_Z below #[Value.ref sb] s) (F0 m 18 ls []) := by
  intro n
  induction n with
  | zero =>
    intro i x3 h1 h2
    exact absurd h2 (by omega)
  | succ n ih =>
    intro i x3 hi hin ex S hI H locs ls hr hS hl
    obtain ⟨hx, hb, hrr, hml, hown, hts, hX, hbl, hlocks, hgv⟩ := id C0
    have hbA : ¬ (fun q : Nat => s.heap.size ≤ q) sb := Nat.not_le.mpr hbl
    refine lv_iload_n hx hb dL_law_18 rfl (lv_at hl 3 rfl) ?_
    refine lv_aload_n hx hb dL_law_19 rfl (lv_at hl 0 rfl) ?_
    refine va_slen hx hb hX hbl hbA hS dL_law_20 ?_
    refine lv_bipush (v := 6) hx hb dL_law_21 (by decide) ?_
    refine lv_isub hx hb dL_law_23 ?_
    refine lv_icmp_gt (tgt := 656) hx hb dL_law_24 (by decide) (fun _ => ?_) (fun hc => ?_)
    · refine lv_iconst (v := 1) hx hb dL_law_656 (by decide) ?_
      refine va_forget (fun q hq => hS.2.2 q hq) ?_
      refine W.widen (k := 600000) (n := 7302250) (by decide) (by rw [law_sl]; decide) ?_
      exact lw_ret hx hb hrr hlocks dL_law_657
    · have hi6 : i + 6 ≤ L := law_go hL hi (by rw [← ex]; exact hc)
      have kk : ∀ (S2 : St) (H : Heap) (locs : List Loc), Inv S2 → am_rel D cA s.heap.size (am_T0 S2) H → va_S (fun q => s.heap.size ≤ q) s.heap H locs → W p l e room_1 s m #[Value.ref sb] below meth c H locs 148 (am_sl 148) (lw_Z below #[Value.ref sb] s) (F0 m 650 ls []) := by
        intro S2 H locs hI hr hS
        refine lv_iinc (v := x3 + 6) (lv' := [(3, .int (x3 + 6)), (0, .ref sb), (1, .ref (s.heap.size + 0)), (2, .ref (s.heap.size + 128))]) hx hb dL_law_650 hl (k := 3) rfl rfl (by decide) rfl (fun ls hl => ?_)
        refine lv_goto (tgt := 18) hx hb dL_law_653 (by decide) ?_
        exact ih (i + 6) (x3 + 6) (by omega) (by omega) (by rw [ex]; exact nI_add i 6) S2 hI H locs ls hr hS (lv_sub hl [1, 2, 3, 0] rfl)
      refine lv_aload_n hx hb dL_law_27 rfl (lv_at hl 0 rfl) ?_
      refine lv_iload_n hx hb dL_law_28 rfl (lv_at hl 3 rfl) ?_
      refine va_sld hx hb hX hbl hbA hS (by rw [ex]; exact vp_in_nI (by omega) (by omega)) dL_law_29 ?_
      refine lv_bipush (v := 15) hx hb dL_law_30 (by decide) ?_
      refine lv_iand hx hb dL_law_32 ?_
      obtain ⟨j, hj, ej⟩ := pk_andE (xs x3.toNatClampNeg) (m := 15) 4 (by decide)
      rw [ej]
      match j, hj with
      | 0, _ =>
        refine lv_tableIn (x := nI 0) (off := 79) (tgt := 112) hx hb dL_law_33 (by decide) (by decide) (by decide) (by decide) ?_
        exact law_case0 Inv hst hL C0 hK hN ex hi6 hI hr hS hl kk
      | 1, _ =>
        refine lv_tableIn (x := nI 1) (off := 142) (tgt := 175) hx hb dL_law_33 (by decide) (by decide) (by decide) (by decide) ?_
        exact law_case1 Inv hst hL C0 hK hN ex hi6 hI hr hS hl kk
      | 2, _ =>
        refine lv_tableIn (x := nI 2) (off := 175) (tgt := 208) hx hb dL_law_33 (by decide) (by decide) (by decide) (by decide) ?_
        exact law_case2 Inv hst hL C0 hK hN ex hi6 hI hr hS hl kk
      | 3, _ =>
        refine lv_tableIn (x := nI 3) (off := 208) (tgt := 241) hx hb dL_law_33 (by decide) (by decide) (by decide) (by decide) ?_
        exact law_case3 Inv hst hL C0 hK hN ex hi6 hI hr hS hl kk
      | 4, _ =>
        refine lv_tableIn (x := nI 4) (off := 241) (tgt := 274) hx hb dL_law_33 (by decide) (by decide) (by decide) (by decide) ?_
        exact law_case4 Inv hst hL C0 hK hN ex hi6 hI hr hS hl kk
      | 5, _ =>
        refine lv_tableIn (x := nI 5) (off := 294) (tgt := 327) hx hb dL_law_33 (by decide) (by decide) (by decide) (by decide) ?_
        exact law_case5 Inv hst hL C0 hK hN ex hi6 hI hr hS hl kk
      | 6, _ =>
        refine lv_tableIn (x := nI 6) (off := 327) (tgt := 360) hx hb dL_law_33 (by decide) (by decide) (by decide) (by decide) ?_
        exact law_case6 Inv hst hL C0 hK hN ex hi6 hI hr hS hl kk
      | 7, _ =>
        refine lv_tableIn (x := nI 7) (off := 360) (tgt := 393) hx hb dL_law_33 (by decide) (by decide) (by decide) (by decide) ?_
        exact law_case7 Inv hst hL C0 hK hN ex hi6 hI hr hS hl kk
      | 8, _ =>
        refine lv_tableIn (x := nI 8) (off := 393) (tgt := 426) hx hb dL_law_33 (by decide) (by decide) (by decide) (by decide) ?_
        exact law_case8 Inv hst hL C0 hK hN ex hi6 hI hr hS hl kk
      | 9, _ =>
        refine lv_tableIn (x := nI 9) (off := 416) (tgt := 449) hx hb dL_law_33 (by decide) (by decide) (by decide) (by decide) ?_
        exact law_case9 Inv hst hL C0 hK hN ex hi6 hI hr hS hl kk
      | 10, _ =>
        refine lv_tableIn (x := nI 10) (off := 459) (tgt := 492) hx hb dL_law_33 (by decide) (by decide) (by decide) (by decide) ?_
        exact law_case10 Inv hst hL C0 hK hN ex hi6 hI hr hS hl kk
      | 11, _ =>
        refine lv_tableIn (x := nI 11) (off := 482) (tgt := 515) hx hb dL_law_33 (by decide) (by decide) (by decide) (by decide) ?_
        exact law_case11 Inv hst hL C0 hK hN ex hi6 hI hr hS hl kk
      | 12, _ =>
        refine lv_tableIn (x := nI 12) (off := 505) (tgt := 538) hx hb dL_law_33 (by decide) (by decide) (by decide) (by decide) ?_
        exact law_case12 Inv hst hL C0 hK hN ex hi6 hI hr hS hl kk
      | 13, _ =>
        refine lv_tableIn (x := nI 13) (off := 528) (tgt := 561) hx hb dL_law_33 (by decide) (by decide) (by decide) (by decide) ?_
        exact law_case13 Inv hst hL C0 hK hN ex hi6 hI hr hS hl kk
      | 14, _ =>
        refine lv_tableIn (x := nI 14) (off := 561) (tgt := 594) hx hb dL_law_33 (by decide) (by decide) (by decide) (by decide) ?_
        exact law_case14 Inv hst hL C0 hK hN ex hi6 hI hr hS hl kk
      | 15, _ =>
        refine lv_tableIn (x := nI 15) (off := 594) (tgt := 627) hx hb dL_law_33 (by decide) (by decide) (by decide) (by decide) ?_
        exact law_case15 Inv hst hL C0 hK hN ex hi6 hI hr hS hl kk
      | j + 16, hj => exact absurd hj (by omega)
set_option maxRecDepth 100000 in
set_option maxHeartbeats 4000000 in
/-- THE LAW, from its entry, where a good state is kept by every pair of calls -/
theorem law_start (Inv : St → Prop) (h0 : Inv S0) (hst : LStep Inv) {p : Program} {e : Env} {s : State} {m : MethodId} {below : List Frame} {meth : Method} {c : Code} (l : Launch) {b L : Nat} {xs : Nat → Int32} (hL : L ≤ 3072) (C0 : lw_At p s m meth c b L xs) : W p l e room_1 s m #[Value.ref b] below meth c s.heap [] 0 0 (lw_Z below #[Value.ref b] s) (entryFrame m ([Value.ref b] : List Value).toArray 4) := by
  obtain ⟨hx, hb, hr, hml, hown, hts, hX, hbl, hlocks, hgv⟩ := id C0
  have hT : ∀ w ∈ am_T, w.before #[Value.ref b] s = true := fun w h => hts w (List.mem_filter.mp h).1
  obtain ⟨D, cA, hK, hN⟩ := law_K hts
  have hl := lv_entry ([.ref b]) (n := 4) (Nat.le_of_ble_eq_true rfl)
  rw [lg_entry_eq]
  generalize (lg_sl ([.ref b]) ++ List.replicate (4 - (lg_sl ([.ref b])).length) Slot.unset).toArray = ls at hl ⊢
  have hl : lv_has ls 4 [(0, .ref b)] := hl
  have hr0 : am_rel D cA s.heap.size cS0 s.heap := ⟨fun _ => rfl, fun k q h => by cases h⟩
  have hS0 : va_S (fun q => s.heap.size ≤ q) s.heap s.heap [] := va_S.rf
  have hKn := hK.1 7 _ (am_vw (by decide))
  refine W.newcK hx hb hown (hts (.classLink R_law 7 (am_cn 7)) (by decide +kernel)) (hT _ (am_wnew (x := 7) (by decide)).1) (hT _ (am_wnew (x := 7) (by decide)).2) rfl dL_law_0 (by decide) (by decide) hKn.2.1 rfl fun H1 kC hkC e1 z1 o1 => ?_
  obtain ⟨hr1, hS1⟩ := am_rel_new (S := cS0) (H1 := H1) (by decide) hr0 hS0 (by
    refine ⟨_, am_vw (x := 7) (by decide), (u_born (am_ty 7) hT (am_hin (x := 7) (by decide)) hKn hkC e1 (am_tyok (x := 7) (by decide))).to (fun i hi => ?_)⟩
    show _ = vp_V (am_fl s.heap.size 7 (fun _ => 0) (fun _ => none)) i
    unfold vp_V
    rw [List.getD_eq_getElem?_getD, am_fl_get hi, am_dft s.heap.size (by rw [(am_kt (x := 7) (by decide) hi).1]; exact (am_kt (x := 7) (by decide) hi).2), (am_kt (x := 7) (by decide) hi).1]
    rfl) z1 o1
  refine lv_dup hx hb dL_law_3 rfl ?_
  have hc2 := cS2_c
  refine law_init (k := 82) (d := 8) (a := 0) (rest := [.ref s.heap.size]) (S := cS1) (res := (none, cS2)) hx hb hml hown hts hK hN dL_law_4 (law_wl (by decide +kernel)) (by decide) rfl rfl (by decide) hc2.1 (by show _ + (cS2.2.2 - 1) ≤ _; rw [hc2.2]; decide) (by show _ + (am_sl cS2.2.2 - _) ≤ _; rw [hc2.2]; decide +kernel) rfl (Nat.le_of_ble_eq_true rfl) hl.1 hr1 hS1 (fun H2 locs2 hr2 hS2 => ?_)
  refine W.widen (k := 128) (n := am_sl 128) (by show _ + (cS2.2.2 - 1) ≤ _; rw [hc2.2]; decide) (by show _ + (am_sl cS2.2.2 - _) ≤ _; rw [hc2.2]; decide +kernel) ?_
  refine lv_astore_n (lv' := [(1, .ref s.heap.size), (0, .ref b)]) hx hb dL_law_7 rfl hl (by decide) rfl (fun ls hl => ?_)
  have hKn8 := hK.1 8 _ (am_vw (by decide))
  refine W.newcK hx hb hown (hts (.classLink R_law 10 (am_cn 8)) (by decide +kernel)) (hT _ (am_wnew (x := 8) (by decide)).1) (hT _ (am_wnew (x := 8) (by decide)).2) rfl dL_law_8 (by decide) (by decide +kernel) hKn8.2.1 (hr2.1 (by rw [hc2.2]; decide)) fun H3 kC hkC e1 z1 o1 => ?_
  obtain ⟨hr3, hS3⟩ := am_rel_new (S := cS2) (H1 := H3) (by rw [hc2.2]; decide) hr2 hS2 (by
    rw [hc2.2] at e1 ⊢
    refine ⟨_, am_vw (x := 8) (by decide), (u_born (am_ty 8) hT (am_hin (x := 8) (by decide)) hKn8 hkC e1 (am_tyok (x := 8) (by decide))).to (fun i hi => ?_)⟩
    show _ = vp_V (am_fl s.heap.size 8 (fun _ => 0) (fun _ => none)) i
    unfold vp_V
    rw [List.getD_eq_getElem?_getD, am_fl_get hi, am_dft s.heap.size (by rw [(am_kt (x := 8) (by decide) hi).1]; exact (am_kt (x := 8) (by decide) hi).2), (am_kt (x := 8) (by decide) hi).1]
    rfl) z1 o1
  have hn3 : s.heap.size + cS2.2.2 = s.heap.size + 128 := by rw [hc2.2]
  refine lv_dup hx hb dL_law_11 rfl ?_
  have hc4 := cS4_c
  have hc3 : cS3.2.2 = 129 := by show cS2.2.2 + 1 = 129; rw [hc2.2]
  refine law_init (k := 112) (d := 8) (a := 128) (rest := [.ref (s.heap.size + 128)]) (S := cS3) (res := (none, cS4)) hx hb hml hown hts hK hN dL_law_12 (law_wl (by decide +kernel)) (by decide) rfl rfl (by decide) hc4.1 (by show _ + (cS4.2.2 - cS3.2.2) ≤ _; rw [hc4.2, hc3]; decide) (by show _ + (am_sl cS4.2.2 - am_sl cS3.2.2) ≤ _; rw [hc4.2, hc3]; decide +kernel) (by rw [hn3]) (Nat.le_of_ble_eq_true rfl) hl.1 hr3 hS3 (fun H4 locs4 hr4 hS4 => ?_)
  refine W.widen (k := 148) (n := am_sl 148) (by show _ + (cS4.2.2 - cS3.2.2) ≤ _; rw [hc4.2, hc3]; decide) (by show _ + (am_sl cS4.2.2 - am_sl cS3.2.2) ≤ _; rw [hc4.2, hc3]; decide +kernel) ?_
  refine lv_astore_n (lv' := [(2, .ref (s.heap.size + 128)), (1, .ref s.heap.size), (0, .ref b)]) hx hb dL_law_15 rfl hl (by decide) rfl (fun ls hl => ?_)
  refine lv_iconst (v := 0) hx hb dL_law_16 (by decide) ?_
  refine lv_istore_n (lv' := [(3, .int 0), (2, .ref (s.heap.size + 128)), (1, .ref s.heap.size), (0, .ref b)]) hx hb dL_law_17 rfl hl (by decide) rfl (fun ls hl => ?_)
  exact law_loop Inv hst hL C0 hK hN (L + 7) 0 0 (by omega) (by omega) rfl S0 h0 H4 _ ls (S0_rel hr4) hS4 (lv_sub hl [3, 2, 1, 0] rfl)
