/-! ===== a call, a return, and the universal contract ===== -/
def am_wd (j : Nat) : List Cond := Cond.code (am_y j) (am_b j) (am_mx j) (am_ry j) :: am_T
def am_room (d mc ms : Nat) : Room := { frames := d, cells := mc, slots := ms, locals := 64 * d }
def am_Pre (D : va_G) (cA : Nat → ClassId) (b : Nat) (as : List Value) (S : am_S) : Array Value → State → Prop := va_Pc (as.map (am_cv b)) (fun U => am_rel D cA b S U.heap ∧ va_K D vwCl (am_tys cA) U ∧ am_NW U)
def am_Post (D : va_G) (cA : Nat → ClassId) (b : Nat) (res : Option Value × am_S) : Array Value → State → Outcome → State → Prop := fun _ st o t => o = .returned (res.1.map (am_cv b)) ∧ am_rel D cA b res.2 t.heap ∧ va_F (fun q => b ≤ q) st t
/-- the contract of method j at depth d from the abstract state S to res -/
def am_Met (d j : Nat) (as : List Value) (S : am_S) (res : Option Value × am_S) : Prop :=
  ∀ (l : Launch) (D : va_G) (cA : Nat → ClassId) (b : Nat), Met l (am_y j) (am_wd j) (am_room d (res.2.2.2 - S.2.2) (am_sl res.2.2.2 - am_sl S.2.2)) (am_Pre D cA b as S) (am_Post D cA b res) (res.2.2.2 - S.2.2) (am_sl res.2.2.2 - am_sl S.2.2) (fun q => b ≤ q)
set_option maxRecDepth 100000 in
theorem am_iv_all : (List.range am_nM).all (fun j => (bif Nat.beq (am_mk j) 2 then Nat.beq (am_rk j) 0 else true) && (bif Nat.beq (am_mk j) 0 then Nat.blt (am_own j) 9 else true)) = true := by decide +kernel
theorem am_init_void {k : Nat} (h : k < am_nM) (hm : am_mk k = 2) : am_ry k = none := by
  have h1 := (am_and (List.all_eq_true.mp am_iv_all k (List.mem_range.mpr h))).1
  rw [hm] at h1
  have h1 : Nat.beq (am_rk k) 0 = true := h1
  unfold am_ry
  rw [h1]
  rfl
theorem am_own_v {k : Nat} (h : k < am_nM) (hm : am_mk k = 0) : am_own k < 9 := by
  have h1 := (am_and (List.all_eq_true.mp am_iv_all k (List.mem_range.mpr h))).2
  rw [hm] at h1
  exact am_blt h1
theorem am_addsub {x y z : Nat} (h1 : z ≤ y) (h2 : y ≤ x) : x - z = y - z + (x - y) := by omega
theorem am_goodIn (k : Nat) (hk : k < am_nM) : GoodIn am_T (am_wd k) := by
  intro w hw
  have hT : ∀ w ∈ am_T, w ∈ am_T ∧ ((w.onTables && w.keeps) = true ∨ ∃ ty, w = .arrayClass ty) := fun w h => ⟨h, good_of_word (List.mem_filter.mp h).2⟩
  rcases List.mem_cons.mp hw with rfl | h
  · exact hT _ (am_Mcd hk)
  · exact hT w h
theorem am_goodT {w : Cond} (h : w ∈ am_T) : w ∈ am_T ∧ ((w.onTables && w.keeps) = true ∨ ∃ ty, w = .arrayClass ty) := ⟨h, good_of_word (List.mem_filter.mp h).2⟩
theorem am_blind (D : va_G) (cA : Nat → ClassId) (b : Nat) (as : List Value) (S : am_S) : FrameBlind (am_Pre D cA b as S) := by
  intro a U g mk q
  obtain ⟨q0, q1, q2, q3⟩ := q
  exact ⟨q0, q1, va_K.moved (u := U) (U := U.calling g mk a) (Vm.Alike.refl U.vm) q2, q3⟩
section AMZ
variable {p : Program} {l : Launch} {e : Env} {R : Room} {s : State} {m : MethodId} {args : Array Value} {below : List Frame} {meth : Method} {c : Code} {Q : State → Prop} {D : va_G} {cA : Nat → ClassId} {b j d c0 : Nat}
variable {pc : Nat} {L : List (Option Value)} {st : List Value} {S : am_S}
theorem am_back {H : Heap} {locs : List Loc} {cells slots mc ms : Nat} {ls : Array Slot} {st0 rest : List Value} {res : Option Value × am_S} {a : Array Value} (hr : va_Run p l e R s m args below meth c H locs cells slots mc ms (F0 m pc ls st0) rest (am_Post D cA b res a) (fun q => b ≤ q)) (hS : va_S (fun q => b ≤ q) s.heap H locs)
    (kk : ∀ (H1 : Heap) (locs1 : List Loc), am_rel D cA b res.2 H1 → va_S (fun q => b ≤ q) s.heap H1 locs1 → W p l e R s m args below meth c H1 locs1 (cells + mc) (slots + ms) Q (F0 m (pc + 3) ls ((res.1.map (am_cv b)).toList ++ rest))) : W p l e R s m args below meth c H locs cells slots Q (F0 m pc ls st0) := by
  intro T hT X
  obtain ⟨v, st₀, t, T', Lc, h0, X', hL, e1, e2, ⟨hv, hrl, hz, hk⟩, stp⟩ := hr T hT X
  cases hv
  rw [h0] at hz hk
  obtain ⟨t2, a1, b1⟩ := kk T'.heap (locs ++ Lc) (by rw [e1]; exact hrl) ⟨Nat.le_trans hS.1 (by rw [e1]; exact hz), fun q h1 h2 => by
      rw [e1, hk q (Nat.lt_of_lt_of_le h1 hS.1) h2]
      exact hS.2.1 q h1 h2, fun q hq => by
      rcases List.mem_append.mp hq with h | h
      · exact hS.2.2 q h
      · exact hL q h⟩ T' rfl X'
  exact ⟨t2, stp t2 a1, b1⟩
theorem am_call {en : am_En} {k : Nat} {as r : List Value} {o : Option Value} {S1 : am_S} (X : am_X p R s m args meth c D cA j d) (he : am_ct j pc = some en) (hc : am_cl en st S = some (k, as, r)) (hM : am_Met d k as S (o, S1)) (hcc : S.2.2 ≤ S1.2.2) (hc0 : c0 ≤ S.2.2) (hRc : S1.2.2 - c0 ≤ R.cells) (hRs : am_sl S1.2.2 - am_sl c0 ≤ R.slots)
    (h : am_G p l e R s m args below meth c Q D cA b j c0 (pc + 3, L, o.toList ++ r, S1)) : am_G p l e R s m args below meth c Q D cA b j c0 (pc, L, st, S) := by
  obtain ⟨hst, hr8, hrc, hac, hkind⟩ := am_cl_spec X.2.2.2.2.2.2.2.2.2.2.2.2 he hc
  intro H locs ls hr hS hL
  obtain ⟨hex, hb, hmx, hown, hts, -, -, hK, hN, -, hfr, hlo, -⟩ := X
  obtain ⟨lv, g1, g2, g3⟩ := id hL
  have m1 := am_sl_mono hcc
  have m2 := am_sl_mono hc0
  have hf : S.2.2 - c0 + (S1.2.2 - S.2.2) ≤ R.cells ∧ am_sl S.2.2 - am_sl c0 + (am_sl S1.2.2 - am_sl S.2.2) ≤ R.slots := ⟨by omega, by omega⟩
  have hroom : 2 * (F0 m pc ls (st.map (am_cv b))).monitorRoom + ((r.map (am_cv b)).map fun v => v.category).sum ≤ 8 := lv_room (by rw [am_cats r hrc]; exact hr8)
  have key : ∀ (H1 : Heap) (locs1 : List Loc), am_rel D cA b (o, S1).2 H1 → va_S (fun q => b ≤ q) s.heap H1 locs1 → W p l e R s m args below meth c H1 locs1 (S.2.2 - c0 + (S1.2.2 - S.2.2)) (am_sl S.2.2 - am_sl c0 + (am_sl S1.2.2 - am_sl S.2.2)) Q (F0 m (pc + 3) ls (((o, S1).1.map (am_cv b)).toList ++ r.map (am_cv b))) := by
    intro H1 locs1 k1 k2
    have h5 := h H1 locs1 ls k1 k2 hL
    have e1 : S1.2.2 - c0 = S.2.2 - c0 + (S1.2.2 - S.2.2) := am_addsub hc0 hcc
    have e2 : am_sl S1.2.2 - am_sl c0 = am_sl S.2.2 - am_sl c0 + (am_sl S1.2.2 - am_sl S.2.2) := am_addsub m2 m1
    have h5 : W p l e R s m args below meth c H1 locs1 (S1.2.2 - c0) (am_sl S1.2.2 - am_sl c0) Q (F0 m (pc + 3) ls ((o.toList ++ r).map (am_cv b))) := h5
    rw [e1, e2, List.map_append] at h5
    cases o <;> exact h5
  have hpre : ∀ U : State, U.heap = H → s.WarmedH U.vm → am_Pre D cA b as S (as.map (am_cv b)).toArray U := fun U hU hW => ⟨rfl, by rw [hU]; exact hr, va_K.moved hW.alike hK, hN.warm hW⟩
  have hstk : st.map (am_cv b) = (as.map (am_cv b)).reverse ++ r.map (am_cv b) := by rw [hst, List.map_append, List.map_reverse]
  rcases hkind with ⟨ix, hd, hlk, hmk, hlen⟩ | ⟨ix, a, As, hd, hlk, hmk, rfl, hlen⟩ | ⟨ix, a, As, hd, hlk, hmk, rfl, hlen, hO⟩
  · have hk : k < am_nM := by
      rcases hlk with q | q
      · exact (am_wML q).1
      · exact (am_wMN hN q).1
    obtain ⟨f1, f2, f3, f4, f5, f6, f7⟩ := am_Mall hk
    obtain ⟨w1, w2, w3, w4, w5⟩ := am_Mwd hk
    have hR : (am_room d (S1.2.2 - S.2.2) (am_sl S1.2.2 - am_sl S.2.2)).frames + 1 ≤ R.frames ∧ 8 + (am_mx k + 11) + (am_room d (S1.2.2 - S.2.2) (am_sl S1.2.2 - am_sl S.2.2)).locals ≤ R.locals := ⟨by rw [hfr]; exact Nat.le_refl _, by rw [hlo]; show _ + 64 * d ≤ _; omega⟩
    rcases hlk with q | q
    · exact am_back (va_runS (As := as.map (am_cv b)) (rest := r.map (am_cv b)) ⟨hex, hb, hmx, hown, hts⟩ (hM l D cA b) ⟨callB_of (am_np k) hts (am_goodIn k hk) rfl rfl rfl (hts _ w1) (hts _ (am_wML q).2) ⟨f4.1, f4.2, f5⟩ hR, hts _ (w2 hmk)⟩ ⟨am_blind D cA b as S, hpre⟩ rfl (by rw [List.length_map]; exact hlen) g1.1 hstk hroom hd hf) hS key
    · exact am_back (va_runSN (As := as.map (am_cv b)) (rest := r.map (am_cv b)) ⟨hex, hb, hmx, hown, hts⟩ (hM l D cA b) ⟨va_cnB (am_np k) hts (am_goodIn k hk) rfl rfl rfl (am_wMN hN q).2 (hts _ w1) ⟨f4.1, f4.2, f5⟩ hR, hts _ (w2 hmk), trivial⟩ ⟨am_blind D cA b as S, hpre⟩ rfl (by rw [List.length_map]; exact hlen) g1.1 hstk hroom hd hf) hS key
  · have hk : k < am_nM := by
      rcases hlk with q | q
      · exact (am_wML q).1
      · exact (am_wMN hN q).1
    obtain ⟨f1, f2, f3, f4, f5, f6, f7⟩ := am_Mall hk
    obtain ⟨w1, w2, w3, w4, w5⟩ := am_Mwd hk
    have hR : (am_room d (S1.2.2 - S.2.2) (am_sl S1.2.2 - am_sl S.2.2)).frames + 1 ≤ R.frames ∧ 8 + (am_mx k + 11) + (am_room d (S1.2.2 - S.2.2) (am_sl S1.2.2 - am_sl S.2.2)).locals ≤ R.locals := ⟨by rw [hfr]; exact Nat.le_refl _, by rw [hlo]; show _ + 64 * d ≤ _; omega⟩
    have hret : am_ry k = none := am_init_void hk hmk
    have hstk2 : st.map (am_cv b) = (As.map (am_cv b)).reverse ++ .ref (b + a) :: r.map (am_cv b) := by
      rw [hstk]; simp [am_cv]
    have hw : am_wd k = Cond.code (am_y k) (am_b k) (am_mx k) none :: am_T := by unfold am_wd; rw [hret]
    rcases hlk with q | q
    · exact am_back (va_runI (As := As.map (am_cv b)) (rest := r.map (am_cv b)) (b := b + a) ⟨hex, hb, hmx, hown, hts⟩ (hM l D cA b) ⟨callB_of (am_np k) hts (am_goodIn k hk) hw rfl rfl (hts _ w1) (hts _ (am_wML q).2) ⟨f4.1, f4.2, f5⟩ hR, w5 hmk, hts _ (w3 (by rw [hmk]; decide))⟩ ⟨am_blind D cA b _ S, hpre⟩ rfl (by rw [List.length_map]; exact hlen) g1.1 hstk2 hroom hd hf) hS key
    · exact am_back (va_runIN (As := As.map (am_cv b)) (rest := r.map (am_cv b)) (b := b + a) ⟨hex, hb, hmx, hown, hts⟩ (hM l D cA b) ⟨va_cnB (am_np k) hts (am_goodIn k hk) hw rfl rfl (am_wMN hN q).2 (hts _ w1) ⟨f4.1, f4.2, f5⟩ hR, w5 hmk, hts _ (w3 (by rw [hmk]; decide))⟩ ⟨am_blind D cA b _ S, hpre⟩ rfl (by rw [List.length_map]; exact hlen) g1.1 hstk2 hroom hd hf) hS key
  · have hk : k < am_nM := (am_wML hlk).1
    obtain ⟨f1, f2, f3, f4, f5, f6, f7⟩ := am_Mall hk
    obtain ⟨w1, w2, w3, w4, w5⟩ := am_Mwd hk
    have hR : (am_room d (S1.2.2 - S.2.2) (am_sl S1.2.2 - am_sl S.2.2)).frames + 1 ≤ R.frames ∧ 8 + (am_mx k + 11) + (am_room d (S1.2.2 - S.2.2) (am_sl S1.2.2 - am_sl S.2.2)).locals ≤ R.locals := ⟨by rw [hfr]; exact Nat.le_refl _, by rw [hlo]; show _ + 64 * d ≤ _; omega⟩
    have hstk2 : st.map (am_cv b) = (As.map (am_cv b)).reverse ++ .ref (b + a) :: r.map (am_cv b) := by
      rw [hstk]; simp [am_cv]
    have hx : am_own k < 9 := am_own_v hk hmk
    obtain ⟨cell, q1, q2, q3⟩ := va_recv hK hr.2 (am_vw hx) (am_ws_o hO)
    exact am_back (va_runV (As := As.map (am_cv b)) (rest := r.map (am_cv b)) (b := b + a) (C := (am_y k).cls) ⟨hex, hb, hmx, hown, hts⟩ (hM l D cA b) ⟨callB_of (am_np k) hts (am_goodIn k hk) rfl rfl rfl (hts _ w1) (hts _ (am_wML hlk).2) ⟨f4.1, f4.2, f5⟩ hR, hts _ (w3 (by rw [hmk]; decide)), hts _ (w4 hmk)⟩ ⟨am_blind D cA b _ S, ⟨cell, q1, q2, by rw [f3]; exact q3⟩, hpre⟩ rfl (by rw [List.length_map]; exact hlen) g1.1 hstk2 hroom hd hf) hS key
end AMZ
