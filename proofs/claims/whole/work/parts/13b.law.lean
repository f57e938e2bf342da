theorem law_arr {args : Array Value} {s : State} {ty : FieldType} (hp : ∀ C, ty ≠ .object C) (h : (Cond.arrayClass ty).before args s = true) : ∃ cA : ClassId, ArrOfT s cA ty ∧ va_RA s cA ty := by
  obtain ⟨cB, kB, comp, h1, h2, h3⟩ := Cond.arrayClass_spec h
  refine ⟨cB, fun n z => ⟨fun k h => (by cases h), kB, h2, comp, h3⟩, ?_⟩
  cases ty with
  | object C => exact absurd rfl (hp C)
  | _ => exact h1
theorem law_K {args : Array Value} {s : State} (hts : ∀ w ∈ lw_tbl, w.before args s = true) : ∃ (D : va_G) (cA : Nat → ClassId), va_K D vwCl (am_tys cA) s ∧ am_NW s := by
  have hT : ∀ w ∈ am_T, w.before args s = true := fun w h => hts w (List.mem_filter.mp h).1
  have hN : am_NW s := ⟨fun q hq => va_Nw.of rfl (hts _ (by
    have h2 := am_and (List.all_eq_true.mp am_MN_ok q hq)
    exact am_at_mem h2.1)), va_AO.of (hts (Cond.arrayOver (.object RX5)) (by decide +kernel))⟩
  obtain ⟨a0, p0, q0⟩ := law_arr (by intro C h; cases h) (hT _ am_warr.1)
  obtain ⟨a1, p1, q1⟩ := law_arr (by intro C h; cases h) (hT _ am_warr.2.1)
  obtain ⟨a2, p2, q2⟩ := law_arr (by intro C h; cases h) (hT _ am_warr.2.2)
  obtain ⟨comp, a3, k3, f1, f2, f3, f4, f5⟩ := Cond.arrayOver_spec (hN.2)
  have hk : ∀ x, x < 9 → ∃ (cC : ClassId) (iS : Nat → Nat), u_Kn s (am_cn x) (am_TX x) (am_nf x) cC iS := fun x hx => u_known hT (am_hin hx) (hT _ (am_wnew hx).1)
  refine ⟨(fun x => if h : x < 9 then (hk x h).choose else 0, fun x => if h : x < 9 then (hk x h).choose_spec.choose else fun _ => 0), fun t => if t = 0 then a0 else if t = 1 then a1 else if t = 2 then a2 else a3, ⟨fun c q hq => ?_, fun k q hq => ?_⟩, hN⟩
  · have hc : c < 9 := by
      have := (List.getElem?_eq_some_iff.mp hq).1
      exact this
    rw [am_vw hc] at hq
    cases hq
    show u_Kn s (am_cn c) (am_TX c) (am_nf c) (if h : c < 9 then (hk c h).choose else 0) (if h : c < 9 then (hk c h).choose_spec.choose else fun _ => 0)
    rw [dif_pos hc, dif_pos hc]
    exact (hk c hc).choose_spec.choose_spec
  · match k, hq with
    | 0, hq => cases hq; exact ⟨p0, q0⟩
    | 1, hq => cases hq; exact ⟨p1, q1⟩
    | 2, hq => cases hq; exact ⟨p2, q2⟩
    | 3, hq => cases hq; exact ⟨fun n z => ⟨fun k h => (by cases h), k3, f3, comp, f4⟩, k3, comp, f3, f4, f1, f5⟩
    | k + 4, hq => cases hq
/-- other references in places that nobody looks at: the same heap -/
theorem law_rel {D : va_G} {cA : Nat → ClassId} {b : Nat} {S : am_S} {P' : am_P} {H : Heap} (hr : am_rel D cA b S H) (h : ∀ a, a < S.2.2 → (match am_sh a with
    | some (.inl (t, n)) => t = 3 → ∀ k, k < n → S.2.1 a k = P' a k
    | some (.inr ci) => ∀ k, k < am_nf ci → am_fk ci k = 2 → S.2.1 a k = P' a k
    | none => True)) : am_rel D cA b (S.1, P', S.2.2) H := by
  refine ⟨hr.1, fun k q hq => ?_⟩
  obtain ⟨h1, rfl⟩ := am_ws_in hq
  have h1 : k < S.2.2 := h1
  have h2 := hr.2 k _ (am_ws_get h1)
  have h3 := h k h1
  show va_at D vwCl (b + k, am_cell cA b (am_sh k) (S.1 k) (P' k)) H
  cases hs : am_sh k with
  | none => rw [hs] at h2; exact h2
  | some z =>
    rw [hs] at h2 h3
    cases z with
    | inl tn =>
      obtain ⟨t, n⟩ := tn
      have h3 : t = 3 → ∀ i, i < n → S.2.1 k i = P' k i := h3
      have h2 : va_at D vwCl (b + k, bif Nat.beq t 3 then .inl (cA 3, n, .inr (.inr (.inr (.inr (fun j => (S.2.1 k j).map (b + ·)))))) else .inl (cA t, n, .inl (S.1 k))) H := h2
      show va_at D vwCl (b + k, bif Nat.beq t 3 then .inl (cA 3, n, .inr (.inr (.inr (.inr (fun j => (P' k j).map (b + ·)))))) else .inl (cA t, n, .inl (S.1 k))) H
      cases ht : Nat.beq t 3 with
      | false => rw [ht] at h2; exact h2
      | true =>
        rw [ht] at h2
        have h2 : H[b + k]? = some (arrV (cA 3) n (fun j => va_rf ((S.2.1 k j).map (b + ·)))) := h2
        show H[b + k]? = some (arrV (cA 3) n (fun j => va_rf ((P' k j).map (b + ·))))
        rw [h2]
        congr 1
        unfold arrV
        congr 1
        apply Array.ext
        · simp
        · intro i g1 g2
          simp only [Array.getElem_ofFn]
          rw [h3 (am_eqb ht) i (by simpa using g1)]
    | inr ci =>
      have h3 : ∀ i, i < am_nf ci → am_fk ci i = 2 → S.2.1 k i = P' k i := h3
      have e : am_fl b ci (S.1 k) (S.2.1 k) = am_fl b ci (S.1 k) (P' k) := by
        unfold am_fl
        apply List.map_congr_left
        intro i hi
        have hi := List.mem_range.mp hi
        cases hz : Nat.beq (am_fk ci i) 2 with
        | true => rw [h3 i hi (am_eqb hz)]
        | false => unfold am_fv; rw [hz]; rfl
      have h2 : va_at D vwCl (b + k, .inr (ci, am_fl b ci (S.1 k) (S.2.1 k))) H := h2
      rw [e] at h2
      exact h2
def M0 (k : Nat) : Nat := if k < 8 then k + 4 else if k = 8 then 3 else k - 9
/-- the state behind both constructors -/
def S0 : St := (cS4.1, M0)
set_option maxRecDepth 1000000 in
theorem S0_chk : (List.range 148).all (fun a => match am_sh a with
    | some (.inl (t, n)) => bif Nat.beq t 3 then (List.range n).all (fun k => decide (cS4.2.1 a k = PP M0 a k)) else true
    | some (.inr ci) => (List.range (am_nf ci)).all (fun k => bif Nat.beq (am_fk ci k) 2 then decide (cS4.2.1 a k = PP M0 a k) else true)
    | none => true) = true := by decide +kernel
theorem S0_rel {D : va_G} {cA : Nat → ClassId} {b : Nat} {H : Heap} (hr : am_rel D cA b cS4 H) : am_rel D cA b (am_T0 S0) H := by
  have hc := cS4_c.2
  have h := law_rel (P' := PP M0) hr (fun a ha => by
    have h1 := List.all_eq_true.mp S0_chk a (List.mem_range.mpr (by rw [hc] at ha; exact ha))
    split
    · rename_i t n hs
      rw [hs] at h1
      intro ht k hk
      subst ht
      exact of_decide_eq_true (List.all_eq_true.mp h1 k (List.mem_range.mpr hk))
    · rename_i ci hs
      rw [hs] at h1
      intro k hk h2
      have h3 := List.all_eq_true.mp h1 k (List.mem_range.mpr hk)
      rw [h2] at h3
      exact of_decide_eq_true h3
    · trivial)
  rw [hc] at h
  exact h
section LAW
variable {p : Program} {l : Launch} {e : Env} {s : State} {m : MethodId} {below : List Frame} {meth : Method} {c : Code} {D : va_G} {cA : Nat → ClassId} {sb : Nat} {Q : State → Prop}
/-- a call of the law's: by the abstract machine -/
theorem law_call {H : Heap} {locs : List Loc} {ls : Array Slot} {pc ix k d a cells slots : Nat} {As rest st : List Value} {S : am_S} {res : Option Value × am_S} (hx : p.tables.exec = Jvm.exec) (hb : c.code = code) (hml : c.maxLocals = 4) (hown : s.vm.findClass R_law = some m.cls) (hts : ∀ w ∈ lw_tbl, w.before #[Value.ref sb] s = true) (hK : va_K D vwCl (am_tys cA) s) (hN : am_NW s)
    (hd : decode code pc = .ok (.invokevirtual ix, 3)) (hlk : Cond.methodLink R_law ix (am_y k) ∈ am_T) (hk : k < am_nM) (hmk : am_mk k = 0) (hlen : As.length = am_np k) (hall : As.all am_c1 = true) (hdd : d ≤ 100) (hO : am_isO a (am_own k) S = true) (hC : am_C d k (.ref a :: As) S res) (hc : cells + (res.2.2.2 - S.2.2) ≤ 600000) (hs : slots + (am_sl res.2.2.2 - am_sl S.2.2) ≤ 7302250)
    (hst : st = (As.map (am_cv s.heap.size)).reverse ++ .ref (s.heap.size + a) :: rest) (hrest : (rest.map fun v => v.category).sum ≤ 8) (hls : ls.size = 4) (hr : am_rel D cA s.heap.size S H) (hS : va_S (fun q => s.heap.size ≤ q) s.heap H locs)
    (kk : ∀ (H1 : Heap) (locs1 : List Loc), am_rel D cA s.heap.size res.2 H1 → va_S (fun q => s.heap.size ≤ q) s.heap H1 locs1 → W p l e room_1 s m #[Value.ref sb] below meth c H1 locs1 (cells + (res.2.2.2 - S.2.2)) (slots + (am_sl res.2.2.2 - am_sl S.2.2)) Q (F0 m (pc + 3) ls ((res.1.map (am_cv s.heap.size)).toList ++ rest))) :
    W p l e room_1 s m #[Value.ref sb] below meth c H locs cells slots Q (F0 m pc ls st) := by
  have hT : ∀ w ∈ am_T, w.before #[Value.ref sb] s = true := fun w h => hts w (List.mem_filter.mp h).1
  obtain ⟨f1, f2, f3, f4, f5, f6, f7⟩ := am_Mall hk
  obtain ⟨w1, w2, w3, w4, w5⟩ := am_Mwd hk
  rw [hmk] at f7
  have hac : (Value.ref a :: As).all am_c1 = true := hall
  have hM := am_uni d k (.ref a :: As) S res hk hac (by rw [List.length_cons, hlen]; exact f7) hC l D cA s.heap.size
  have hR : (am_room d (res.2.2.2 - S.2.2) (am_sl res.2.2.2 - am_sl S.2.2)).frames + 1 ≤ room_1.frames ∧ 8 + (am_mx k + 11) + (am_room d (res.2.2.2 - S.2.2) (am_sl res.2.2.2 - am_sl S.2.2)).locals ≤ room_1.locals := ⟨by show d + 1 ≤ 2048; omega, by show _ + 64 * d ≤ 84000; omega⟩
  obtain ⟨cell, q1, q2, q3⟩ := va_recv hK hr.2 (am_vw (am_own_v hk hmk)) (am_ws_o hO)
  have hpre : ∀ U : State, U.heap = H → s.WarmedH U.vm → am_Pre D cA s.heap.size (.ref a :: As) S ((Value.ref a :: As).map (am_cv s.heap.size)).toArray U := fun U hU hW => ⟨rfl, by rw [hU]; exact hr, va_K.moved hW.alike hK, hN.warm hW⟩
  exact am_back (va_runV (As := As.map (am_cv s.heap.size)) (rest := rest) (b := s.heap.size + a) (C := (am_y k).cls) ⟨hx, hb, hml, hown, hT⟩ hM ⟨callB_of (am_np k) hT (am_goodIn k hk) rfl rfl rfl (hT _ w1) (hT _ hlk) ⟨f4.1, f4.2, f5⟩ hR, hT _ (w3 (by rw [hmk]; decide)), hT _ (w4 hmk)⟩ ⟨am_blind D cA s.heap.size _ S, ⟨cell, q1, q2, by rw [f3]; exact q3⟩, hpre⟩ rfl (by rw [List.length_map]; exact hlen) hls hst (lv_room hrest) hd ⟨hc, hs⟩) hS kk
theorem law_init {H : Heap} {locs : List Loc} {ls : Array Slot} {pc ix k d a cells slots : Nat} {rest st : List Value} {S : am_S} {res : Option Value × am_S} (hx : p.tables.exec = Jvm.exec) (hb : c.code = code) (hml : c.maxLocals = 4) (hown : s.vm.findClass R_law = some m.cls) (hts : ∀ w ∈ lw_tbl, w.before #[Value.ref sb] s = true) (hK : va_K D vwCl (am_tys cA) s) (hN : am_NW s)
    (hd : decode code pc = .ok (.invokespecial ix, 3)) (hlk : Cond.methodLink R_law ix (am_y k) ∈ am_T) (hk : k < am_nM) (hmk : am_mk k = 2) (hlen : 0 = am_np k) (hdd : d ≤ 100) (hC : am_C d k [.ref a] S res) (hc : cells + (res.2.2.2 - S.2.2) ≤ 600000) (hs : slots + (am_sl res.2.2.2 - am_sl S.2.2) ≤ 7302250)
    (hst : st = .ref (s.heap.size + a) :: rest) (hrest : (rest.map fun v => v.category).sum ≤ 8) (hls : ls.size = 4) (hr : am_rel D cA s.heap.size S H) (hS : va_S (fun q => s.heap.size ≤ q) s.heap H locs)
    (kk : ∀ (H1 : Heap) (locs1 : List Loc), am_rel D cA s.heap.size res.2 H1 → va_S (fun q => s.heap.size ≤ q) s.heap H1 locs1 → W p l e room_1 s m #[Value.ref sb] below meth c H1 locs1 (cells + (res.2.2.2 - S.2.2)) (slots + (am_sl res.2.2.2 - am_sl S.2.2)) Q (F0 m (pc + 3) ls ((res.1.map (am_cv s.heap.size)).toList ++ rest))) :
    W p l e room_1 s m #[Value.ref sb] below meth c H locs cells slots Q (F0 m pc ls st) := by
  have hT : ∀ w ∈ am_T, w.before #[Value.ref sb] s = true := fun w h => hts w (List.mem_filter.mp h).1
  obtain ⟨f1, f2, f3, f4, f5, f6, f7⟩ := am_Mall hk
  obtain ⟨w1, w2, w3, w4, w5⟩ := am_Mwd hk
  rw [hmk] at f7
  have hM := am_uni d k [.ref a] S res hk rfl (by rw [← hlen] at f7; exact f7) hC l D cA s.heap.size
  have hR : (am_room d (res.2.2.2 - S.2.2) (am_sl res.2.2.2 - am_sl S.2.2)).frames + 1 ≤ room_1.frames ∧ 8 + (am_mx k + 11) + (am_room d (res.2.2.2 - S.2.2) (am_sl res.2.2.2 - am_sl S.2.2)).locals ≤ room_1.locals := ⟨by show d + 1 ≤ 2048; omega, by show _ + 64 * d ≤ 84000; omega⟩
  have hret : am_ry k = none := am_init_void hk hmk
  have hw : am_wd k = Cond.code (am_y k) (am_b k) (am_mx k) none :: am_T := by unfold am_wd; rw [hret]
  have hpre : ∀ U : State, U.heap = H → s.WarmedH U.vm → am_Pre D cA s.heap.size [.ref a] S (([Value.ref a] : List Value).map (am_cv s.heap.size)).toArray U := fun U hU hW => ⟨rfl, by rw [hU]; exact hr, va_K.moved hW.alike hK, hN.warm hW⟩
  exact am_back (va_runI (As := []) (rest := rest) (b := s.heap.size + a) ⟨hx, hb, hml, hown, hT⟩ hM ⟨callB_of (am_np k) hT (am_goodIn k hk) hw rfl rfl (hT _ w1) (hT _ hlk) ⟨f4.1, f4.2, f5⟩ hR, w5 hmk, hT _ (w3 (by rw [hmk]; decide))⟩ ⟨am_blind D cA s.heap.size _ S, hpre⟩ rfl hlen hls hst (lv_room hrest) hd ⟨hc, hs⟩) hS kk
end LAW
