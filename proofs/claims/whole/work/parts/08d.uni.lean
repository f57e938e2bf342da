theorem am_wMNk {own k x : Nat} (h : am_has4 am_MN own k x = true) : x < am_nM := by
  obtain ⟨q, hq, h1⟩ := List.any_eq_true.mp h
  obtain ⟨-, a3⟩ := am_and h1
  have h2 := am_and (List.all_eq_true.mp am_MN_ok q hq)
  have h3 := am_blt h2.2
  rw [am_eqb a3] at h3
  exact h3
theorem am_rt_spec {rk : Nat} {en : am_En} {st : List Value} {S : am_S} {res : Option Value × am_S} (h : am_rt rk en st S = some res) :
    (∃ q v, en = (.ireturn, q) ∧ st = [.int v] ∧ res = (some (.int v), S) ∧ (rk = 1 ∨ (rk = 2 ∧ (v = 0 ∨ v = 1)))) ∨ (∃ q, en = (.return_, q) ∧ st = [] ∧ res = (none, S) ∧ rk = 0) := by
  obtain ⟨i, q⟩ := en
  cases i with
  | ireturn =>
    unfold am_rt at h
    dsimp only at h
    split at h
    · rename_i v
      refine Or.inl ⟨q, v, rfl, rfl, ?_⟩
      cases h1 : Nat.beq rk 1 with
      | true =>
        rw [h1] at h
        cases h
        exact ⟨rfl, Or.inl (am_eqb h1)⟩
      | false =>
        rw [h1] at h
        obtain ⟨h2, rfl⟩ := am_bif h
        obtain ⟨h2, h3⟩ := am_and h2
        refine ⟨rfl, Or.inr ⟨am_eqb h2, ?_⟩⟩
        rcases Bool.or_eq_true_iff.mp h3 with q | q
        · exact Or.inl (eq_of_beq q)
        · exact Or.inr (eq_of_beq q)
    · cases h
  | return_ =>
    unfold am_rt at h
    dsimp only at h
    split at h
    · obtain ⟨h1, rfl⟩ := am_bif h
      exact Or.inr ⟨q, rfl, rfl, rfl, am_eqb h1⟩
    · cases h
  | _ => cases h
section AMR
variable {p : Program} {l : Launch} {e : Env} {R : Room} {s : State} {m : MethodId} {args : Array Value} {below : List Frame} {meth : Method} {c : Code} {D : va_G} {cA : Nat → ClassId} {b j d c0 : Nat}
variable {pc : Nat} {L : List (Option Value)} {st : List Value} {S : am_S}
theorem am_ret {en : am_En} {res : Option Value × am_S} (X : am_X p R s m args meth c D cA j d) (he : am_ct j pc = some en) (hr : am_rt (am_rk j) en st S = some res) : res.2 = S ∧ am_G p l e R s m args below meth c (MQ below (am_Post D cA b res) args s (res.2.2.2 - c0) (am_sl res.2.2.2 - am_sl c0) (fun q => b ≤ q)) D cA b j c0 (pc, L, st, S) := by
  obtain ⟨hd, hk⟩ := am_ck X.2.2.2.2.2.2.2.2.2.2.2.2 pc en he
  obtain ⟨hex, hb, hmx, hown, hts, hlk, hry, hK, hN, -, hfr, hlo, -⟩ := X
  rcases am_rt_spec hr with ⟨q, v, rfl, rfl, rfl, hrk⟩ | ⟨q, rfl, rfl, rfl, hrk⟩
  · obtain ⟨len, x, y, v', cs⟩ := q
    obtain rfl : len = 1 := am_eqb hk
    unfold am_ry at hry
    rcases hrk with h1 | ⟨h1, h3⟩
    · rw [h1] at hry
      exact ⟨rfl, fun H locs ls hrl hS hL => W.iret hex hb hry (fun t ht hW => ⟨rfl, by rw [ht]; exact hrl, hS.F ht⟩) hS.2.2 hd⟩
    · rw [h1] at hry
      have hn : narrow .boolean (.int v) = .int v := by
        rcases h3 with rfl | rfl <;> rfl
      exact ⟨rfl, fun H locs ls hrl hS hL => W.zret hex hb hry hn (fun t ht hW => ⟨rfl, by rw [ht]; exact hrl, hS.F ht⟩) hS.2.2 hd⟩
  · obtain ⟨len, x, y, v', cs⟩ := q
    obtain rfl : len = 1 := am_eqb hk
    unfold am_ry at hry
    rw [hrk] at hry
    exact ⟨rfl, fun H locs ls hrl hS hL => W.vret hex hb hry (fun t ht hW => ⟨rfl, by rw [ht]; exact hrl, hS.F ht⟩) hS.2.2 hd⟩
end AMR
theorem am_lvargs {b : Nat} : ∀ (as : List Value) (k i : Nat) (v : Value), as.all am_c1 = true → as[i]? = some v → (k + i, am_cv b v) ∈ lv_args k (as.map (am_cv b))
  | [], _, _, _, _, h => by cases h
  | a :: as, k, 0, v, hc, h => by
    cases h
    exact List.mem_cons_self
  | a :: as, k, i + 1, v, hc, h => by
    obtain ⟨h1, h2⟩ := am_and (show (am_c1 a && as.all am_c1) = true from hc)
    have := am_lvargs (b := b) as (k + 1) i v h2 h
    show _ ∈ (k, am_cv b a) :: lv_args (if (am_cv b a).category = 2 then k + 2 else k + 1) (as.map (am_cv b))
    rw [am_cat h1, if_neg (by decide)]
    rw [show k + 1 + i = k + (i + 1) by omega] at this
    exact List.mem_cons_of_mem _ this
theorem am_lgsl {b : Nat} : ∀ (as : List Value), as.all am_c1 = true → (lg_sl (as.map (am_cv b))).length = as.length
  | [], _ => rfl
  | a :: as, hc => by
    obtain ⟨h1, h2⟩ := am_and (show (am_c1 a && as.all am_c1) = true from hc)
    have := am_lgsl (b := b) as h2
    unfold lg_sl at this ⊢
    rw [List.map_cons, List.flatMap_cons, am_cat h1, if_neg (by decide), List.length_append, this]
    simp; omega
theorem am_L0_len {n : Nat} {as : List Value} (h : as.length ≤ n) : (am_L0 n as).length = n := by
  unfold am_L0; rw [List.length_append, List.length_map, List.length_replicate]; omega
theorem am_L0_get {n : Nat} {as : List Value} {i : Nat} {v : Value} (h : (am_L0 n as)[i]? = some (some v)) : as[i]? = some v := by
  unfold am_L0 at h
  rw [List.getElem?_append] at h
  split at h
  · rw [List.getElem?_map] at h
    cases hq : as[i]? with
    | none => rw [hq] at h; cases h
    | some w => rw [hq] at h; cases h; rfl
  · rw [List.getElem?_replicate] at h
    split at h <;> cases h
theorem am_mono : ∀ (d j : Nat) (as : List Value) (S : am_S) (res : Option Value × am_S), j < am_nM → am_C d j as S res → S.2.2 ≤ res.2.2.2
  | 0, _, _, _, _, _, h => h.elim
  | d + 1, j, as, S, res, hj, h => by
    refine h (fun t => t.2.2.2.2.2 ≤ res.2.2.2) ⟨fun en pc L st S t he ho hG => ?_, fun en pc L st S k as r o S1 he hc hK hG => ?_, fun en pc L st S he hr => ?_⟩
    · exact Nat.le_trans (am_op_mono ho) hG
    · have hk : k < am_nM := by
        obtain ⟨-, -, -, -, hk⟩ := am_cl_spec hj he hc
        rcases hk with ⟨ix, -, q, -⟩ | ⟨ix, a, As, -, q, -⟩ | ⟨ix, a, As, -, q, -⟩
        · rcases q with q | q
          · exact (am_wML q).1
          · exact am_wMNk q
        · rcases q with q | q
          · exact (am_wML q).1
          · exact am_wMNk q
        · exact (am_wML q).1
      exact Nat.le_trans (am_mono d k as S (o, S1) hk hK) hG
    · rcases am_rt_spec hr with ⟨q, v, -, -, rfl, -⟩ | ⟨q, -, -, rfl, -⟩ <;> exact Nat.le_refl _
/-- THE UNIVERSAL CONTRACT: what the abstract machine does, the machine does -/
theorem am_uni : ∀ (d j : Nat) (as : List Value) (S : am_S) (res : Option Value × am_S), j < am_nM → as.all am_c1 = true → as.length ≤ am_mx j → am_C d j as S res → am_Met d j as S res
  | 0, _, _, _, _, _, _, _, h => h.elim
  | d + 1, j, as, S, res, hj, hac, hal, h => by
    intro l D cA b
    obtain ⟨f1, f2, f3, f4, f5, f6, f7⟩ := am_Mall hj
    obtain ⟨w1, w2, w3, w4, w5⟩ := am_Mwd hj
    refine Met.ofW (cc := am_b j) (maxL := am_mx j) (ret := am_ry j) f2 rfl ?_
    intro p e s m args below meth c s₁ B hml hv
    obtain ⟨rfl, hrel, hK, hN⟩ := hv
    have hts := atoms_spec (ws := am_wd j) B.pre
    have hown : s.vm.findClass (am_y j).cls = some m.cls := findClass_of_methodNamed B.named
    rw [f3] at hown
    have X : am_X p (am_room (d + 1) (res.2.2.2 - S.2.2) (am_sl res.2.2.2 - am_sl S.2.2)) s m (as.map (am_cv b)).toArray meth c D cA j d := ⟨B.exec, B.bytes, hml, hown, fun w hw => hts w (List.mem_cons_of_mem _ hw), B.notSynchronized, B.returns, hK, hN, fun hm => (name_of_methodNamed B.named B.method).1.trans (w5 hm), rfl, rfl, hj⟩
    have hlen : (lg_sl (as.map (am_cv b))).length ≤ am_mx j := by rw [am_lgsl as hac]; exact hal
    have hl := lv_entry (as.map (am_cv b)) (n := am_mx j) hlen
    rw [lg_entry_eq]
    generalize (lg_sl (as.map (am_cv b)) ++ List.replicate (am_mx j - (lg_sl (as.map (am_cv b))).length) Slot.unset).toArray = ls at hl ⊢
    have hlv : am_lv b ls (am_mx j) (am_L0 (am_mx j) as) := ⟨_, hl, am_L0_len hal, fun i v hi => by
      have hi := am_L0_get hi
      refine ⟨by have := am_lvargs (b := b) as 0 i v hac hi; rw [Nat.zero_add] at this; exact this, List.all_eq_true.mp hac v (List.mem_of_getElem? hi)⟩⟩
    have hG := h (fun t => t.2.2.2.2.2 ≤ res.2.2.2 ∧ (S.2.2 ≤ t.2.2.2.2.2 → am_G p l e (am_room (d + 1) (res.2.2.2 - S.2.2) (am_sl res.2.2.2 - am_sl S.2.2)) s m (as.map (am_cv b)).toArray below meth c (MQ below (am_Post D cA b res) (as.map (am_cv b)).toArray s (res.2.2.2 - S.2.2) (am_sl res.2.2.2 - am_sl S.2.2) (fun q => b ≤ q)) D cA b j S.2.2 t)) ⟨?_, ?_, ?_⟩
    · have h1 := hG.2 (Nat.le_refl _) s.heap [] ls hrel va_S.rf hlv
      have e1 : S.2.2 - S.2.2 = 0 := Nat.sub_self _
      have e2 : am_sl S.2.2 - am_sl S.2.2 = 0 := Nat.sub_self _
      rw [show ((0, am_L0 (am_mx j) as, ([] : List Value), S) : am_F).2.2.2.2.2 = S.2.2 from rfl, e1, e2] at h1
      exact h1
    · intro en pc L st S2 t he ho hG
      have hm := am_op_mono ho
      refine ⟨Nat.le_trans hm hG.1, fun hc => ?_⟩
      have hc2 : S.2.2 ≤ S2.2.2 := hc
      have g1 := hG.1
      have s1 := am_sl_mono hm
      have s2 := am_sl_mono g1
      exact am_step X he ho hc2 (by show _ ≤ res.2.2.2 - S.2.2; omega) (by show _ ≤ am_sl res.2.2.2 - am_sl S.2.2; omega) (by show _ ≤ res.2.2.2 - S.2.2; omega) (by show _ ≤ am_sl res.2.2.2 - am_sl S.2.2; omega) (hG.2 (Nat.le_trans hc2 hm))
    · intro en pc L st S2 k as2 r o S1 he hc hKc hG
      obtain ⟨-, -, -, ha2, hkd⟩ := am_cl_spec hj he hc
      have hk : k < am_nM ∧ as2.length ≤ am_mx k := by
        rcases hkd with ⟨ix, -, q, q2, q3⟩ | ⟨ix, a, As, -, q, q2, rfl, q3⟩ | ⟨ix, a, As, -, q, q2, rfl, q3, -⟩
        · have hk : k < am_nM := by
            rcases q with q | q
            · exact (am_wML q).1
            · exact am_wMNk q
          have := (am_Mall hk).2.2.2.2.2.2
          rw [q2] at this
          exact ⟨hk, by rw [q3]; exact this⟩
        · have hk : k < am_nM := by
            rcases q with q | q
            · exact (am_wML q).1
            · exact am_wMNk q
          have := (am_Mall hk).2.2.2.2.2.2
          rw [q2] at this
          exact ⟨hk, by rw [List.length_cons, q3]; exact this⟩
        · have hk : k < am_nM := (am_wML q).1
          have := (am_Mall hk).2.2.2.2.2.2
          rw [q2] at this
          exact ⟨hk, by rw [List.length_cons, q3]; exact this⟩
      have hm := am_mono d k as2 S2 (o, S1) hk.1 hKc
      have g1 : S1.2.2 ≤ res.2.2.2 := hG.1
      refine ⟨Nat.le_trans hm g1, fun hc1 => ?_⟩
      have hc2 : S.2.2 ≤ S2.2.2 := hc1
      have s2 := am_sl_mono g1
      exact am_call X he hc (am_uni d k as2 S2 (o, S1) hk.1 ha2 hk.2 hKc) hm hc2 (by show _ ≤ res.2.2.2 - S.2.2; exact Nat.sub_le_sub_right g1 _) (by show _ ≤ am_sl res.2.2.2 - am_sl S.2.2; exact Nat.sub_le_sub_right s2 _) (hG.2 (Nat.le_trans hc2 hm))
    · intro en pc L st S2 he hr
      obtain ⟨e1, h1⟩ := am_ret (p := p) (l := l) (e := e) (below := below) (b := b) (c0 := S.2.2) (L := L) X he hr
      exact ⟨by rw [e1]; exact Nat.le_refl _, fun _ => h1⟩
