theorem am_sw_look {pc : Nat} : ∀ (ps : List (Int × Int)) (cs : List (Int32 × Nat)) (d : Nat) (dI : Int) (v : Int32), am_okL pc ps cs = true → (pc : Int) + dI = (d : Int) → (pc : Int) + Op.lookupswitch.offset ps dI v.toInt = (am_sw cs d v : Int)
  | [], [], d, dI, v, _, hd => hd
  | [], _ :: _, _, _, _, h, _ => by cases h
  | _ :: _, [], _, _, _, h, _ => by cases h
  | (a, o) :: ps, (k, t) :: cs, d, dI, v, h, hd => by
    have h : (decide (k.toInt = a) && decide ((pc : Int) + o = (t : Int)) && am_okL pc ps cs) = true := h
    obtain ⟨h1, h3⟩ := Bool.and_eq_true_iff.mp h
    obtain ⟨h1, h2⟩ := Bool.and_eq_true_iff.mp h1
    have h1 := of_decide_eq_true h1
    have h2 := of_decide_eq_true h2
    show _ = ((if v = k then t else am_sw cs d v : Nat) : Int)
    by_cases q : v = k
    · subst q
      rw [if_pos rfl]
      have : Op.lookupswitch.offset ((a, o) :: ps) dI v.toInt = o := by simp [Op.lookupswitch.offset, h1]
      rw [this]; exact h2
    · rw [if_neg q, lv_osw q h1]
      exact am_sw_look ps cs d dI v h3 hd
theorem am_sw_tab {pc : Nat} : ∀ (os : List Int) (cs : List (Int32 × Nat)) (lo : Int) (d : Nat) (v : Int32), am_okT pc lo os cs = true → (¬ v.toInt < lo → v.toInt < lo + os.length → ∃ o, os[(v.toInt - lo).toNat]? = some o ∧ (pc : Int) + o = (am_sw cs d v : Int)) ∧ ((v.toInt < lo ∨ lo + os.length ≤ v.toInt) → am_sw cs d v = d)
  | [], [], lo, d, v, _ => ⟨fun h1 h2 => absurd h2 (by simp; omega), fun _ => rfl⟩
  | [], _ :: _, _, _, _, h => by cases h
  | _ :: _, [], _, _, _, h => by cases h
  | o :: os, (k, t) :: cs, lo, d, v, h => by
    have h : (decide (k.toInt = lo) && decide ((pc : Int) + o = (t : Int)) && am_okT pc (lo + 1) os cs) = true := h
    obtain ⟨h1, h3⟩ := Bool.and_eq_true_iff.mp h
    obtain ⟨h1, h2⟩ := Bool.and_eq_true_iff.mp h1
    have h1 := of_decide_eq_true h1
    have h2 := of_decide_eq_true h2
    obtain ⟨g1, g2⟩ := am_sw_tab os cs (lo + 1) d v h3
    have hs : am_sw ((k, t) :: cs) d v = if v = k then t else am_sw cs d v := rfl
    rw [hs]
    simp only [List.length_cons]
    refine ⟨fun a1 a2 => ?_, fun a => ?_⟩
    · by_cases q : v = k
      · subst q
        rw [if_pos rfl, h1]
        exact ⟨o, by simp, h2⟩
      · have hne : v.toInt ≠ lo := fun z => q (Int32.toInt_inj.mp (z.trans h1.symm))
        rw [if_neg q]
        obtain ⟨o', e1, e2⟩ := g1 (by omega) (by omega)
        refine ⟨o', ?_, e2⟩
        rw [show (v.toInt - lo).toNat = (v.toInt - (lo + 1)).toNat + 1 by omega, List.getElem?_cons_succ]
        exact e1
    · rw [if_neg (fun z => by subst z; omega)]
      exact g2 (by omega)
theorem am_cats {b : Nat} : ∀ (r : List Value), r.all am_c1 = true → ((r.map (am_cv b)).map fun v => v.category).sum = r.length
  | [], _ => rfl
  | v :: r, h => by
    have h : (am_c1 v && r.all am_c1) = true := h
    obtain ⟨h1, h2⟩ := Bool.and_eq_true_iff.mp h
    show (am_cv b v).category + _ = r.length + 1
    have e := am_cats (b := b) r h2
    rw [am_cat h1]
    show 1 + ((r.map (am_cv b)).map fun v => v.category).sum = _
    omega
set_option maxRecDepth 100000 in
theorem am_wcopy : Cond.native arraycopyName ∈ am_T ∧ Cond.static arraycopyName ∈ am_T ∧ Cond.initialized "java/lang/System" ∈ am_T := ⟨am_inT (by decide +kernel) rfl, am_inT (by decide +kernel) rfl, am_inT (by decide +kernel) rfl⟩
set_option maxRecDepth 100000 in
theorem am_wmin : Cond.static Lib.Math.min.name ∈ am_T ∧ Cond.initialized "java/lang/Math" ∈ am_T ∧ Cond.code Lib.Math.min.name Lib.Math.min.code 2 (some .int) ∈ am_T := ⟨am_inT (by decide +kernel) rfl, am_inT (by decide +kernel) rfl, am_inT (List.mem_of_getElem? (i := 609) rfl) rfl⟩
set_option maxRecDepth 100000 in
theorem am_woin : Cond.instanceMethod objectInit ∈ am_T ∧ Cond.code objectInit ⟨#[0xb1]⟩ 1 none ∈ am_T := ⟨am_inT (by decide +kernel) rfl, am_inT (List.mem_of_getElem? (i := 88) rfl) rfl⟩
section AMW
variable {p : Program} {l : Launch} {e : Env} {R : Room} {s : State} {m : MethodId} {args : Array Value} {below : List Frame} {meth : Method} {c : Code} {Q : State → Prop} {D : va_G} {cA : Nat → ClassId} {b j d c0 : Nat}
variable {pc : Nat} {L : List (Option Value)} {st : List Value} {S : am_S}
theorem am_s_look {dI : Int} {ps : Array (Int × Int)} {x len : Nat} {cs : List (Int32 × Nat)} {t : am_F} (X : am_X p R s m args meth c D cA j d) (hd : decode (am_b j) pc = .ok (.lookupswitch dI ps, len)) (h1 : (pc : Int) + dI = (x : Int)) (h2 : am_okL pc ps.toList cs = true) (h3 : (ps.toList.zip (ps.toList.drop 1)).all (fun (a, next) => a.1 < next.1) = true) (ho : am_swi cs x L st S = some t) (h : am_G p l e R s m args below meth c Q D cA b j c0 t) : am_G p l e R s m args below meth c Q D cA b j c0 (pc, L, st, S) := by
  unfold am_swi at ho
  split at ho
  · rename_i a r
    cases ho
    exact fun H locs ls hr hS hL => lv_lookup X.1 X.2.1 hd h3 rfl (am_sw_look _ _ _ _ a h2 h1) (h H locs ls hr hS hL)
  · cases ho
theorem am_s_tab {dI lo hi : Int} {os : Array Int} {x len : Nat} {cs : List (Int32 × Nat)} {t : am_F} (X : am_X p R s m args meth c D cA j d) (hd : decode (am_b j) pc = .ok (.tableswitch dI lo hi os, len)) (h1 : (pc : Int) + dI = (x : Int)) (h2 : am_okT pc lo os.toList cs = true) (h3 : hi + 1 = lo + os.toList.length) (ho : am_swi cs x L st S = some t) (h : am_G p l e R s m args below meth c Q D cA b j c0 t) : am_G p l e R s m args below meth c Q D cA b j c0 (pc, L, st, S) := by
  unfold am_swi at ho
  split at ho
  · rename_i a r
    cases ho
    intro H locs ls hr hS hL
    obtain ⟨g1, g2⟩ := am_sw_tab os.toList cs lo x a h2
    by_cases q : a.toInt < lo ∨ hi < a.toInt
    · have e := g2 (by omega)
      refine lv_tableOut X.1 X.2.1 hd q h1 ?_
      have h5 := h H locs ls hr hS hL
      rw [show (am_sw cs x a, L, r, S).1 = x from e] at h5
      exact h5
    · obtain ⟨o, e1, e2⟩ := g1 (by omega) (by omega)
      exact lv_tableIn X.1 X.2.1 hd (by omega) (by omega) (by rw [← Array.getElem?_toList]; exact e1) e2 (h H locs ls hr hS hL)
  · cases ho
theorem am_s_oin {k : Nat} {t : am_F} (X : am_X p R s m args meth c D cA j d) (hd : decode (am_b j) pc = .ok (.invokespecial k, 3)) (hO : am_has3 am_OL (am_own j) k = true) (ho : am_oin pc L st S = some t) (h : am_G p l e R s m args below meth c Q D cA b j c0 t) : am_G p l e R s m args below meth c Q D cA b j c0 (pc, L, st, S) := by
  unfold am_oin at ho
  split at ho
  · rename_i a r
    obtain ⟨hq, rfl⟩ := am_bif ho
    obtain ⟨q1, q2⟩ := Bool.and_eq_true_iff.mp hq
    have q1 := Nat.le_of_ble_eq_true q1
    intro H locs ls hr hS hL
    obtain ⟨hex, hb, hmx, hown, hts, -, -, -, -, -, hfr, hlo, -⟩ := X
    obtain ⟨lv, g1, g2, g3⟩ := id hL
    exact W.objInit hex hb hown (hts _ (am_wOL hO)) (hts _ am_woin.1) (hts _ am_woin.2) rfl (by rw [hmx]; exact g1.1) rfl hd (by omega) (by
      rw [hlo]
      show 2 * 0 + ((r.map (am_cv b)).map fun v => v.category).sum + 12 ≤ _
      rw [am_cats r q2]
      omega) (h H locs ls hr hS hL)
  · cases ho
theorem am_s_min {k : Nat} {t : am_F} (X : am_X p R s m args meth c D cA j d) (hc0 : S.2.2 - c0 ≤ R.cells) (hs0 : am_sl S.2.2 - am_sl c0 ≤ R.slots) (hd : decode (am_b j) pc = .ok (.invokestatic k, 3)) (hO : am_has3 am_MI (am_own j) k = true) (ho : am_min pc L st S = some t) (h : am_G p l e R s m args below meth c Q D cA b j c0 t) : am_G p l e R s m args below meth c Q D cA b j c0 (pc, L, st, S) := by
  unfold am_min at ho
  split at ho
  · rename_i y x r
    obtain ⟨hq, rfl⟩ := am_bif ho
    obtain ⟨q1, q2⟩ := Bool.and_eq_true_iff.mp hq
    have q1 := Nat.le_of_ble_eq_true q1
    intro H locs ls hr hS hL
    obtain ⟨hex, hb, hmx, hown, hts, -, -, -, -, -, hfr, hlo, -⟩ := X
    obtain ⟨lv, g1, g2, g3⟩ := id hL
    exact va_mmin hex hb (by rw [hmx]; exact g1.1.symm) hown (hts _ (am_wMI hO)) (hts _ am_wmin.1) (hts _ am_wmin.2.1) (hts _ am_wmin.2.2) (by omega) (by
      rw [hlo, am_cats r q2]
      omega) hc0 hs0 hd (h H locs ls hr hS hL)
  · cases ho
theorem am_s_copy {k : Nat} {t : am_F} (X : am_X p R s m args meth c D cA j d) (hd : decode (am_b j) pc = .ok (.invokestatic k, 3)) (hO : am_has3 am_AC (am_own j) k = true) (ho : am_copy pc L st S = some t) (h : am_G p l e R s m args below meth c Q D cA b j c0 t) : am_G p l e R s m args below meth c Q D cA b j c0 (pc, L, st, S) := by
  unfold am_copy at ho
  split at ho
  · rename_i n dp a sp a0 r
    split at ho
    · rename_i n0 n1 e0 e1
      split at ho
      · cases ho
      · rename_i hq
        cases ho
        simp only [not_or] at hq
        obtain ⟨q1, q2, q3, q4, q5, q6, q7⟩ := hq
        have q7 : r = [] := Classical.not_not.mp q7
        subst q7
        intro H locs ls hr hS hL
        obtain ⟨hex, hb, hmx, hown, hts, -, -, hK, -, -, hfr, hlo, -⟩ := X
        obtain ⟨lv, g1, g2, g3⟩ := id hL
        refine va_copyi hex hb (by rw [hmx]; exact g1.1.symm) hown (hts _ (am_wAC hO)) (hts _ am_wcopy.1) (hts _ am_wcopy.2.1) (hts _ am_wcopy.2.2) hK hr.2 am_D hS a0 a 0 0 (am_ws_a (by decide) e0) (am_ws_a (by decide) e1) rfl rfl rfl q1 q2 q3 (by omega) (by omega) (fun _ _ => rfl) (by omega) (by
          rw [hlo]
          exact Nat.le_trans (show 0 + (nativeFrameWords "java/lang/System" "arraycopy" 5 + 11) ≤ 64 by decide) (by omega)) hd fun H1 locs1 hP1 hD1 hS1 => ?_
        rw [am_ws_set (S := S) (S' := (am_u1 S.1 a (va_cpy (S.1 a0) (S.1 a) sp.toNatClampNeg dp.toNatClampNeg n.toNatClampNeg), S.2.1, S.2.2)) (a := a) rfl (fun k hk => ⟨by show am_u1 _ _ _ _ = _; unfold am_u1; rw [if_neg hk], rfl⟩) (by
          rw [(am_len_spec e1).2]
          show _ = Sum.inl (cA 0, n1, Sum.inl (am_u1 S.1 a _ a))
          unfold am_u1
          rw [if_pos rfl])] at hP1
        exact h H1 locs1 ls ⟨fun z => absurd z q6, hP1⟩ hS1 hL
    · cases ho
  · cases ho
end AMW
