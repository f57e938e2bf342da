set_option maxRecDepth 100000 in
theorem am_wnew_all : (List.range 9).all (fun x => decide (Cond.instantiable (am_cn x) (am_nf x) ∈ lw_tbl) && decide (Cond.initialized (am_cn x) ∈ lw_tbl)) = true := by decide +kernel
set_option maxRecDepth 100000 in
theorem am_warr : Cond.arrayClass .int ∈ am_T ∧ Cond.arrayClass .byte ∈ am_T ∧ Cond.arrayClass .boolean ∈ am_T := ⟨am_inT (by decide +kernel) rfl, am_inT (by decide +kernel) rfl, am_inT (by decide +kernel) rfl⟩
section AMV
variable {p : Program} {l : Launch} {e : Env} {R : Room} {s : State} {m : MethodId} {args : Array Value} {below : List Frame} {meth : Method} {c : Code} {Q : State → Prop} {D : va_G} {cA : Nat → ClassId} {b j d c0 : Nat}
variable {pc : Nat} {L : List (Option Value)} {st : List Value} {S : am_S}
theorem am_s_aast {t : am_F} (X : am_X p R s m args meth c D cA j d) (hd : decode (am_b j) pc = .ok (.aastore, 1)) (ho : am_aast pc L st S = some t) (h : am_G p l e R s m args below meth c Q D cA b j c0 t) : am_G p l e R s m args below meth c Q D cA b j c0 (pc, L, st, S) := by
  unfold am_aast at ho
  split at ho
  · rename_i v i a r
    cases hO : am_isO v 5 S with
    | false => rw [hO] at ho; cases ho
    | true =>
      rw [hO] at ho
      have ho : (match am_len a 3 S with
        | some n => if i < 0 ∨ n ≤ i.toNatClampNeg then none else some (pc + 1, L, r, (S.1, am_u2 S.2.1 a i.toNatClampNeg (some v), S.2.2))
        | none => none) = some t := ho
      split at ho
      · rename_i n hn
        split at ho
        · cases ho
        · rename_i hi
          cases ho
          intro H locs ls hr hS hL
          have hK := X.2.2.2.2.2.2.2.1
          have hlt : i.toNatClampNeg < n := Nat.not_le.mp fun q => hi (Or.inr q)
          have h0 : ¬ i < 0 := fun q => hi (Or.inl q)
          obtain ⟨r', hr', cellV, g1, g2, g3, -⟩ := hr.2 v _ (am_ws_o hO)
          have hcls := (hK.1 5 _ (am_vw (by decide))).2
          obtain ⟨kA, comp, k1, k2, k3, -⟩ := (hK.2 3 _ rfl).2
          have hcomp : comp = D.1 5 := Option.some.inj (k3.symm.trans hcls.1)
          subst hcomp
          obtain ⟨kC, hkC, -⟩ := hcls.2
          refine W.aast X.1 X.2.1 (hr.2 a _ (am_ws_r hn)) (fun q h => by cases h) (fun h => by cases h) k1 k2 rfl hkC ⟨h0, by show _ < (arrV _ _ _).slots.size; rw [arrV_size]; exact hlt⟩ g1 (fun q h => by rw [g3] at h; cases h) (by rw [g2]; exact hkC) (by rw [g2]; exact va_assign hcls) rfl rfl hd fun H1 e1 e2 e3 => ?_
          have e4 : H1[b + a]? = some (vp_cell (cA 3) (n, .inr (.inr (.inr (.inr (fun q => (am_u2 S.2.1 a i.toNatClampNeg (some v) a q).map (b + ·))))))) := by
            rw [e1]
            show some ((arrV (cA 3) n (fun q => va_rf ((S.2.1 a q).map (b + ·)))).setSlot _ _) = some (arrV (cA 3) n (fun q => va_rf ((am_u2 S.2.1 a i.toNatClampNeg (some v) a q).map (b + ·))))
            rw [arrV_store]
            congr 2
            funext q
            by_cases hq : q = i.toNatClampNeg
            · subst hq; simp [updV, am_u2, va_rf]
            · simp [updV, am_u2, hq]
          have hP' := hr.2.set am_D (am_ws_r hn) (e := .inl (cA 3, n, .inr (.inr (.inr (.inr (fun q => (am_u2 S.2.1 a i.toNatClampNeg (some v) a q).map (b + ·))))))) e4 e3
          rw [am_ws_set (S := S) (S' := (S.1, am_u2 S.2.1 a i.toNatClampNeg (some v), S.2.2)) (a := a) rfl (fun k hk => ⟨rfl, am_u2_ne hk⟩) (by rw [(am_len_spec hn).2]; rfl)] at hP'
          exact h H1 _ ls ⟨fun q => by rw [e2]; exact hr.1 q, hP'⟩ (hS.put e2 e3 (Nat.le_add_right b a)) hL
      · cases ho
  · cases ho
theorem am_cnt {c c0 : Nat} (h : c0 ≤ c) : c + 1 - c0 = c - c0 + 1 ∧ am_sl (c + 1) - am_sl c0 = am_sl c - am_sl c0 + am_sz c := by
  have := am_sl_mono h
  refine ⟨by omega, ?_⟩
  show am_sl c + am_sz c - am_sl c0 = _
  omega
theorem am_wnew {x : Nat} (h : x < 9) : Cond.instantiable (am_cn x) (am_nf x) ∈ am_T ∧ Cond.initialized (am_cn x) ∈ am_T := by
  have h1 := List.all_eq_true.mp am_wnew_all x (List.mem_range.mpr h)
  have h2 := Bool.and_eq_true_iff.mp h1
  exact ⟨am_inT (of_decide_eq_true h2.1) rfl, am_inT (of_decide_eq_true h2.2) rfl⟩
/-- a new cell at the end: the world behind it -/
theorem am_rel_new {H H1 : Heap} {locs : List Loc} (hlt : S.2.2 < am_cT) (hr : am_rel D cA b S H) (hS : va_S (fun q => b ≤ q) s.heap H locs) (he : va_at D vwCl (b + S.2.2, am_cell cA b (am_sh S.2.2) (fun _ => 0) (fun _ => none)) H1) (z1 : H1.size = b + S.2.2 + 1) (o1 : ∀ q, q < b + S.2.2 → H1[q]? = H[q]?) :
    am_rel D cA b (am_new S) H1 ∧ va_S (fun q => b ≤ q) s.heap H1 locs := by
  have hsz := hr.1 hlt
  refine ⟨⟨fun _ => by rw [z1]; show b + S.2.2 + 1 = b + (S.2.2 + 1); omega, ?_⟩, by have := hS.1; omega, fun q h1 h2 => ?_, hS.2.2⟩
  · rw [am_ws_new]
    refine (hr.2.kept (fun k q hq => ?_)).app (fun k q hq => ?_)
    · obtain ⟨h1, rfl⟩ := am_ws_in hq
      exact o1 _ (by show b + k < _; omega)
    · have hz : k < 1 := (List.getElem?_eq_some_iff.mp hq).1
      rw [show k = 0 by omega] at hq
      cases hq
      exact he
  · rw [o1 q (by have := hS.1; omega)]
    exact hS.2.1 q h1 h2
theorem am_s_newo {k x : Nat} {t : am_F} (X : am_X p R s m args meth c D cA j d) (hd : decode (am_b j) pc = .ok (.new k, 3)) (hC : am_has4 am_CL (am_own j) k x = true) (ho : am_newo x 3 pc L st S = some t) (hc0 : c0 ≤ S.2.2) (hRc : t.2.2.2.2.2 - c0 ≤ R.cells) (hRs : am_sl t.2.2.2.2.2 - am_sl c0 ≤ R.slots) (h : am_G p l e R s m args below meth c Q D cA b j c0 t) : am_G p l e R s m args below meth c Q D cA b j c0 (pc, L, st, S) := by
  unfold am_newo at ho
  obtain ⟨hq, rfl⟩ := am_bif ho
  obtain ⟨hlt, hsh⟩ := Bool.and_eq_true_iff.mp hq
  have hlt := am_blt hlt
  obtain ⟨hx, hl⟩ := am_wCL hC
  have hsh : am_sh S.2.2 = some (.inr x) := by
    split at hsh
    · rename_i q hq; rw [hq, Nat.eq_of_beq_eq_true hsh]
    · cases hsh
  have hsz : am_sz S.2.2 = am_nf x := by unfold am_sz; rw [hsh]
  obtain ⟨n1, n2⟩ := am_cnt hc0
  rw [hsz] at n2
  have hRc : S.2.2 + 1 - c0 ≤ R.cells := hRc
  have hRs : am_sl (S.2.2 + 1) - am_sl c0 ≤ R.slots := hRs
  have k1 : S.2.2 - c0 + 1 ≤ R.cells := by omega
  have k2 : am_sl S.2.2 - am_sl c0 + am_nf x ≤ R.slots := by omega
  intro H locs ls hr hS hL
  obtain ⟨hex, hb, -, hown, hts, -, -, hK, -⟩ := X
  have hKn := hK.1 x _ (am_vw hx)
  refine W.newcK hex hb hown (hts _ hl) (hts _ (am_wnew hx).1) (hts _ (am_wnew hx).2) rfl hd k1 k2 hKn.2.1 (hr.1 hlt) fun H1 kC hkC e1 z1 o1 => ?_
  obtain ⟨g1, g2⟩ := am_rel_new hlt hr hS (by
    rw [hsh]
    refine ⟨_, am_vw hx, (u_born (am_ty x) hts (am_hin hx) hKn hkC e1 (am_tyok hx)).to (fun i hi => ?_)⟩
    show _ = vp_V (am_fl b x _ _) i
    unfold vp_V
    rw [List.getD_eq_getElem?_getD, am_fl_get hi, am_dft b (by rw [(am_kt hx hi).1]; exact (am_kt hx hi).2), (am_kt hx hi).1]
    rfl) z1 o1
  have h2 := h H1 locs ls g1 g2 hL
  rw [show (pc + 3, L, Value.ref S.2.2 :: st, am_new S).2.2.2.2.2 = S.2.2 + 1 from rfl, n1, n2] at h2
  exact h2
theorem am_isA_spec {a t n : Nat} (h : am_isA a t n = true) : am_sh a = some (.inl (t, n)) := by
  unfold am_isA at h
  split at h
  · rename_i t' n' hq
    obtain ⟨h1, h2⟩ := Bool.and_eq_true_iff.mp h
    rw [hq, Nat.eq_of_beq_eq_true h1, Nat.eq_of_beq_eq_true h2]
  · cases h
theorem am_s_newa {t0 : ArrayType} {x : Nat} {t : am_F} (X : am_X p R s m args meth c D cA j d) (hd : decode (am_b j) pc = .ok (.newarray t0, 2)) (hx : (t0 = .int ∧ x = 0) ∨ (t0 = .byte ∧ x = 1) ∨ (t0 = .boolean ∧ x = 2)) (ho : am_newa x 2 pc L st S = some t) (hc0 : c0 ≤ S.2.2) (hRc : t.2.2.2.2.2 - c0 ≤ R.cells) (hRs : am_sl t.2.2.2.2.2 - am_sl c0 ≤ R.slots) (h : am_G p l e R s m args below meth c Q D cA b j c0 t) : am_G p l e R s m args below meth c Q D cA b j c0 (pc, L, st, S) := by
  unfold am_newa at ho
  split at ho
  · rename_i n r
    split at ho
    · cases ho
    · rename_i hn
      obtain ⟨hq, rfl⟩ := am_bif ho
      obtain ⟨hlt, hq⟩ := Bool.and_eq_true_iff.mp hq
      obtain ⟨hA, hle⟩ := Bool.and_eq_true_iff.mp hq
      have hlt := am_blt hlt
      have hsh := am_isA_spec hA
      have hle := Nat.le_of_ble_eq_true hle
      have hsz : am_sz S.2.2 = n.toNatClampNeg := by unfold am_sz; rw [hsh]
      obtain ⟨n1, n2⟩ := am_cnt hc0
      rw [hsz] at n2
      have hRc : S.2.2 + 1 - c0 ≤ R.cells := hRc
      have hRs : am_sl (S.2.2 + 1) - am_sl c0 ≤ R.slots := hRs
      have k1 : S.2.2 - c0 + 1 ≤ R.cells := by omega
      have k2 : am_sl S.2.2 - am_sl c0 + n.toNatClampNeg ≤ R.slots := by omega
      intro H locs ls hr hS hL
      obtain ⟨hex, hb, -, hown, hts, -, -, hK, -⟩ := X
      rcases hx with ⟨rfl, rfl⟩ | ⟨rfl, rfl⟩ | ⟨rfl, rfl⟩
      · refine va_newaK (atype := .int) hex hb (hts _ am_warr.1) rfl hd rfl hn rfl (by show _ * 4 ≤ _; omega) k1 k2 (hr.1 hlt) fun H1 cA1 e1 z1 o1 _ hnm => ?_
        have ec : cA1 = cA 0 := Option.some.inj (hnm.symm.trans (hK.2 0 _ rfl).2)
        subst ec
        obtain ⟨g1, g2⟩ := am_rel_new hlt hr hS (by rw [hsh]; exact e1) z1 o1
        have h2 := h H1 locs ls g1 g2 hL
        rw [show (pc + 2, L, Value.ref S.2.2 :: r, am_new S).2.2.2.2.2 = S.2.2 + 1 from rfl, n1, n2] at h2
        exact h2
      · refine va_newaK (atype := .byte) hex hb (hts _ am_warr.2.1) rfl hd rfl hn rfl (by show _ * 1 ≤ _; omega) k1 k2 (hr.1 hlt) fun H1 cA1 e1 z1 o1 _ hnm => ?_
        have ec : cA1 = cA 1 := Option.some.inj (hnm.symm.trans (hK.2 1 _ rfl).2)
        subst ec
        obtain ⟨g1, g2⟩ := am_rel_new hlt hr hS (by rw [hsh]; exact e1) z1 o1
        have h2 := h H1 locs ls g1 g2 hL
        rw [show (pc + 2, L, Value.ref S.2.2 :: r, am_new S).2.2.2.2.2 = S.2.2 + 1 from rfl, n1, n2] at h2
        exact h2
      · refine va_newaK (atype := .boolean) hex hb (hts _ am_warr.2.2) rfl hd rfl hn rfl (by show _ * 1 ≤ _; omega) k1 k2 (hr.1 hlt) fun H1 cA1 e1 z1 o1 _ hnm => ?_
        have ec : cA1 = cA 2 := Option.some.inj (hnm.symm.trans (hK.2 2 _ rfl).2)
        subst ec
        obtain ⟨g1, g2⟩ := am_rel_new hlt hr hS (by rw [hsh]; exact e1) z1 o1
        have h2 := h H1 locs ls g1 g2 hL
        rw [show (pc + 2, L, Value.ref S.2.2 :: r, am_new S).2.2.2.2.2 = S.2.2 + 1 from rfl, n1, n2] at h2
        exact h2
  · cases ho
theorem am_s_anew {k : Nat} {t : am_F} (X : am_X p R s m args meth c D cA j d) (hd : decode (am_b j) pc = .ok (.anewarray k, 3)) (hC : am_has4 am_CL (am_own j) k 5 = true) (ho : am_newa 3 3 pc L st S = some t) (hc0 : c0 ≤ S.2.2) (hRc : t.2.2.2.2.2 - c0 ≤ R.cells) (hRs : am_sl t.2.2.2.2.2 - am_sl c0 ≤ R.slots) (h : am_G p l e R s m args below meth c Q D cA b j c0 t) : am_G p l e R s m args below meth c Q D cA b j c0 (pc, L, st, S) := by
  unfold am_newa at ho
  split at ho
  · rename_i n r
    split at ho
    · cases ho
    · rename_i hn
      obtain ⟨hq, rfl⟩ := am_bif ho
      obtain ⟨hlt, hq⟩ := Bool.and_eq_true_iff.mp hq
      obtain ⟨hA, hle⟩ := Bool.and_eq_true_iff.mp hq
      have hlt := am_blt hlt
      have hsh := am_isA_spec hA
      have hle := Nat.le_of_ble_eq_true hle
      have hsz : am_sz S.2.2 = n.toNatClampNeg := by unfold am_sz; rw [hsh]
      obtain ⟨n1, n2⟩ := am_cnt hc0
      rw [hsz] at n2
      have hRc : S.2.2 + 1 - c0 ≤ R.cells := hRc
      have hRs : am_sl (S.2.2 + 1) - am_sl c0 ≤ R.slots := hRs
      have k1 : S.2.2 - c0 + 1 ≤ R.cells := by omega
      have k2 : am_sl S.2.2 - am_sl c0 + n.toNatClampNeg ≤ R.slots := by omega
      intro H locs ls hr hS hL
      obtain ⟨hex, hb, -, hown, hts, -, -, hK, hN, -⟩ := X
      refine W.anew hex hb hown (hts _ (am_wCL hC).2) (va_AO.use hN.2) rfl hd rfl hn (by omega) k1 k2 fun cA1 kA comp hnm _ _ _ => ?_
      obtain ⟨_, _, _, _, _, h4⟩ := (hK.2 3 _ rfl).2
      have ec : cA1 = cA 3 := Option.some.inj (hnm.symm.trans h4)
      subst ec
      have hz : H.size = b + S.2.2 := hr.1 hlt
      obtain ⟨g1, g2⟩ := am_rel_new (H1 := H.push { cls := cA 3, slots := Array.replicate n.toNatClampNeg .null, vm := .none }) hlt hr hS (by rw [hsh]; show (Array.push _ _)[_]? = some (arrV (cA 3) n.toNatClampNeg (fun _ => Value.null)); rw [← arrV_new, ← hz]; simp) (by rw [Array.size_push, hz]) (fun q hq => by rw [Array.getElem?_push, if_neg (by omega)])
      have h2 := h _ locs ls g1 g2 hL
      rw [show (pc + 3, L, Value.ref S.2.2 :: r, am_new S).2.2.2.2.2 = S.2.2 + 1 from rfl, n1, n2] at h2
      rw [hz]
      exact h2
  · cases ho
end AMV
