section AMU
variable {p : Program} {l : Launch} {e : Env} {R : Room} {s : State} {m : MethodId} {args : Array Value} {below : List Frame} {meth : Method} {c : Code} {Q : State → Prop} {D : va_G} {cA : Nat → ClassId} {b j d c0 : Nat}
variable {pc : Nat} {L : List (Option Value)} {st : List Value} {S : am_S}
theorem am_u2_ne {α : Type} {f : Nat → Nat → α} {a i k : Nat} {v : α} (h : k ≠ a) : am_u2 f a i v k = f k := by
  funext i'
  unfold am_u2
  rw [if_neg (fun q => h q.1)]
theorem am_u2_upd {f : Nat → Nat → Int32} {a i : Nat} {v : Int32} : am_u2 f a i v a = upd (f a) i v := by
  funext i'
  unfold am_u2 upd
  by_cases q : i' = i
  · rw [if_pos ⟨rfl, q⟩, if_pos q]
  · rw [if_neg (fun z => q z.2), if_neg q]
theorem am_u2_up {f : Nat → Nat → Option Nat} {a i : Nat} {v : Option Nat} : am_u2 f a i v a = va_up (f a) i v := by
  funext i'
  unfold am_u2 va_up
  by_cases q : i' = i
  · rw [if_pos ⟨rfl, q⟩, if_pos q]
  · rw [if_neg (fun z => q z.2), if_neg q]
theorem am_put_oth {a y k : Nat} {w : Value} (h : k ≠ a) : (am_put S a y w).1 k = S.1 k ∧ (am_put S a y w).2.1 k = S.2.1 k := by
  cases w <;> first | exact ⟨am_u2_ne h, rfl⟩ | exact ⟨rfl, am_u2_ne h⟩
theorem am_put_c {a y : Nat} {w : Value} : (am_put S a y w).2.2 = S.2.2 := by cases w <;> rfl
theorem am_fl_put {a x y : Nat} {w : Value} (hk : am_okv (am_fk x y) w = true) (hy : y < am_nf x) : (am_fl b x (S.1 a) (S.2.1 a)).set y (am_cv b w) = am_fl b x ((am_put S a y w).1 a) ((am_put S a y w).2.1 a) := by
  have hlen : ∀ (f : Nat → Int32) (g : Nat → Option Nat), (am_fl b x f g).length = am_nf x := fun f g => by unfold am_fl; rw [List.length_map, List.length_range]
  apply List.ext_getElem?
  intro k
  rw [List.getElem?_set]
  by_cases h : k < am_nf x
  · rw [am_fl_get h, am_fl_get h]
    by_cases q : y = k
    · subst q
      rw [if_pos rfl, if_pos (by rw [hlen]; exact hy)]
      congr 2
      cases w with
      | int n =>
        have h2 : Nat.beq (am_fk x y) 2 = false := by
          cases z : Nat.beq (am_fk x y) 2 with
          | false => rfl
          | true =>
            rw [Nat.eq_of_beq_eq_true z] at hk
            cases hk
        unfold am_fv
        rw [h2]
        show Value.int n = Value.int (am_u2 S.1 a y n a y)
        unfold am_u2
        rw [if_pos ⟨rfl, rfl⟩]
      | ref t =>
        have h2 : Nat.beq (am_fk x y) 2 = true := hk
        unfold am_fv
        rw [h2]
        show Value.ref t = va_rf (am_u2 S.2.1 a y (some t) a y)
        unfold am_u2
        rw [if_pos ⟨rfl, rfl⟩]
        rfl
      | null =>
        have h2 : Nat.beq (am_fk x y) 2 = true := hk
        unfold am_fv
        rw [h2]
        show Value.null = va_rf (am_u2 S.2.1 a y none a y)
        unfold am_u2
        rw [if_pos ⟨rfl, rfl⟩]
        rfl
      | _ => cases hk
    · rw [if_neg q]
      have e : (am_put S a y w).1 a k = S.1 a k ∧ (am_put S a y w).2.1 a k = S.2.1 a k := by
        cases w <;> (constructor <;> first | rfl | (show am_u2 _ _ _ _ _ _ = _; unfold am_u2; rw [if_neg (fun z => q z.2.symm)]))
      rw [e.1, e.2]
  · rw [List.getElem?_eq_none (by rw [hlen]; omega), List.getElem?_eq_none (by rw [hlen]; omega)]
    by_cases q : y = k
    · exact absurd (q ▸ hy) h
    · rw [if_neg q]
theorem am_s_putf {k x y : Nat} {t : am_F} (X : am_X p R s m args meth c D cA j d) (hd : decode (am_b j) pc = .ok (.putfield k, 3)) (hF : am_hasF (am_own j) k x y = true) (hfin : (am_TX x y).2.2.2 = false ∨ ((am_TX x y).2.2.2 = true ∧ am_mk j = 2 ∧ (am_TX x y).1 = am_cn (am_own j))) (ho : am_putf x y 3 pc L st S = some t) (h : am_G p l e R s m args below meth c Q D cA b j c0 t) : am_G p l e R s m args below meth c Q D cA b j c0 (pc, L, st, S) := by
  unfold am_putf at ho
  split at ho
  · rename_i w a r
    obtain ⟨hq, rfl⟩ := am_bif ho
    obtain ⟨hO, hkv⟩ := Bool.and_eq_true_iff.mp hq
    obtain ⟨hx, hy, hl⟩ := am_wFL hF
    obtain ⟨hex, hb, -, hown, hts, -, -, hK, -, hini, -⟩ := X
    intro H locs ls hr hS hL
    have hc := am_vw hx
    have hin := am_hin hx
    have hap := va_apart (own := am_cn (am_own j)) hts hin (am_ty x) (am_tyok hx) (am_nmok hx) hK hc
    obtain ⟨r0, h1, cell, q1, q2, q3, q4⟩ := hr.2 a _ (am_ws_o hO)
    have hr0 : r0 = (am_cn x, am_TX x, am_nf x) := Option.some.inj (h1.symm.trans hc)
    subst hr0
    obtain ⟨hSl, hfc, kC, hkC, hkind⟩ := hK.1 x _ hc
    obtain ⟨cf, kf, fi, f, hi, hsl⟩ := hSl y hy
    have hst := (u_facts hfc hkC (u_lays hts hin hy) hi).1
    have hft : narrow (am_ty x y) (am_cv b w) = am_cv b w ∧ fits (am_ty x y) (am_cv b w) = true := am_fit (by rw [(am_kt hx hy).1]; exact am_okv_cv hkv)
    have hlen : y < (am_fl b x (S.1 a) (S.2.1 a)).length := by unfold am_fl; rw [List.length_map, List.length_range]; exact hy
    have key : ∀ H' : Heap, H'[b + a]? = some (cell.setSlot f.slot (am_cv b w)) → H'.size = H.size → (∀ q, q ≠ b + a → H'[q]? = H[q]?) → W p l e R s m args below meth c H' (locs ++ [⟨b + a, f.slot⟩]) (S.2.2 - c0) (am_sl S.2.2 - am_sl c0) Q (F0 m (pc + 3) ls (r.map (am_cv b))) := by
      intro H' e1 e2 e3
      rw [hsl] at e1
      have hP' := hr.2.set am_D (am_ws_o hO) (e := .inr (x, (am_fl b x (S.1 a) (S.2.1 a)).set y (am_cv b w))) ⟨_, hc, t_OB.to (V := updV (vp_V (am_fl b x (S.1 a) (S.2.1 a))) y (am_cv b w)) ⟨_, e1, q2, q3, t_set q4 hap hy _⟩ (fun i _ => vp_updV_set hlen _ i)⟩ e3
      rw [am_ws_set (S' := am_put S a y w) am_put_c (fun k hk => am_put_oth hk) (by rw [(am_isO_spec hO).2, am_fl_put hkv hy]; rfl)] at hP'
      have h2 := h H' (locs ++ [⟨b + a, f.slot⟩]) ls ⟨fun z => by rw [e2]; rw [show (am_put S a y w).2.2 = S.2.2 from am_put_c] at z ⊢; exact hr.1 z, hP'⟩ (hS.put e2 e3 (Nat.le_add_right b a)) hL
      rw [show (pc + 3, L, r, am_put S a y w).2.2.2.2.2 = S.2.2 from am_put_c] at h2
      exact h2
    have hl' : (Cond.fieldLink (am_cn (am_own j)) k (am_TX x y).1 (am_TX x y).2.1 (am_TX x y).2.2.1).before args s = true := hts _ hl
    have hlay := hts _ (hin _ (u_in_lay hy))
    unfold u_lay at hlay
    rcases hfin with hfin | ⟨hfin, hm, hdecl⟩
    · rw [if_neg (by rw [hfin]; decide)] at hlay
      have h6 := u_store hfc hkC hkind hlay hi (am_tyok hx y hy) hft.1 hft.2
      exact W.putK hex hb (f := f) ⟨hown, hl', ⟨_, _, _, hi⟩, hst⟩ (by rw [q2]; exact h6) q1 q3 (by rw [hsl]; exact k2_hasslot (q4 y hy)) rfl rfl hd key
    · rw [if_pos hfin] at hlay
      have hcf : m.cls = cf := by
        obtain ⟨_, _, c', _, _, _, -, -, hf', -, -, -, hown2, -⟩ := Cond.laysFinal_spec hlay
        have e1 : c' = cf := by have := hi.symm.trans hf'; simp at this; exact this.1.symm
        rw [hdecl] at hown2
        rw [← e1]; exact Option.some.inj (hown.symm.trans hown2)
      have h6 := u_fits hfc hkC hkind (Or.inr hlay) hi (am_tyok hx y hy) hft.1 hft.2
      exact W.putFinK hex hb hown hl' hi hst hcf (hini hm) (by rw [q2]; exact h6) q1 q3 (by rw [hsl]; exact k2_hasslot (q4 y hy)) rfl rfl hd key
  · cases ho
theorem am_ws_a {a t n : Nat} (ht : t ≠ 3) (h : am_len a t S = some n) : (am_ws cA b S)[a]? = some (b + a, .inl (cA t, n, .inl (S.1 a))) := by
  obtain ⟨h1, h2⟩ := am_len_spec h
  rw [am_ws_get h1, h2]
  show some (b + a, bif Nat.beq t 3 then _ else _) = _
  rw [show Nat.beq t 3 = false from by cases z : Nat.beq t 3 with | false => rfl | true => exact absurd (Nat.eq_of_beq_eq_true z) ht]
  rfl
theorem am_ws_r {a n : Nat} (h : am_len a 3 S = some n) : (am_ws cA b S)[a]? = some (b + a, .inl (cA 3, n, .inr (.inr (.inr (.inr (fun i => (S.2.1 a i).map (b + ·))))))) := by
  obtain ⟨h1, h2⟩ := am_len_spec h
  rw [am_ws_get h1, h2]
  rfl
theorem am_cv_rf {o : Option Nat} : am_cv b (va_rf o) = va_rf (o.map (b + ·)) := by cases o <;> rfl
theorem am_s_iald {t : am_F} (X : am_X p R s m args meth c D cA j d) (hd : decode (am_b j) pc = .ok (.iaload, 1)) (ho : am_iald pc L st S = some t) (h : am_G p l e R s m args below meth c Q D cA b j c0 t) : am_G p l e R s m args below meth c Q D cA b j c0 (pc, L, st, S) := by
  unfold am_iald at ho
  split at ho
  · rename_i i a r
    split at ho
    · rename_i n hn
      split at ho
      · cases ho
      · rename_i hi
        cases ho
        exact fun H locs ls hr hS hL => va_iald X.1 X.2.1 X.2.2.2.2.2.2.2.1 hr.2 a 0 (am_ws_a (by decide) hn) rfl hi hd (h H locs ls hr hS hL)
    · cases ho
  · cases ho
theorem am_s_bald {t : am_F} (X : am_X p R s m args meth c D cA j d) (hd : decode (am_b j) pc = .ok (.baload, 1)) (ho : am_bald pc L st S = some t) (h : am_G p l e R s m args below meth c Q D cA b j c0 t) : am_G p l e R s m args below meth c Q D cA b j c0 (pc, L, st, S) := by
  unfold am_bald at ho
  split at ho
  · rename_i i a r
    split at ho
    · rename_i n hn
      split at ho
      · cases ho
      · rename_i hi
        cases ho
        exact fun H locs ls hr hS hL => va_bald X.1 X.2.1 X.2.2.2.2.2.2.2.1 hr.2 a 1 (am_ws_a (by decide) hn) rfl hi hd (h H locs ls hr hS hL)
    · split at ho
      · rename_i n hn
        split at ho
        · cases ho
        · rename_i hi
          cases ho
          exact fun H locs ls hr hS hL => va_zald X.1 X.2.1 X.2.2.2.2.2.2.2.1 hr.2 a 2 (am_ws_a (by decide) hn) rfl hi hd (h H locs ls hr hS hL)
      · cases ho
  · cases ho
theorem am_s_aald {t : am_F} (X : am_X p R s m args meth c D cA j d) (hd : decode (am_b j) pc = .ok (.aaload, 1)) (ho : am_aald pc L st S = some t) (h : am_G p l e R s m args below meth c Q D cA b j c0 t) : am_G p l e R s m args below meth c Q D cA b j c0 (pc, L, st, S) := by
  unfold am_aald at ho
  split at ho
  · rename_i i a r
    split at ho
    · rename_i n hn
      split at ho
      · cases ho
      · rename_i hi
        cases ho
        intro H locs ls hr hS hL
        refine va_aldq (C := RX5) X.1 X.2.1 X.2.2.2.2.2.2.2.1 hr.2 a 3 (am_ws_r hn) rfl hi hd ?_
        rw [← am_cv_rf]
        exact h H locs ls hr hS hL
    · cases ho
  · cases ho
theorem am_s_len {t : am_F} (X : am_X p R s m args meth c D cA j d) (hd : decode (am_b j) pc = .ok (.arraylength, 1)) (ho : am_len1 pc L st S = some t) (h : am_G p l e R s m args below meth c Q D cA b j c0 t) : am_G p l e R s m args below meth c Q D cA b j c0 (pc, L, st, S) := by
  unfold am_len1 at ho
  split at ho
  · rename_i a r
    split at ho
    · rename_i n hn
      cases ho
      intro H locs ls hr hS hL
      obtain ⟨h1, k, hk, h2⟩ := am_alen_spec hn
      have hw := am_ws_get (cA := cA) (b := b) h1
      rw [h2] at hw
      match k, hk, hw with
      | 0, _, hw => exact va_alen X.1 X.2.1 X.2.2.2.2.2.2.2.1 hr.2 a 0 hw rfl rfl hd (h H locs ls hr hS hL)
      | 1, _, hw => exact va_alen X.1 X.2.1 X.2.2.2.2.2.2.2.1 hr.2 a 1 hw rfl rfl hd (h H locs ls hr hS hL)
      | 2, _, hw => exact va_alen X.1 X.2.1 X.2.2.2.2.2.2.2.1 hr.2 a 2 hw rfl rfl hd (h H locs ls hr hS hL)
      | 3, _, hw => exact va_alen X.1 X.2.1 X.2.2.2.2.2.2.2.1 hr.2 a 3 hw rfl rfl hd (h H locs ls hr hS hL)
      | n + 4, hk, _ => exact absurd hk (by omega)
    · cases ho
  · cases ho
theorem am_st_i {cI : ClassId} {n k : Nat} {f : Nat → Int32} {x : Int32} : (vp_cell cI (n, .inl f)).setSlot k (.int x) = vp_cell cI (n, .inl (upd f k x)) := by
  rw [vp_cell_i, vp_cell_i, arrV_store]
  congr 1
  funext q
  by_cases hq : q = k
  · subst hq; simp [updV, upd]
  · simp [updV, upd, hq]
/-- a store into a row of ints: the world behind it -/
theorem am_sti {H H1 : Heap} {locs : List Loc} {a t n k : Nat} {x : Int32} {z : Nat} (ht : t ≠ 3) (hr : am_rel D cA b S H) (hS : va_S (fun q => b ≤ q) s.heap H locs) (hn : am_len a t S = some n) (e1 : H1[b + a]? = some ((vp_cell (cA t) (n, .inl (S.1 a))).setSlot k (.int x))) (e2 : H1.size = H.size) (e3 : ∀ q, q ≠ b + a → H1[q]? = H[q]?) :
    am_rel D cA b (am_u2 S.1 a k x, S.2.1, S.2.2) H1 ∧ va_S (fun q => b ≤ q) s.heap H1 (locs ++ [⟨b + a, z⟩]) := by
  refine ⟨⟨fun q => by rw [e2]; exact hr.1 q, ?_⟩, hS.put e2 e3 (Nat.le_add_right b a)⟩
  rw [am_st_i] at e1
  have hP' := hr.2.set am_D (am_ws_a ht hn) (e := .inl (cA t, n, .inl (upd (S.1 a) k x))) e1 e3
  rw [am_ws_set (S := S) (S' := (am_u2 S.1 a k x, S.2.1, S.2.2)) (a := a) rfl (fun k hk => ⟨am_u2_ne hk, rfl⟩) ?_] at hP'
  · exact hP'
  · show _ = am_cell cA b (am_sh a) (am_u2 S.1 a k x a) (S.2.1 a)
    rw [(am_len_spec hn).2, am_u2_upd]
    show _ = (bif Nat.beq t 3 then _ else _)
    rw [show Nat.beq t 3 = false from by cases z : Nat.beq t 3 with | false => rfl | true => exact absurd (Nat.eq_of_beq_eq_true z) ht]
    rfl
theorem am_s_iast {t : am_F} (X : am_X p R s m args meth c D cA j d) (hd : decode (am_b j) pc = .ok (.iastore, 1)) (ho : am_iast pc L st S = some t) (h : am_G p l e R s m args below meth c Q D cA b j c0 t) : am_G p l e R s m args below meth c Q D cA b j c0 (pc, L, st, S) := by
  unfold am_iast at ho
  split at ho
  · rename_i v i a r
    split at ho
    · rename_i n hn
      split at ho
      · cases ho
      · rename_i hi
        cases ho
        intro H locs ls hr hS hL
        refine W.iast X.1 X.2.1 (hr.2 a _ (am_ws_a (by decide) hn)) ((X.2.2.2.2.2.2.2.1.2 0 _ rfl).1 n (fun k => .int (S.1 a k))) (fun q => by cases q) (by show ¬ (i < 0 ∨ (arrV _ _ _).slots.size ≤ _); rw [arrV_size]; exact hi) rfl rfl hd fun H1 e1 e2 e3 => ?_
        obtain ⟨g1, g2⟩ := am_sti (by decide) hr hS hn e1 e2 e3
        exact h H1 _ ls g1 g2 hL
    · cases ho
  · cases ho
theorem am_s_bast {t : am_F} (X : am_X p R s m args meth c D cA j d) (hd : decode (am_b j) pc = .ok (.bastore, 1)) (ho : am_bast pc L st S = some t) (h : am_G p l e R s m args below meth c Q D cA b j c0 t) : am_G p l e R s m args below meth c Q D cA b j c0 (pc, L, st, S) := by
  unfold am_bast at ho
  split at ho
  · rename_i v i a r
    split at ho
    · rename_i n hn
      split at ho
      · cases ho
      · rename_i hi
        cases ho
        intro H locs ls hr hS hL
        refine W.bast X.1 X.2.1 (hr.2 a _ (am_ws_a (by decide) hn)) ((X.2.2.2.2.2.2.2.1.2 1 _ rfl).1 n (fun k => .int (S.1 a k))) (fun q => by cases q) (by show ¬ (i < 0 ∨ (arrV _ _ _).slots.size ≤ _); rw [arrV_size]; exact hi) rfl rfl hd fun H1 e1 e2 e3 => ?_
        obtain ⟨g1, g2⟩ := am_sti (by decide) hr hS hn e1 e2 e3
        exact h H1 _ ls g1 g2 hL
    · split at ho
      · rename_i n hn
        split at ho
        · cases ho
        · rename_i hi
          cases ho
          intro H locs ls hr hS hL
          refine W.zast X.1 X.2.1 (hr.2 a _ (am_ws_a (by decide) hn)) ((X.2.2.2.2.2.2.2.1.2 2 _ rfl).1 n (fun k => .int (S.1 a k))) (fun q => by cases q) (by show ¬ (i < 0 ∨ (arrV _ _ _).slots.size ≤ _); rw [arrV_size]; exact hi) rfl rfl hd fun H1 e1 e2 e3 => ?_
          obtain ⟨g1, g2⟩ := am_sti (by decide) hr hS hn e1 e2 e3
          exact h H1 _ ls g1 g2 hL
      · cases ho
  · cases ho
end AMU
