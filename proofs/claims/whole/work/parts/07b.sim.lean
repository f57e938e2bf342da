section AMT
variable {p : Program} {l : Launch} {e : Env} {R : Room} {s : State} {m : MethodId} {args : Array Value} {below : List Frame} {meth : Method} {c : Code} {Q : State → Prop} {D : va_G} {cA : Nat → ClassId} {b j d c0 : Nat}
variable {pc : Nat} {L : List (Option Value)} {st : List Value} {S : am_S}
theorem am_s_iadd {t : am_F} (X : am_X p R s m args meth c D cA j d) (hd : decode (am_b j) pc = .ok (.iadd, 1)) (ho : am_bin (fun a b => a + b) 1 pc L st S = some t) (h : am_G p l e R s m args below meth c Q D cA b j c0 t) : am_G p l e R s m args below meth c Q D cA b j c0 (pc, L, st, S) := by
  unfold am_bin at ho
  split at ho
  · cases ho
    exact fun H locs ls hr hS hL => lv_iadd X.1 X.2.1 hd (h H locs ls hr hS hL)
  · cases ho
theorem am_s_isub {t : am_F} (X : am_X p R s m args meth c D cA j d) (hd : decode (am_b j) pc = .ok (.isub, 1)) (ho : am_bin (fun a b => a - b) 1 pc L st S = some t) (h : am_G p l e R s m args below meth c Q D cA b j c0 t) : am_G p l e R s m args below meth c Q D cA b j c0 (pc, L, st, S) := by
  unfold am_bin at ho
  split at ho
  · cases ho
    exact fun H locs ls hr hS hL => lv_isub X.1 X.2.1 hd (h H locs ls hr hS hL)
  · cases ho
theorem am_s_imul {t : am_F} (X : am_X p R s m args meth c D cA j d) (hd : decode (am_b j) pc = .ok (.imul, 1)) (ho : am_bin (fun a b => a * b) 1 pc L st S = some t) (h : am_G p l e R s m args below meth c Q D cA b j c0 t) : am_G p l e R s m args below meth c Q D cA b j c0 (pc, L, st, S) := by
  unfold am_bin at ho
  split at ho
  · cases ho
    exact fun H locs ls hr hS hL => lv_imul X.1 X.2.1 hd (h H locs ls hr hS hL)
  · cases ho
theorem am_s_iand {t : am_F} (X : am_X p R s m args meth c D cA j d) (hd : decode (am_b j) pc = .ok (.iand, 1)) (ho : am_bin (fun a b => a &&& b) 1 pc L st S = some t) (h : am_G p l e R s m args below meth c Q D cA b j c0 t) : am_G p l e R s m args below meth c Q D cA b j c0 (pc, L, st, S) := by
  unfold am_bin at ho
  split at ho
  · cases ho
    exact fun H locs ls hr hS hL => lv_iand X.1 X.2.1 hd (h H locs ls hr hS hL)
  · cases ho
theorem am_s_ior {t : am_F} (X : am_X p R s m args meth c D cA j d) (hd : decode (am_b j) pc = .ok (.ior, 1)) (ho : am_bin (fun a b => a ||| b) 1 pc L st S = some t) (h : am_G p l e R s m args below meth c Q D cA b j c0 t) : am_G p l e R s m args below meth c Q D cA b j c0 (pc, L, st, S) := by
  unfold am_bin at ho
  split at ho
  · cases ho
    exact fun H locs ls hr hS hL => lv_ior X.1 X.2.1 hd (h H locs ls hr hS hL)
  · cases ho
theorem am_s_ixor {t : am_F} (X : am_X p R s m args meth c D cA j d) (hd : decode (am_b j) pc = .ok (.ixor, 1)) (ho : am_bin (fun a b => a ^^^ b) 1 pc L st S = some t) (h : am_G p l e R s m args below meth c Q D cA b j c0 t) : am_G p l e R s m args below meth c Q D cA b j c0 (pc, L, st, S) := by
  unfold am_bin at ho
  split at ho
  · cases ho
    exact fun H locs ls hr hS hL => lv_ixor X.1 X.2.1 hd (h H locs ls hr hS hL)
  · cases ho
theorem am_s_ishl {t : am_F} (X : am_X p R s m args meth c D cA j d) (hd : decode (am_b j) pc = .ok (.ishl, 1)) (ho : am_bin (fun a b => a <<< (b &&& 31)) 1 pc L st S = some t) (h : am_G p l e R s m args below meth c Q D cA b j c0 t) : am_G p l e R s m args below meth c Q D cA b j c0 (pc, L, st, S) := by
  unfold am_bin at ho
  split at ho
  · cases ho
    exact fun H locs ls hr hS hL => lv_ishl X.1 X.2.1 hd (h H locs ls hr hS hL)
  · cases ho
theorem am_s_ishr {t : am_F} (X : am_X p R s m args meth c D cA j d) (hd : decode (am_b j) pc = .ok (.ishr, 1)) (ho : am_bin (fun a b => a >>> (b &&& 31)) 1 pc L st S = some t) (h : am_G p l e R s m args below meth c Q D cA b j c0 t) : am_G p l e R s m args below meth c Q D cA b j c0 (pc, L, st, S) := by
  unfold am_bin at ho
  split at ho
  · cases ho
    exact fun H locs ls hr hS hL => lv_ishr X.1 X.2.1 hd (h H locs ls hr hS hL)
  · cases ho
theorem am_s_iushr {t : am_F} (X : am_X p R s m args meth c D cA j d) (hd : decode (am_b j) pc = .ok (.iushr, 1)) (ho : am_bin (fun a b => (a.toUInt32 >>> (b.toUInt32 &&& Int32.toUInt32 31)).toInt32) 1 pc L st S = some t) (h : am_G p l e R s m args below meth c Q D cA b j c0 t) : am_G p l e R s m args below meth c Q D cA b j c0 (pc, L, st, S) := by
  unfold am_bin at ho
  split at ho
  · cases ho
    exact fun H locs ls hr hS hL => lv_iushr X.1 X.2.1 hd rfl (h H locs ls hr hS hL)
  · cases ho
theorem am_s_i2b {t : am_F} (X : am_X p R s m args meth c D cA j d) (hd : decode (am_b j) pc = .ok (.i2b, 1)) (ho : am_i2b pc L st S = some t) (h : am_G p l e R s m args below meth c Q D cA b j c0 t) : am_G p l e R s m args below meth c Q D cA b j c0 (pc, L, st, S) := by
  unfold am_i2b at ho
  split at ho
  · cases ho
    exact fun H locs ls hr hS hL => lv_i2b X.1 X.2.1 hd rfl (h H locs ls hr hS hL)
  · cases ho
theorem am_s_dup {t : am_F} (X : am_X p R s m args meth c D cA j d) (hd : decode (am_b j) pc = .ok (.dup, 1)) (ho : am_dup pc L st S = some t) (h : am_G p l e R s m args below meth c Q D cA b j c0 t) : am_G p l e R s m args below meth c Q D cA b j c0 (pc, L, st, S) := by
  unfold am_dup at ho
  split at ho
  · obtain ⟨hq, rfl⟩ := am_bif ho
    exact fun H locs ls hr hS hL => lv_dup X.1 X.2.1 hd (am_cat hq) (h H locs ls hr hS hL)
  · cases ho
theorem am_s_pop {t : am_F} (X : am_X p R s m args meth c D cA j d) (hd : decode (am_b j) pc = .ok (.pop, 1)) (ho : am_pop pc L st S = some t) (h : am_G p l e R s m args below meth c Q D cA b j c0 t) : am_G p l e R s m args below meth c Q D cA b j c0 (pc, L, st, S) := by
  unfold am_pop at ho
  split at ho
  · obtain ⟨hq, rfl⟩ := am_bif ho
    exact fun H locs ls hr hS hL => lv_pop X.1 X.2.1 hd (am_cat hq) (h H locs ls hr hS hL)
  · cases ho
theorem am_s_dup2 {t : am_F} (X : am_X p R s m args meth c D cA j d) (hd : decode (am_b j) pc = .ok (.dup2, 1)) (ho : am_dup2 pc L st S = some t) (h : am_G p l e R s m args below meth c Q D cA b j c0 t) : am_G p l e R s m args below meth c Q D cA b j c0 (pc, L, st, S) := by
  unfold am_dup2 at ho
  split at ho
  · obtain ⟨hq, rfl⟩ := am_bif ho
    have hq := Bool.and_eq_true_iff.mp hq
    exact fun H locs ls hr hS hL => lv_dup2_11 X.1 X.2.1 hd (am_cat hq.1) (am_cat hq.2) (h H locs ls hr hS hL)
  · cases ho
theorem am_s_goto {off : Int} {x : Nat} (X : am_X p R s m args meth c D cA j d) (hd : decode (am_b j) pc = .ok (.goto off, 3)) (hx : (pc : Int) + off = (x : Int)) (h : am_G p l e R s m args below meth c Q D cA b j c0 (x, L, st, S)) : am_G p l e R s m args below meth c Q D cA b j c0 (pc, L, st, S) :=
  fun H locs ls hr hS hL => lv_goto X.1 X.2.1 hd hx (h H locs ls hr hS hL)
theorem am_s_if {k : ClassFile.Cond} {off : Int} {x : Nat} {t : am_F} (X : am_X p R s m args meth c D cA j d) (hd : decode (am_b j) pc = .ok (.ifCond k off, 3)) (hx : (pc : Int) + off = (x : Int)) (ho : am_if k 3 x pc L st S = some t) (h : am_G p l e R s m args below meth c Q D cA b j c0 t) : am_G p l e R s m args below meth c Q D cA b j c0 (pc, L, st, S) := by
  unfold am_if at ho
  split at ho
  · split at ho
    · cases ho
      intro H locs ls hr hS hL
      exact lv_if_eq X.1 X.2.1 hd hx (fun q => by rw [if_pos q] at h; exact h H locs ls hr hS hL) (fun q => by rw [if_neg q] at h; exact h H locs ls hr hS hL)
    · cases ho
      intro H locs ls hr hS hL
      exact lv_if_ne X.1 X.2.1 hd hx (fun q => by rw [if_neg q] at h; exact h H locs ls hr hS hL) (fun q => by rw [if_pos q] at h; exact h H locs ls hr hS hL)
    · cases ho
      intro H locs ls hr hS hL
      exact lv_if_lt X.1 X.2.1 hd hx (fun q => by rw [if_pos q] at h; exact h H locs ls hr hS hL) (fun q => by rw [if_neg q] at h; exact h H locs ls hr hS hL)
    · cases ho
      intro H locs ls hr hS hL
      exact lv_if_ge X.1 X.2.1 hd hx (fun q => by rw [if_pos q] at h; exact h H locs ls hr hS hL) (fun q => by rw [if_neg q] at h; exact h H locs ls hr hS hL)
    · cases ho
      intro H locs ls hr hS hL
      exact lv_if_gt X.1 X.2.1 hd hx (fun q => by rw [if_pos q] at h; exact h H locs ls hr hS hL) (fun q => by rw [if_neg q] at h; exact h H locs ls hr hS hL)
    · cases ho
      intro H locs ls hr hS hL
      exact lv_if_le X.1 X.2.1 hd hx (fun q => by rw [if_pos q] at h; exact h H locs ls hr hS hL) (fun q => by rw [if_neg q] at h; exact h H locs ls hr hS hL)
  · cases ho
theorem am_s_icmp {k : ClassFile.Cond} {off : Int} {x : Nat} {t : am_F} (X : am_X p R s m args meth c D cA j d) (hd : decode (am_b j) pc = .ok (.if_icmp k off, 3)) (hx : (pc : Int) + off = (x : Int)) (ho : am_icmp k 3 x pc L st S = some t) (h : am_G p l e R s m args below meth c Q D cA b j c0 t) : am_G p l e R s m args below meth c Q D cA b j c0 (pc, L, st, S) := by
  unfold am_icmp at ho
  split at ho
  · split at ho
    · cases ho
      intro H locs ls hr hS hL
      exact lv_icmp_eq X.1 X.2.1 hd hx (fun q => by rw [if_pos q] at h; exact h H locs ls hr hS hL) (fun q => by rw [if_neg q] at h; exact h H locs ls hr hS hL)
    · cases ho
      intro H locs ls hr hS hL
      exact lv_icmp_ne X.1 X.2.1 hd hx (fun q => by rw [if_neg q] at h; exact h H locs ls hr hS hL) (fun q => by rw [if_pos q] at h; exact h H locs ls hr hS hL)
    · cases ho
      intro H locs ls hr hS hL
      exact lv_icmp_lt X.1 X.2.1 hd hx (fun q => by rw [if_pos q] at h; exact h H locs ls hr hS hL) (fun q => by rw [if_neg q] at h; exact h H locs ls hr hS hL)
    · cases ho
      intro H locs ls hr hS hL
      exact lv_icmp_ge X.1 X.2.1 hd hx (fun q => by rw [if_pos q] at h; exact h H locs ls hr hS hL) (fun q => by rw [if_neg q] at h; exact h H locs ls hr hS hL)
    · cases ho
      intro H locs ls hr hS hL
      exact lv_icmp_gt X.1 X.2.1 hd hx (fun q => by rw [if_pos q] at h; exact h H locs ls hr hS hL) (fun q => by rw [if_neg q] at h; exact h H locs ls hr hS hL)
    · cases ho
      intro H locs ls hr hS hL
      exact lv_icmp_le X.1 X.2.1 hd hx (fun q => by rw [if_pos q] at h; exact h H locs ls hr hS hL) (fun q => by rw [if_neg q] at h; exact h H locs ls hr hS hL)
  · cases ho
theorem am_isO_spec {a ci : Nat} (h : am_isO a ci S = true) : a < S.2.2 ∧ am_sh a = some (.inr ci) := by
  have h := Bool.and_eq_true_iff.mp h
  refine ⟨am_blt h.1, ?_⟩
  have h2 := h.2
  split at h2
  · rename_i q hq
    rw [hq, Nat.eq_of_beq_eq_true h2]
  · cases h2
theorem am_len_spec {a t n : Nat} (h : am_len a t S = some n) : a < S.2.2 ∧ am_sh a = some (.inl (t, n)) := by
  unfold am_len at h
  cases hb : Nat.blt a S.2.2 with
  | false => rw [hb] at h; cases h
  | true =>
    rw [hb] at h
    have h : (match am_sh a with | some (.inl (t', n)) => bif Nat.beq t' t then some n else none | _ => none) = some n := h
    refine ⟨am_blt hb, ?_⟩
    split at h
    · rename_i t' n' hq
      obtain ⟨h1, rfl⟩ := am_bif h
      rw [hq, Nat.eq_of_beq_eq_true h1]
    · cases h
theorem am_alen_spec {a n : Nat} (h : am_alen a S = some n) : a < S.2.2 ∧ ∃ t, t < 4 ∧ am_sh a = some (.inl (t, n)) := by
  unfold am_alen at h
  cases hb : Nat.blt a S.2.2 with
  | false => rw [hb] at h; cases h
  | true =>
    rw [hb] at h
    have h : (match am_sh a with | some (.inl (t, n)) => bif Nat.blt t 4 then some n else none | _ => none) = some n := h
    refine ⟨am_blt hb, ?_⟩
    split at h
    · rename_i t' n' hq
      obtain ⟨h1, rfl⟩ := am_bif h
      exact ⟨_, am_blt h1, hq⟩
    · cases h
theorem am_ws_o {a ci : Nat} (h : am_isO a ci S = true) : (am_ws cA b S)[a]? = some (b + a, .inr (ci, am_fl b ci (S.1 a) (S.2.1 a))) := by
  obtain ⟨h1, h2⟩ := am_isO_spec h
  rw [am_ws_get h1, h2]
  rfl
theorem am_fl_get {ci k : Nat} {f : Nat → Int32} {g : Nat → Option Nat} (hk : k < am_nf ci) : (am_fl b ci f g)[k]? = some (am_cv b (am_fv (am_fk ci k) (f k) (g k))) := by
  unfold am_fl
  rw [List.getElem?_map, List.getElem?_range hk]
  rfl
theorem am_s_getf {k x y : Nat} {t : am_F} (X : am_X p R s m args meth c D cA j d) (hd : decode (am_b j) pc = .ok (.getfield k, 3)) (hF : am_hasF (am_own j) k x y = true) (ho : am_getf x y 3 pc L st S = some t) (h : am_G p l e R s m args below meth c Q D cA b j c0 t) : am_G p l e R s m args below meth c Q D cA b j c0 (pc, L, st, S) := by
  unfold am_getf at ho
  split at ho
  · rename_i a r
    obtain ⟨hq, rfl⟩ := am_bif ho
    obtain ⟨hx, hy, hl⟩ := am_wFL hF
    intro H locs ls hr hS hL
    exact va_get X.1 X.2.1 X.2.2.2.2.1 (am_hin hx) X.2.2.2.1 X.2.2.2.2.2.2.2.1 hr.2 a (am_ws_o hq) (am_vw hx) y hy (X.2.2.2.2.1 _ hl) (fun _ z => z) (am_fl_get hy) hd (h H locs ls hr hS hL)
  · cases ho
end AMT
