/-! ===== the machine's heap by the abstract one; one instruction ===== -/
def am_fl (b ci : Nat) (f : Nat → Int32) (g : Nat → Option Nat) : List Value := (List.range (am_nf ci)).map (fun k => am_cv b (am_fv (am_fk ci k) (f k) (g k)))
def am_cell (cA : Nat → ClassId) (b : Nat) (sh : Option ((Nat × Nat) ⊕ Nat)) (f : Nat → Int32) (g : Nat → Option Nat) : va_E := match sh with
  | some (.inl (t, n)) => bif Nat.beq t 3 then .inl (cA 3, n, .inr (.inr (.inr (.inr (fun j => (g j).map (b + ·)))))) else .inl (cA t, n, .inl f)
  | some (.inr ci) => .inr (ci, am_fl b ci f g)
  | none => .inl (cA 0, 0, .inl f)
def am_ws (cA : Nat → ClassId) (b : Nat) (S : am_S) : va_W := (List.range S.2.2).map (fun k => (b + k, am_cell cA b (am_sh k) (S.1 k) (S.2.1 k)))
def am_tys (cA : Nat → ClassId) : List (ClassId × FieldType) := [(cA 0, .int), (cA 1, .byte), (cA 2, .boolean), (cA 3, .object RX5)]
def am_rel (D : va_G) (cA : Nat → ClassId) (b : Nat) (S : am_S) (H : Heap) : Prop := (S.2.2 < am_cT → H.size = b + S.2.2) ∧ va_P D vwCl (am_ws cA b S) H
theorem am_ws_get {cA : Nat → ClassId} {b : Nat} {S : am_S} {k : Nat} (h : k < S.2.2) : (am_ws cA b S)[k]? = some (b + k, am_cell cA b (am_sh k) (S.1 k) (S.2.1 k)) := by
  unfold am_ws
  rw [List.getElem?_map, List.getElem?_range h]
  rfl
theorem am_ws_len {cA : Nat → ClassId} {b : Nat} {S : am_S} : (am_ws cA b S).length = S.2.2 := by
  unfold am_ws; rw [List.length_map, List.length_range]
theorem am_ws_in {cA : Nat → ClassId} {b : Nat} {S : am_S} {k : Nat} {q : Nat × va_E} (h : (am_ws cA b S)[k]? = some q) : k < S.2.2 ∧ q = (b + k, am_cell cA b (am_sh k) (S.1 k) (S.2.1 k)) := by
  have h1 : k < S.2.2 := by
    have := (List.getElem?_eq_some_iff.mp h).1
    rw [am_ws_len] at this; exact this
  rw [am_ws_get h1] at h
  exact ⟨h1, (Option.some.inj h).symm⟩
theorem am_D {cA : Nat → ClassId} {b : Nat} {S : am_S} : va_D (fun q => b ≤ q) (am_ws cA b S) := by
  refine ⟨fun i j p q hp hq e => ?_, fun k q hq => ?_⟩
  · obtain ⟨-, rfl⟩ := am_ws_in hp
    obtain ⟨-, rfl⟩ := am_ws_in hq
    have e : b + i = b + j := e
    omega
  · obtain ⟨-, rfl⟩ := am_ws_in hq
    exact Nat.le_add_right b k
theorem am_ws_set {cA : Nat → ClassId} {b : Nat} {S S' : am_S} {a : Nat} (hc : S'.2.2 = S.2.2) (h : ∀ k, k ≠ a → S'.1 k = S.1 k ∧ S'.2.1 k = S.2.1 k) {x : va_E} (hx : x = am_cell cA b (am_sh a) (S'.1 a) (S'.2.1 a)) : (am_ws cA b S).set a (b + a, x) = am_ws cA b S' := by
  apply List.ext_getElem?
  intro k
  rw [List.getElem?_set]
  by_cases hk : k < S.2.2
  · rw [am_ws_get (S := S') (by rw [hc]; exact hk)]
    by_cases e : a = k
    · subst e
      rw [if_pos rfl, if_pos (by rw [am_ws_len]; exact hk), hx]
    · rw [if_neg e, am_ws_get hk, (h k (Ne.symm e)).1, (h k (Ne.symm e)).2]
  · have n1 : (am_ws cA b S)[k]? = none := List.getElem?_eq_none (by rw [am_ws_len]; omega)
    have n2 : (am_ws cA b S')[k]? = none := List.getElem?_eq_none (by rw [am_ws_len, hc]; omega)
    rw [n1, n2]
    by_cases e : a = k
    · subst e
      rw [if_pos rfl, if_neg (by rw [am_ws_len]; exact hk)]
    · rw [if_neg e]
theorem am_ws_new {cA : Nat → ClassId} {b : Nat} {S : am_S} : am_ws cA b (am_new S) = am_ws cA b S ++ [(b + S.2.2, am_cell cA b (am_sh S.2.2) (fun _ => 0) (fun _ => none))] := by
  show (List.range (S.2.2 + 1)).map _ = _
  rw [List.range_succ, List.map_append]
  congr 1
  · unfold am_ws
    apply List.map_congr_left
    intro k hk
    have hk := List.mem_range.mp hk
    show (b + k, am_cell cA b (am_sh k) (am_u1 S.1 S.2.2 (fun _ => 0) k) (am_u1 S.2.1 S.2.2 (fun _ => none) k)) = _
    unfold am_u1
    rw [if_neg (by omega), if_neg (by omega)]
  · show [(b + S.2.2, am_cell cA b (am_sh S.2.2) (am_u1 S.1 S.2.2 (fun _ => 0) S.2.2) (am_u1 S.2.1 S.2.2 (fun _ => none) S.2.2))] = _
    unfold am_u1
    rw [if_pos rfl, if_pos rfl]
/-- the locals -/
def am_lv (b : Nat) (ls : Array Slot) (n : Nat) (L : List (Option Value)) : Prop := ∃ lv, lv_has ls n lv ∧ L.length = n ∧ ∀ (i : Nat) (v : Value), L[i]? = some (some v) → (i, am_cv b v) ∈ lv ∧ am_c1 v = true
theorem am_lv.at {b : Nat} {ls : Array Slot} {n : Nat} {L : List (Option Value)} (h : am_lv b ls n L) {i : Nat} {v : Value} (hi : L[i]? = some (some v)) : ls[i]? = some (.val (am_cv b v)) := by
  obtain ⟨lv, h1, -, h3⟩ := h
  exact h1.2.2 _ (h3 i v hi).1
theorem am_cat {b : Nat} {v : Value} (h : am_c1 v = true) : (am_cv b v).category = 1 := by
  cases v <;> first | rfl | cases h
theorem am_lv.put {b : Nat} {ls' : Array Slot} {n i : Nat} {L : List (Option Value)} {lv : List (Nat × Value)} {v : Value} (h2 : L.length = n) (h3 : ∀ (i : Nat) (v : Value), L[i]? = some (some v) → (i, am_cv b v) ∈ lv ∧ am_c1 v = true) (hc : am_c1 v = true)
    (h : lv_has ls' n ((i, am_cv b v) :: lv.filter (fun q => !(q.1 == i) && !(q.1 + 1 == i && q.2.category == 2)))) : am_lv b ls' n (L.set i (some v)) := by
  refine ⟨_, h, by rw [List.length_set]; exact h2, fun k w hk => ?_⟩
  rw [List.getElem?_set] at hk
  by_cases e : i = k
  · subst e
    rw [if_pos rfl] at hk
    split at hk
    · cases hk
      exact ⟨List.mem_cons_self, hc⟩
    · cases hk
  · rw [if_neg e] at hk
    obtain ⟨q1, q2⟩ := h3 k w hk
    refine ⟨List.mem_cons_of_mem _ (List.mem_filter.mpr ⟨q1, ?_⟩), q2⟩
    have q3 : (am_cv b w).category = 1 := am_cat q2
    simp [q3, Ne.symm e]
/-- how many slots the first c cells have -/
def am_sz (k : Nat) : Nat := match am_sh k with
  | some (.inl (_, n)) => n
  | some (.inr ci) => am_nf ci
  | none => 0
def am_sl : Nat → Nat
  | 0 => 0
  | c + 1 => am_sl c + am_sz c
theorem am_sl_mono {a c : Nat} (h : a ≤ c) : am_sl a ≤ am_sl c := by
  induction c with
  | zero => rw [Nat.le_zero.mp h]; exact Nat.le_refl _
  | succ n ih =>
    rcases Nat.lt_or_ge a (n + 1) with q | q
    · exact Nat.le_trans (ih (by omega)) (Nat.le_add_right _ _)
    · rw [show a = n + 1 by omega]; exact Nat.le_refl _
/-- what holds throughout a method's body -/
def am_X (p : Program) (R : Room) (s : State) (m : MethodId) (args : Array Value) (meth : Method) (c : Code) (D : va_G) (cA : Nat → ClassId) (j d : Nat) : Prop :=
  p.tables.exec = Jvm.exec ∧ c.code = am_b j ∧ c.maxLocals = am_mx j ∧ s.vm.findClass (am_cn (am_own j)) = some m.cls ∧ (∀ w ∈ am_T, w.before args s = true) ∧ meth.locks = false ∧ meth.sig.returnType = am_ry j ∧ va_K D vwCl (am_tys cA) s ∧ am_NW s ∧ (am_mk j = 2 → meth.name = "<init>") ∧ R.frames = d + 1 ∧ R.locals = 64 * (d + 1) ∧ j < am_nM
def am_G (p : Program) (l : Launch) (e : Env) (R : Room) (s : State) (m : MethodId) (args : Array Value) (below : List Frame) (meth : Method) (c : Code) (Q : State → Prop) (D : va_G) (cA : Nat → ClassId) (b j c0 : Nat) (t : am_F) : Prop :=
  ∀ (H : Heap) (locs : List Loc) (ls : Array Slot), am_rel D cA b t.2.2.2 H → va_S (fun q => b ≤ q) s.heap H locs → am_lv b ls (am_mx j) t.2.1 → W p l e R s m args below meth c H locs (t.2.2.2.2.2 - c0) (am_sl t.2.2.2.2.2 - am_sl c0) Q (F0 m t.1 ls (t.2.2.1.map (am_cv b)))
section AMS
variable {p : Program} {l : Launch} {e : Env} {R : Room} {s : State} {m : MethodId} {args : Array Value} {below : List Frame} {meth : Method} {c : Code} {Q : State → Prop} {D : va_G} {cA : Nat → ClassId} {b j d c0 : Nat}
variable {pc : Nat} {L : List (Option Value)} {st : List Value} {S : am_S}
theorem am_s_iconst {n : Int} {v : Int32} (X : am_X p R s m args meth c D cA j d) (hd : decode (am_b j) pc = .ok (.iconst n, 1)) (hv : Int32.ofInt n = v) (h : am_G p l e R s m args below meth c Q D cA b j c0 (pc + 1, L, .int v :: st, S)) : am_G p l e R s m args below meth c Q D cA b j c0 (pc, L, st, S) :=
  fun H locs ls hr hS hL => lv_iconst X.1 X.2.1 hd hv (h H locs ls hr hS hL)
theorem am_s_bipush {n : Int} {v : Int32} (X : am_X p R s m args meth c D cA j d) (hd : decode (am_b j) pc = .ok (.bipush n, 2)) (hv : (Int8.ofInt n).toInt32 = v) (h : am_G p l e R s m args below meth c Q D cA b j c0 (pc + 2, L, .int v :: st, S)) : am_G p l e R s m args below meth c Q D cA b j c0 (pc, L, st, S) :=
  fun H locs ls hr hS hL => lv_bipush X.1 X.2.1 hd hv (h H locs ls hr hS hL)
theorem am_s_sipush {n : Int} {v : Int32} (X : am_X p R s m args meth c D cA j d) (hd : decode (am_b j) pc = .ok (.sipush n, 3)) (hv : (Int16.ofInt n).toInt32 = v) (h : am_G p l e R s m args below meth c Q D cA b j c0 (pc + 3, L, .int v :: st, S)) : am_G p l e R s m args below meth c Q D cA b j c0 (pc, L, st, S) :=
  fun H locs ls hr hS hL => lv_sipush X.1 X.2.1 hd hv (h H locs ls hr hS hL)
theorem am_s_ldc {k : Nat} {v : Int32} (X : am_X p R s m args meth c D cA j d) (hd : decode (am_b j) pc = .ok (.ldc k, 2)) (hv : Cond.constant (am_cn (am_own j)) k v ∈ am_T) (h : am_G p l e R s m args below meth c Q D cA b j c0 (pc + 2, L, .int v :: st, S)) : am_G p l e R s m args below meth c Q D cA b j c0 (pc, L, st, S) :=
  fun H locs ls hr hS hL => lv_ldc X.1 X.2.1 X.2.2.2.1 (X.2.2.2.2.1 _ hv) hd (h H locs ls hr hS hL)
theorem am_s_ild {x len : Nat} {t : am_F} (X : am_X p R s m args meth c D cA j d) (hd : (len = 2 ∧ decode (am_b j) pc = .ok (.iload x, 2)) ∨ (len = 1 ∧ ∃ k : Fin 4, k.val = x ∧ decode (am_b j) pc = .ok (.iload_n k, 1))) (ho : am_ild x len pc L st S = some t) (h : am_G p l e R s m args below meth c Q D cA b j c0 t) : am_G p l e R s m args below meth c Q D cA b j c0 (pc, L, st, S) := by
  unfold am_ild at ho
  split at ho
  · rename_i a ha
    cases ho
    intro H locs ls hr hS hL
    have h1 : ls[x]? = some (.val (.int a)) := hL.at ha
    rcases hd with ⟨rfl, hd⟩ | ⟨rfl, k, hk, hd⟩
    · exact lv_iload X.1 X.2.1 hd h1 (h H locs ls hr hS hL)
    · exact lv_iload_n X.1 X.2.1 hd hk h1 (h H locs ls hr hS hL)
  · cases ho
theorem am_s_ald {x len : Nat} {t : am_F} (X : am_X p R s m args meth c D cA j d) (hd : (len = 2 ∧ decode (am_b j) pc = .ok (.aload x, 2)) ∨ (len = 1 ∧ ∃ k : Fin 4, k.val = x ∧ decode (am_b j) pc = .ok (.aload_n k, 1))) (ho : am_ald x len pc L st S = some t) (h : am_G p l e R s m args below meth c Q D cA b j c0 t) : am_G p l e R s m args below meth c Q D cA b j c0 (pc, L, st, S) := by
  unfold am_ald at ho
  split at ho
  · rename_i a ha
    cases ho
    intro H locs ls hr hS hL
    have h1 : ls[x]? = some (.val (.ref (b + a))) := hL.at ha
    rcases hd with ⟨rfl, hd⟩ | ⟨rfl, k, hk, hd⟩
    · exact lv_aload X.1 X.2.1 hd h1 (h H locs ls hr hS hL)
    · exact lv_aload_n X.1 X.2.1 hd hk h1 (h H locs ls hr hS hL)
  · cases ho
theorem am_blt {x n : Nat} (h : Nat.blt x n = true) : x < n := Nat.le_of_ble_eq_true h
theorem am_bif {α : Type} {q : Bool} {x y : α} (h : (bif q then some x else none) = some y) : q = true ∧ x = y := by
  cases q with
  | true => exact ⟨rfl, Option.some.inj h⟩
  | false => cases h
theorem am_s_ist {x len : Nat} {t : am_F} (X : am_X p R s m args meth c D cA j d) (hd : (len = 2 ∧ decode (am_b j) pc = .ok (.istore x, 2)) ∨ (len = 1 ∧ ∃ k : Fin 4, k.val = x ∧ decode (am_b j) pc = .ok (.istore_n k, 1))) (ho : am_ist x len pc L st S = some t) (h : am_G p l e R s m args below meth c Q D cA b j c0 t) : am_G p l e R s m args below meth c Q D cA b j c0 (pc, L, st, S) := by
  unfold am_ist at ho
  split at ho
  · rename_i a r
    obtain ⟨hq, rfl⟩ := am_bif ho
    intro H locs ls hr hS hL
    obtain ⟨lv, h1, h2, h3⟩ := hL
    have hx : x < am_mx j := by rw [← h2]; exact am_blt hq
    rcases hd with ⟨rfl, hd⟩ | ⟨rfl, k, hk, hd⟩
    · exact lv_istore X.1 X.2.1 hd h1 hx rfl fun ls' hl => h H locs ls' hr hS (am_lv.put (v := .int a) h2 h3 rfl hl)
    · exact lv_istore_n X.1 X.2.1 hd hk h1 hx rfl fun ls' hl => h H locs ls' hr hS (am_lv.put (v := .int a) h2 h3 rfl hl)
  · cases ho
theorem am_s_ast {x len : Nat} {t : am_F} (X : am_X p R s m args meth c D cA j d) (hd : (len = 2 ∧ decode (am_b j) pc = .ok (.astore x, 2)) ∨ (len = 1 ∧ ∃ k : Fin 4, k.val = x ∧ decode (am_b j) pc = .ok (.astore_n k, 1))) (ho : am_ast x len pc L st S = some t) (h : am_G p l e R s m args below meth c Q D cA b j c0 t) : am_G p l e R s m args below meth c Q D cA b j c0 (pc, L, st, S) := by
  unfold am_ast at ho
  split at ho
  · rename_i a r
    obtain ⟨hq, rfl⟩ := am_bif ho
    intro H locs ls hr hS hL
    obtain ⟨lv, h1, h2, h3⟩ := hL
    have hx : x < am_mx j := by rw [← h2]; exact am_blt hq
    rcases hd with ⟨rfl, hd⟩ | ⟨rfl, k, hk, hd⟩
    · exact lv_astore X.1 X.2.1 hd h1 hx rfl fun ls' hl => h H locs ls' hr hS (am_lv.put (v := .ref a) h2 h3 rfl hl)
    · exact lv_astore_n X.1 X.2.1 hd hk h1 hx rfl fun ls' hl => h H locs ls' hr hS (am_lv.put (v := .ref a) h2 h3 rfl hl)
  · cases ho
theorem am_s_iinc {x : Nat} {n : Int} {v : Int32} {t : am_F} (X : am_X p R s m args meth c D cA j d) (hd : decode (am_b j) pc = .ok (.iinc x n, 3)) (hv : v = Int32.ofInt n) (ho : am_iinc x v 3 pc L st S = some t) (h : am_G p l e R s m args below meth c Q D cA b j c0 t) : am_G p l e R s m args below meth c Q D cA b j c0 (pc, L, st, S) := by
  unfold am_iinc at ho
  split at ho
  · rename_i a ha
    obtain ⟨hq, rfl⟩ := am_bif ho
    subst hv
    intro H locs ls hr hS hL
    obtain ⟨lv, h1, h2, h3⟩ := hL
    have hx : x < am_mx j := by rw [← h2]; exact am_blt hq
    obtain ⟨k, hk⟩ := List.getElem?_of_mem (h3 x _ ha).1
    exact lv_iinc X.1 X.2.1 hd h1 hk rfl hx rfl fun ls' hl => h H locs ls' hr hS (am_lv.put (v := .int (a + Int32.ofInt n)) h2 h3 rfl hl)
  · cases ho
end AMS
