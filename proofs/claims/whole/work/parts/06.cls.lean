/-! ===== facts of classes, fields, methods, by number ===== -/
theorem am_vw {x : Nat} (h : x < 9) : vwCl[x]? = some (am_cn x, am_TX x, am_nf x) := by
  match x, h with
  | 0, _ => rfl
  | 1, _ => rfl
  | 2, _ => rfl
  | 3, _ => rfl
  | 4, _ => rfl
  | 5, _ => rfl
  | 6, _ => rfl
  | 7, _ => rfl
  | 8, _ => rfl
  | n + 9, h => exact absurd h (by omega)
set_option maxRecDepth 100000 in
theorem am_hin_all : (List.range 9).all (fun x => (u_ws (am_cn x) (am_TX x) (am_nf x)).all (fun w => decide (w ∈ lw_tbl) && goodWord w)) = true := by decide +kernel
theorem am_hin {x : Nat} (h : x < 9) : ∀ w ∈ u_ws (am_cn x) (am_TX x) (am_nf x), w ∈ am_T := by
  intro w hw
  have h1 := List.all_eq_true.mp (List.all_eq_true.mp am_hin_all x (List.mem_range.mpr h)) w hw
  have h2 := Bool.and_eq_true_iff.mp h1
  exact am_inT (of_decide_eq_true h2.1) h2.2
theorem am_tyok {x : Nat} (h : x < 9) : ∀ k, k < am_nf x → parseFieldDescriptor (am_TX x k).2.2.1 = some (am_ty x k) := by
  match x, h with
  | 0, _ => exact tyX0_ok
  | 1, _ => exact tyX1_ok
  | 2, _ => exact tyX2_ok
  | 3, _ => exact tyX3_ok
  | 4, _ => exact tyX4_ok
  | 5, _ => exact tyX5_ok
  | 6, _ => exact tyX6_ok
  | 7, _ => exact tyX7_ok
  | 8, _ => exact tyX8_ok
  | n + 9, h => exact absurd h (by omega)
theorem am_nmok {x : Nat} (h : x < 9) : ∀ a, a < am_nf x → ∀ b, b < am_nf x → a ≠ b → (am_TX x a).2.1 ≠ (am_TX x b).2.1 := by
  match x, h with
  | 0, _ => exact nmX0
  | 1, _ => exact nmX1
  | 2, _ => exact nmX2
  | 3, _ => exact nmX3
  | 4, _ => exact nmX4
  | 5, _ => exact nmX5
  | 6, _ => exact nmX6
  | 7, _ => exact nmX7
  | 8, _ => exact nmX8
  | n + 9, h => exact absurd h (by omega)
def am_tk (t : FieldType) : Nat := match t with
  | .int => 0
  | .boolean => 1
  | .object _ => 2
  | .array _ => 2
  | _ => 9
set_option maxRecDepth 100000 in
theorem am_kt_all : (List.range 9).all (fun x => (List.range (am_nf x)).all (fun y => Nat.beq (am_tk (am_ty x y)) (am_fk x y) && Nat.ble (am_fk x y) 2)) = true := by decide +kernel
theorem am_kt {x y : Nat} (hx : x < 9) (hy : y < am_nf x) : am_tk (am_ty x y) = am_fk x y ∧ am_fk x y ≤ 2 := by
  have h1 := List.all_eq_true.mp (List.all_eq_true.mp am_kt_all x (List.mem_range.mpr hx)) y (List.mem_range.mpr hy)
  have h2 := Bool.and_eq_true_iff.mp h1
  exact ⟨Nat.eq_of_beq_eq_true h2.1, Nat.le_of_ble_eq_true h2.2⟩
theorem am_fit {t : FieldType} {w : Value} (h : am_okv (am_tk t) w = true) : narrow t w = w ∧ fits t w = true := by
  cases t <;> cases w <;> simp [am_okv, am_tk, Nat.beq] at h <;> first | exact ⟨rfl, rfl⟩ | (rcases h with rfl | rfl <;> exact ⟨rfl, rfl⟩)
def am_cv (b : Nat) (v : Value) : Value := match v with
  | .ref a => .ref (b + a)
  | w => w
theorem am_okv_cv {k b : Nat} {w : Value} (h : am_okv k w = true) : am_okv k (am_cv b w) = true := by
  cases w <;> exact h
theorem am_dft {t : FieldType} (b : Nat) (h : am_tk t ≤ 2) : defaultValue t = am_cv b (am_fv (am_tk t) 0 none) := by
  cases t <;> first | rfl | (exact absurd h (by decide))
-- words
theorem am_wFL {own k x y : Nat} (h : am_hasF own k x y = true) : x < 9 ∧ y < am_nf x ∧ Cond.fieldLink (am_cn own) k (am_TX x y).1 (am_TX x y).2.1 (am_TX x y).2.2.1 ∈ am_T := by
  obtain ⟨q, hq, h1⟩ := List.any_eq_true.mp h
  simp only [Bool.and_eq_true] at h1
  obtain ⟨⟨⟨a1, a2⟩, a3⟩, a4⟩ := h1
  have h2 := List.all_eq_true.mp am_FL_ok q hq
  simp only [Bool.and_eq_true] at h2
  rw [Nat.eq_of_beq_eq_true a1, Nat.eq_of_beq_eq_true a2, Nat.eq_of_beq_eq_true a3, Nat.eq_of_beq_eq_true a4] at h2
  exact ⟨Nat.le_of_ble_eq_true h2.1.2, Nat.le_of_ble_eq_true h2.2, am_inT (am_at_mem h2.1.1) rfl⟩
theorem am_wML {own k x : Nat} (h : am_has4 am_ML own k x = true) : x < am_nM ∧ Cond.methodLink (am_cn own) k (am_y x) ∈ am_T := by
  obtain ⟨q, hq, h1⟩ := List.any_eq_true.mp h
  simp only [Bool.and_eq_true] at h1
  obtain ⟨⟨a1, a2⟩, a3⟩ := h1
  have h2 := List.all_eq_true.mp am_ML_ok q hq
  simp only [Bool.and_eq_true] at h2
  rw [Nat.eq_of_beq_eq_true a1, Nat.eq_of_beq_eq_true a2, Nat.eq_of_beq_eq_true a3] at h2
  exact ⟨Nat.le_of_ble_eq_true h2.2, am_inT (am_at_mem h2.1) rfl⟩
/-- the links among nest mates: they aren't kept by the words, so they go along with the state -/
def am_NW (U : State) : Prop := (∀ q ∈ am_MN, va_Nw (.methodLinkNest (am_cn q.1) q.2.1 (am_y q.2.2.1) "WaysOut") U) ∧ va_AO RX5 U
theorem am_NW.warm {s U : State} (hW : s.WarmedH U.vm) (h : am_NW s) : am_NW U := ⟨fun q hq => va_Nw.warmM hW (h.1 q hq), h.2.moved hW.alike⟩
theorem am_wMN {s : State} {own k x : Nat} (hN : am_NW s) (h : am_has4 am_MN own k x = true) : x < am_nM ∧ va_Nw (.methodLinkNest (am_cn own) k (am_y x) "WaysOut") s := by
  obtain ⟨q, hq, h1⟩ := List.any_eq_true.mp h
  simp only [Bool.and_eq_true] at h1
  obtain ⟨⟨a1, a2⟩, a3⟩ := h1
  have h2 := List.all_eq_true.mp am_MN_ok q hq
  have h3 := hN.1 q hq
  simp only [Bool.and_eq_true] at h2
  rw [Nat.eq_of_beq_eq_true a1, Nat.eq_of_beq_eq_true a2, Nat.eq_of_beq_eq_true a3] at h3
  rw [Nat.eq_of_beq_eq_true a3] at h2
  exact ⟨Nat.le_of_ble_eq_true h2.2, h3⟩
theorem am_wCL {own k x : Nat} (h : am_has4 am_CL own k x = true) : x < 9 ∧ Cond.classLink (am_cn own) k (am_cn x) ∈ am_T := by
  obtain ⟨q, hq, h1⟩ := List.any_eq_true.mp h
  simp only [Bool.and_eq_true] at h1
  obtain ⟨⟨a1, a2⟩, a3⟩ := h1
  have h2 := List.all_eq_true.mp am_CL_ok q hq
  simp only [Bool.and_eq_true] at h2
  rw [Nat.eq_of_beq_eq_true a1, Nat.eq_of_beq_eq_true a2, Nat.eq_of_beq_eq_true a3] at h2
  exact ⟨Nat.le_of_ble_eq_true h2.2, am_inT (am_at_mem h2.1) rfl⟩
theorem am_wOL {own k : Nat} (h : am_has3 am_OL own k = true) : Cond.methodLink (am_cn own) k objectInit ∈ am_T := by
  obtain ⟨q, hq, h1⟩ := List.any_eq_true.mp h
  simp only [Bool.and_eq_true] at h1
  have h2 := List.all_eq_true.mp am_OL_ok q hq
  rw [Nat.eq_of_beq_eq_true h1.1, Nat.eq_of_beq_eq_true h1.2] at h2
  exact am_inT (am_at_mem h2) rfl
theorem am_wAC {own k : Nat} (h : am_has3 am_AC own k = true) : Cond.methodLink (am_cn own) k arraycopyName ∈ am_T := by
  obtain ⟨q, hq, h1⟩ := List.any_eq_true.mp h
  simp only [Bool.and_eq_true] at h1
  have h2 := List.all_eq_true.mp am_AC_ok q hq
  rw [Nat.eq_of_beq_eq_true h1.1, Nat.eq_of_beq_eq_true h1.2] at h2
  exact am_inT (am_at_mem h2) rfl
theorem am_wMI {own k : Nat} (h : am_has3 am_MI own k = true) : Cond.methodLink (am_cn own) k Lib.Math.min.name ∈ am_T := by
  obtain ⟨q, hq, h1⟩ := List.any_eq_true.mp h
  simp only [Bool.and_eq_true] at h1
  have h2 := List.all_eq_true.mp am_MI_ok q hq
  rw [Nat.eq_of_beq_eq_true h1.1, Nat.eq_of_beq_eq_true h1.2] at h2
  exact am_inT (am_at_mem h2) rfl
theorem am_wKL {own k : Nat} {v : Int32} (h : am_KL.any (fun q => Nat.beq q.1 own && Nat.beq q.2.1 k && decide (q.2.2.1 = v)) = true) : Cond.constant (am_cn own) k v ∈ am_T := by
  obtain ⟨q, hq, h1⟩ := List.any_eq_true.mp h
  simp only [Bool.and_eq_true] at h1
  have h2 := List.all_eq_true.mp am_KL_ok q hq
  rw [Nat.eq_of_beq_eq_true h1.1.1, Nat.eq_of_beq_eq_true h1.1.2, of_decide_eq_true h1.2] at h2
  exact am_inT (am_at_mem h2) rfl
theorem am_Mcd {j : Nat} (h : j < am_nM) : Cond.code (am_y j) (am_b j) (am_mx j) (am_ry j) ∈ am_T := am_inT (am_con_get _ 0 am_cds j (Nat.zero_le j) (by rw [Nat.zero_add]; exact h)) rfl
set_option maxRecDepth 100000 in
theorem am_np_all : (List.range am_nM).all (fun j => Nat.ble (am_np j + (bif Nat.beq (am_mk j) 1 then 0 else 1)) (am_mx j) && Nat.blt (am_own j) 10) = true := by decide +kernel
/-- what is known of a method by its number -/
theorem am_Mall {j : Nat} (h : j < am_nM) : am_mx j ≤ 40 ∧ plainName (am_y j).cls = true ∧ (am_y j).cls = am_cn (am_own j) ∧ ((am_y j).cls ≠ "java/lang/invoke/MethodHandle" ∧ (am_y j).cls ≠ "java/lang/invoke/VarHandle") ∧ (parseMethodDescriptor (am_y j).desc).map (fun d => d.parameters.length) = some (am_np j) ∧ am_rk j ≤ 2 ∧ am_np j + (bif Nat.beq (am_mk j) 1 then 0 else 1) ≤ am_mx j := by
  have h1 := List.all_eq_true.mp am_MP_all j (List.mem_range.mpr h)
  simp only [Bool.and_eq_true] at h1
  obtain ⟨⟨⟨⟨⟨⟨a1, a2⟩, a3⟩, a4⟩, a5⟩, a6⟩, a7⟩ := h1
  have h2 := List.all_eq_true.mp am_np_all j (List.mem_range.mpr h)
  simp only [Bool.and_eq_true] at h2
  exact ⟨Nat.le_of_ble_eq_true a2, a3, of_decide_eq_true a4, of_decide_eq_true a5, of_decide_eq_true a6, Nat.le_of_ble_eq_true a7, Nat.le_of_ble_eq_true h2.1⟩
theorem am_Mwd {j : Nat} (h : j < am_nM) : Cond.initialized (am_y j).cls ∈ am_T ∧ (am_mk j = 1 → Cond.static (am_y j) ∈ am_T) ∧ (am_mk j ≠ 1 → Cond.instanceMethod (am_y j) ∈ am_T) ∧ (am_mk j = 0 → Cond.selects (am_y j).cls (am_y j) (am_y j) ∈ am_T) ∧ (am_mk j = 2 → (am_y j).name = "<init>") := by
  have h1 := List.all_eq_true.mp am_MP_all j (List.mem_range.mpr h)
  simp only [Bool.and_eq_true] at h1
  have a1 := Nat.eq_of_beq_eq_true h1.1.1.1.1.1.1
  have hm : am_MP.getD j (999, 0, 0, 0, 0) ∈ am_MP := by
    rw [List.getD_eq_getElem?_getD] at a1 ⊢
    cases hq : am_MP[j]? with
    | none => rw [hq] at a1; simp at a1; subst a1; exact absurd h (by decide)
    | some q => exact List.mem_of_getElem? hq
  have h2 := List.all_eq_true.mp am_MP_ok _ hm
  simp only [Bool.and_eq_true] at h2
  rw [a1] at h2
  obtain ⟨b1, b2⟩ := h2
  refine ⟨am_inT (am_at_mem b1) rfl, fun hk => ?_, fun hk => ?_, fun hk => ?_, fun hk => ?_⟩
  · rw [hk] at b2; exact am_inT (am_at_mem b2) rfl
  · rw [show Nat.beq (am_mk j) 1 = false from by cases hz : Nat.beq (am_mk j) 1 with | false => rfl | true => exact absurd (Nat.eq_of_beq_eq_true hz) hk] at b2
    exact am_inT (am_at_mem (Bool.and_eq_true_iff.mp b2).1) rfl
  · rw [hk] at b2; exact am_inT (am_at_mem (Bool.and_eq_true_iff.mp b2).2) rfl
  · rw [hk] at b2
    have b3 : (Nat.beq 2 2 && decide ((am_y j).name = "<init>")) = true := (Bool.and_eq_true_iff.mp b2).2
    exact of_decide_eq_true (Bool.and_eq_true_iff.mp b3).2
