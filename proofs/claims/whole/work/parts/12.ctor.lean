/-! ===== the constructors: the abstract machine as a program, run by the kernel ===== -/
def am_ex (ct : Nat → Option am_En) (rk : Nat) (cf : Nat → List Value → am_S → Option (Option Value × am_S)) : Nat → am_F → Option (Option Value × am_S)
  | 0, _ => none
  | n + 1, (pc, L, st, S) => match ct pc with
    | none => none
    | some e => match am_rt rk e st S with
      | some r => some r
      | none => match am_op e pc L st S with
        | some t => am_ex ct rk cf n t
        | none => match am_cl e st S with
          | none => none
          | some (j, as, r) => match cf j as S with
            | none => none
            | some (o, S1) => am_ex ct rk cf n (pc + 3, L, o.toList ++ r, S1)
def am_xc (n : Nat) : Nat → Nat → List Value → am_S → Option (Option Value × am_S)
  | 0, _, _, _ => none
  | d + 1, j, as, S => am_ex (am_ct j) (am_rk j) (am_xc n d) n (0, am_L0 (am_mx j) as, [], S)
theorem am_ex_ok {K : am_K} {ct : Nat → Option am_En} {rk : Nat} {cf : Nat → List Value → am_S → Option (Option Value × am_S)} (hK : ∀ j as S r, cf j as S = some r → K j as S r) {res : Option Value × am_S} : ∀ (n : Nat) (t : am_F), am_ex ct rk cf n t = some res → am_Rn K ct rk res t
  | 0, _, h => by cases h
  | n + 1, (pc, L, st, S), h => by
    unfold am_ex at h
    split at h
    · cases h
    · rename_i e he
      split at h
      · rename_i r hr
        cases h
        exact am_Rn.rt e he hr
      · split at h
        · rename_i t ht
          exact am_Rn.op e t he ht (am_ex_ok hK n t h)
        · split at h
          · cases h
          · rename_i j as r hc
            split at h
            · cases h
            · rename_i o S1 hf
              exact am_Rn.cl e o S1 he hc (hK _ _ _ _ hf) (am_ex_ok hK n _ h)
theorem am_xc_ok (n : Nat) : ∀ (d j : Nat) (as : List Value) (S : am_S) (res : Option Value × am_S), am_xc n d j as S = some res → am_C d j as S res
  | 0, _, _, _, _, h => by cases h
  | d + 1, j, as, S, res, h => am_ex_ok (fun j as S r h => am_xc_ok n d j as S r h) n _ h
def cS0 : am_S := (fun _ _ => 0, fun _ _ => none, 0)
def cS1 : am_S := am_new cS0
def cR1 : Option (Option Value × am_S) := am_xc 400 8 82 [.ref 0] cS1
def cS2 : am_S := (cR1.getD (none, cS0)).2
def cS3 : am_S := am_new cS2
def cR2 : Option (Option Value × am_S) := am_xc 400 8 112 [.ref 128] cS3
def cS4 : am_S := (cR2.getD (none, cS0)).2
set_option maxRecDepth 1000000 in
theorem cR1_some : (match cR1 with | some (none, S) => Nat.beq S.2.2 128 | _ => false) = true := by decide +kernel
set_option maxRecDepth 1000000 in
theorem cR2_some : (match cR2 with | some (none, S) => Nat.beq S.2.2 148 | _ => false) = true := by decide +kernel
theorem cS2_c : am_C 8 82 [.ref 0] cS1 (none, cS2) ∧ cS2.2.2 = 128 := by
  have h := cR1_some
  unfold cS2
  cases hq : cR1 with
  | none => rw [hq] at h; cases h
  | some r =>
    rw [hq] at h
    obtain ⟨o, S⟩ := r
    cases o with
    | some v => cases h
    | none => exact ⟨am_xc_ok 400 8 _ _ _ _ hq, am_eqb h⟩
theorem cS4_c : am_C 8 112 [.ref 128] cS3 (none, cS4) ∧ cS4.2.2 = 148 := by
  have h := cR2_some
  unfold cS4
  cases hq : cR2 with
  | none => rw [hq] at h; cases h
  | some r =>
    rw [hq] at h
    obtain ⟨o, S⟩ := r
    cases o with
    | some v => cases h
    | none => exact ⟨am_xc_ok 400 8 _ _ _ _ hq, am_eqb h⟩
