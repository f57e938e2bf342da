/-! ===== the first program's tracer: a choice, a taking ===== -/
theorem OkS.t {ch mt : Nat → Nat} {i e : Nat} (hs : OkS ch mt i e) (h : ch i = 84) : ch (i + 1) = 123 ∧ (∀ m, m < 6 → ltr (ch (skp ch mt m (mt (i + 1) + 1))) → ch (skp ch mt m (mt (i + 1) + 1) + 1) = 123) ∧ ¬ ltr (ch (skp ch mt 6 (mt (i + 1) + 1))) ∧ (if ch (skp ch mt 6 (mt (i + 1) + 1)) = 90 then ch (skp ch mt 6 (mt (i + 1) + 1) + 1) = 123 ∧ mt (skp ch mt 6 (mt (i + 1) + 1) + 1) < e else skp ch mt 6 (mt (i + 1) + 1) ≤ e) := by
  rcases hs with h1 | h1 | h1 | h1 | h1 | h1 | h1
  · exact absurd h1.1 (by omega)
  · exact absurd h1.1 (by omega)
  · exact absurd h1.1 (by omega)
  · exact absurd h1.1 (by omega)
  · exact absurd h1.1 (by omega)
  · exact absurd h1.1 (by omega)
  · exact h1.2
theorem OkS.q {ch mt : Nat → Nat} {i e : Nat} (hs : OkS ch mt i e) (h : ch i = 63) : ch (i + 1) = 123 ∧ ch (mt (i + 1) + 1) = 123 ∧ mt (mt (i + 1) + 1) < e := by
  rcases hs with h1 | h1 | h1 | h1 | h1 | h1 | h1
  · exact absurd h1.1 (by omega)
  · exact absurd h1.1 (by omega)
  · exact absurd h1.1 (by omega)
  · exact absurd h1.1 (by omega)
  · exact h1.2
  · exact absurd h1.1 (by omega)
  · exact absurd h1.1 (by omega)
theorem OkS.s {ch mt : Nat → Nat} {i e : Nat} (hs : OkS ch mt i e) (h : ch i = 42) : ch (i + 1) = 123 ∧ mt (i + 1) < e := by
  rcases hs with h1 | h1 | h1 | h1 | h1 | h1 | h1
  · exact absurd h1.1 (by omega)
  · exact absurd h1.1 (by omega)
  · exact absurd h1.1 (by omega)
  · exact absurd h1.1 (by omega)
  · exact absurd h1.1 (by omega)
  · exact h1.2
  · exact absurd h1.1 (by omega)
def PE (ch mt : Nat → Nat) (ab : Nat → Nat → Bool) (τ : Nat → Nat → Nat → Nat → Nat) (ag : Nat → Prop) (fs : Nat → Nat) (B tk i b' k' : Nat) : Prop := ∃ sp' tk', Eg ch mt ab τ tk i sp' tk' ∧ b' < B ∧ fs b' = sp' ∧ k' = kb ag b' (tk' - 1)
def QE (ch mt : Nat → Nat) (ab : Nat → Nat → Bool) (τ : Nat → Nat → Nat → Nat → Nat) (bn : Nat → Nat) (tk i b' kk : Nat) : Prop := ∃ p, Hi ch mt ab τ tk i p kk ∧ b' = bn (p + 1)
section TC2
variable {N m n B : Nat} {ch mt bn fs kp : Nat → Nat} {ag : Nat → Prop} {ab : Nat → Nat → Bool} {X : Nat → Nat} {S : St}
theorem TK.inj (hK : TK n B ch mt bn fs kp ag) {b q : Nat} (hb : b < B) (hq : ch q = 123) : fs b = q + 1 ↔ b = bn q := by
  obtain ⟨h1, h2⟩ := hK.2.2.2.2.1 q hq
  constructor
  · intro h
    rcases Nat.lt_trichotomy b (bn q) with w | w | w
    · have := hK.2.2.2.1 b (bn q) w h1; omega
    · exact w
    · have := hK.2.2.2.1 (bn q) b w hb; omega
  · intro h; rw [h]; exact h2
theorem TK.end (hK : TK n B ch mt bn fs kp ag) {q : Nat} (hq : ch q = 123) : enp n mt (fs (bn q)) = mt q := by
  rw [(hK.2.2.2.2.1 q hq).2]
  unfold enp
  rw [if_neg (by omega), Nat.add_sub_cancel]
theorem ite_bP {c : Bool} {P : Prop} (h : c = true ↔ P) : (if c = true then (1 : Int32) else 0) = bP P := by
  by_cases q : P
  · rw [if_pos (h.mpr q), bP_1 q]
  · rw [if_neg (fun z => q (h.mp z)), bP_0 q]
theorem s_has0 (N : Nat) (x : Int32) (S : St) : fX7_has N x 0 S = some (if bt x 0 = true then 1 else 0, S) := s_has N x (i := 0) (by omega) S
theorem s_tchoice (hN : 60 < N) (hK : TK n B ch mt bn fs kp ag) (hC : CT m n B ch mt bn fs kp ag ab X S) {i k e : Nat} (hk : k < 6) (h63 : ch i = 63) (hs : OkS ch mt i e) (hsub : ∀ q, sbn ch mt i q → ag (bn q) → ab k (kp (bn q)) = true) :
    ∃ T, fX6_traceChoice N (nI (i + 1)) (nI k) S = some (nI (nxt ch mt i), T) ∧ Up m (PE ch mt ab (Tab ch mt ab n X) ag fs B (k + 1) i) (QE ch mt ab (Tab ch mt ab n X) bn (k + 1) i) (Lo ch mt ab (Tab ch mt ab n X) (k + 1) i) S T ∧ T.1 36 5 = bP (sup (un ch mt ab X (Tab ch mt ab n X) (k + 1) i 0) 0) := by
  have hW := hK.1.1
  have hc := hK.1.2
  have hB := hK.2.1.2.1
  obtain ⟨q1, q2, q3⟩ := hs.q h63
  obtain ⟨b1, f1⟩ := hK.2.2.2.2.1 _ q1
  obtain ⟨b2, f2⟩ := hK.2.2.2.2.1 _ q2
  have hm1 := hsub (i + 1) (Or.inl ⟨h63, Or.inl rfl⟩)
  have hm2 := hsub (mt (i + 1) + 1) (Or.inl ⟨h63, Or.inr rfl⟩)
  obtain ⟨T1, e1, u1, v1⟩ := s_rch (N := N) hK hC b1 hk
  have hC1 := hC.mv u1.1
  obtain ⟨T2, e2, u2, v2⟩ := s_rch (N := N) hK hC1 b2 hk
  have hC2 := hC1.mv u2.1
  obtain ⟨W1, w1, g1⟩ := s_ways hN hK hC2 b1 hk hm1
  obtain ⟨W2, w2, g2⟩ := s_ways hN hK hC2 b2 hk hm2
  have hgo : (if bt (W1 ||| W2) 0 = true then (1 : Int32) else 0) = bP (sup (un ch mt ab X (Tab ch mt ab n X) (k + 1) i 0) 0) := by
    refine ite_bP ?_
    rw [b_or, Bool.or_eq_true, g1 0 (by omega), g2 0 (by omega), go_63 h63, f1, f2]
    simp
  have hCa := hC2.mv (Up.al (m := m) (S := T2) (bP (sup (un ch mt ab X (Tab ch mt ab n X) (k + 1) i 0) 0))).1
  refine ⟨st_i T2 36 5 (bP (sup (un ch mt ab X (Tab ch mt ab n X) (k + 1) i 0) 0)), ?_, ((u1.trans u2).trans (Up.al _)).as (fun b' k' hb' hk' => ?_) (fun b' k' _ _ => ?_) (fun k' _ => ?_), si_at _ _ _ _⟩
  · unfold fX6_traceChoice
    rw [hC.2.1.2, s_blockAt hW hc hC.1 q1]
    simp only [Option.bind_some]
    rw [hC.2.1.2, s_closeOf hB hC.1 b1, hK.end q1]
    simp only [Option.bind_some]
    rw [show nI (mt (i + 1)) + 1 = nI (mt (i + 1) + 1) from nI_add _ 1, s_blockAt hW hc hC.1 q2]
    simp only [Option.bind_some]
    rw [e1]
    simp only [Option.bind_some]
    rw [e2]
    simp only [Option.bind_some]
    rw [w1]
    simp only [Option.bind_some]
    rw [w2]
    simp only [Option.bind_some]
    rw [s_has0, hgo]
    simp only [Option.bind_some]
    rw [if_pos (bP_01 _), hCa.2.1.2, s_closeOf hB hCa.1 b2, hK.end q2]
    simp only [Option.bind_some]
    rw [show nI (mt (mt (i + 1) + 1)) + 1 = nI (mt (mt (i + 1) + 1) + 1) from nI_add _ 1]
    have : nxt ch mt i = mt (mt (i + 1) + 1) + 1 := by unfold nxt; rw [if_pos h63]
    rw [this]
  · constructor
    · rintro ((⟨z1, z2⟩ | ⟨z1, z2⟩) | z)
      · subst z1
        exact ⟨_, _, Or.inl ⟨h63, Or.inl rfl, rfl⟩, b1, f1, z2⟩
      · subst z1
        exact ⟨_, _, Or.inl ⟨h63, Or.inr rfl, rfl⟩, b2, f2, z2⟩
      · exact z.elim
    · rintro ⟨sp', tk', he, z1, z2, z3⟩
      rcases he with ⟨_, y1, y2⟩ | ⟨y, _⟩ | ⟨y, _⟩
      · subst y2
        rw [Nat.add_sub_cancel] at z3
        rcases y1 with y1 | y1
        · have := (hK.inj z1 q1).mp (z2.trans y1)
          subst this
          exact Or.inl (Or.inl ⟨rfl, z3⟩)
        · have := (hK.inj z1 q2).mp (z2.trans y1)
          subst this
          exact Or.inl (Or.inr ⟨rfl, z3⟩)
      · omega
      · omega
  · constructor
    · rintro ((z | z) | z) <;> exact z.elim
    · rintro ⟨p, z, _⟩; have := z.1; omega
  · constructor
    · rintro ((z | z) | z) <;> exact z.elim
    · intro z; have := z.1; omega
/-- a taking's takers -/
theorem s_ttakers (hN : 60 < N) (hK : TK n B ch mt bn fs kp ag) (hC : CT m n B ch mt bn fs kp ag ab X S) {i k e : Nat} (h84 : ch i = 84) (hs : OkS ch mt i e) (hbt : ∀ p, sbt ch mt i p → kp (bn (p + 1)) = ch p - 65) {W l2 : Int32} (hWb : ∀ w, w < 32 → (bt W w = true ↔ w < 8 ∧ sup (Tab ch mt ab n X (i + 2) (k + 1) 0) w)) :
    WP (fX6_traceTaking_49 N l2 (nI (mt (i + 1) + 1)) W ((W &&& 129), 0, S)) (fun z => Up m (fun b' k' => ∃ k0 p, k0 < 6 ∧ tko ch mt ab (mt (i + 1) + 1) (k0 + 1) = some p ∧ sup (Tab ch mt ab n X (i + 2) (k + 1) 0) (k0 + 1) ∧ b' = bn (p + 1) ∧ k' = kb ag b' k0) (QE ch mt ab (Tab ch mt ab n X) bn (k + 1) i) (fun _ => False) S z.2 ∧ z.2.1 36 = S.1 36 ∧ ∀ x, x < 32 → (bt z.1 x = true ↔ x < 8 ∧ Wm ch mt ab (Tab ch mt ab n X) (k + 1) i x)) := by
  have hW := hK.1.1
  have hc := hK.1.2
  obtain ⟨t1, t2, t3, t4⟩ := hs.t h84
  have hbr := hW.br t1
  have hn := hW.1
  have b129 : ∀ x, x < 32 → (bt 129 x = true ↔ x = 0 ∨ x = 7) := by decide +kernel
  unfold fX6_traceTaking_49
  refine WP.fr2 6 N (fun kd a T => Up m (fun b' k' => ∃ k0 p, k0 < kd ∧ tko ch mt ab (mt (i + 1) + 1) (k0 + 1) = some p ∧ sup (Tab ch mt ab n X (i + 2) (k + 1) 0) (k0 + 1) ∧ b' = bn (p + 1) ∧ k' = kb ag b' k0) (fun b' kk => ∃ p, kk < kd ∧ tko ch mt ab (mt (i + 1) + 1) (kk + 1) = some p ∧ sup (Tab ch mt ab n X (i + 2) (k + 1) 0) (kk + 1) ∧ b' = bn (p + 1)) (fun _ => False) S T ∧ T.1 36 = S.1 36 ∧ ∀ x, x < 32 → (bt a x = true ↔ (x < 8 ∧ (x = 0 ∨ x = 7) ∧ sup (Tab ch mt ab n X (i + 2) (k + 1) 0) x) ∨ (∃ k0, k0 < kd ∧ tko ch mt ab (mt (i + 1) + 1) (k0 + 1) = none ∧ sup (Tab ch mt ab n X (i + 2) (k + 1) 0) (k0 + 1) ∧ x = k0 + 1) ∨ (∃ k0 p, k0 < kd ∧ tko ch mt ab (mt (i + 1) + 1) (k0 + 1) = some p ∧ sup (Tab ch mt ab n X (i + 2) (k + 1) 0) (k0 + 1) ∧ x < 8 ∧ sup (Tab ch mt ab n X (p + 2) (k0 + 1) 0) x))) (by omega) (fun kd a T hkd hJ => ?_) (fun a T hJ => ?_) (a := W &&& 129) (S := S) 0 (by omega) ⟨(Up.refl S).as (fun b' k' _ _ => ?_) (fun b' k' _ _ => ?_) (fun _ _ => Iff.rfl), rfl, fun x hx => ?_⟩
  · obtain ⟨j1, j2, j3⟩ := hJ
    have hCT := hC.mv j1.1
    have hbt1 := hWb (kd + 1) (by omega)
    have e1 : (1 : Int32) + nI kd = nI (kd + 1) := by
      rw [show (1 : Int32) = nI 1 from rfl, nI_add, Nat.add_comm]
    unfold bfX6_traceTaking_49
    dsimp only
    rw [if_neg (show ¬ (6 : Int32) ≤ nI kd from nI_ge (b := 6) (by omega) (by omega)), e1, s_has N W (show kd + 1 < 32 by omega)]
    simp only [Option.bind_some]
    have e2 : nI kd + 1 = nI (kd + 1) := nI_add kd 1
    unfold fX6_traceTaking_143
    rw [e2]
    by_cases q : sup (Tab ch mt ab n X (i + 2) (k + 1) 0) (kd + 1)
    · rw [if_pos (hbt1.mpr ⟨by omega, q⟩), if_neg z10]
      obtain ⟨A, a1, a2⟩ := s_taker (N := N) (w := kd + 1) (bh := mt (i + 1) + 1) hN hK hCT.1 hCT.2.2.1 (by omega) (by omega) t2 t3
      rw [show nI (kd + 1) - 1 = nI kd from pk_sub (b := 1) (by omega)] at a1
      rw [a1]
      simp only [Option.bind_some]
      rw [hCT.2.1.2, a2]
      simp only [Option.bind_some]
      cases ho : tko ch mt ab (mt (i + 1) + 1) (kd + 1) with
      | none =>
        rw [show oB bn none = -1 from rfl, if_pos rfl]
        refine WP.ret ⟨_, _, rfl, j1.as (fun b' k' _ _ => ?_) (fun b' kk _ _ => ?_) (fun _ _ => Iff.rfl), j2, fun x hx => ?_⟩
        · constructor
          · rintro ⟨k0, p, z1, z2⟩; exact ⟨k0, p, by omega, z2⟩
          · rintro ⟨k0, p, z1, z2, z3⟩
            refine ⟨k0, p, ?_, z2, z3⟩
            rcases Nat.lt_or_ge k0 kd with w | w
            · exact w
            · obtain rfl : k0 = kd := by omega
              rw [ho] at z2; cases z2
        · constructor
          · rintro ⟨p, z1, z2⟩; exact ⟨p, by omega, z2⟩
          · rintro ⟨p, z1, z2, z3⟩
            refine ⟨p, ?_, z2, z3⟩
            rcases Nat.lt_or_ge kk kd with w | w
            · exact w
            · obtain rfl : kk = kd := by omega
              rw [ho] at z2; cases z2
        · rw [b_or, b_one (by omega) hx, Bool.or_eq_true, decide_eq_true_iff, j3 x hx]
          constructor
          · rintro ((z | ⟨k0, z1, z2⟩ | ⟨k0, p, z1, z2⟩) | z)
            · exact Or.inl z
            · exact Or.inr (Or.inl ⟨k0, by omega, z2⟩)
            · exact Or.inr (Or.inr ⟨k0, p, by omega, z2⟩)
            · exact Or.inr (Or.inl ⟨kd, by omega, ho, q, z⟩)
          · rintro (z | ⟨k0, z1, z2, z3, z4⟩ | ⟨k0, p, z1, z2, z3⟩)
            · exact Or.inl (Or.inl z)
            · rcases Nat.lt_or_ge k0 kd with w | w
              · exact Or.inl (Or.inr (Or.inl ⟨k0, w, z2, z3, z4⟩))
              · obtain rfl : k0 = kd := by omega
                exact Or.inr z4
            · rcases Nat.lt_or_ge k0 kd with w | w
              · exact Or.inl (Or.inr (Or.inr ⟨k0, p, w, z2, z3⟩))
              · obtain rfl : k0 = kd := by omega
                rw [ho] at z2; cases z2
      | some p =>
        obtain ⟨_, _, r, hr, hpr, hlp, hab⟩ := tko_sp ho
        have hsbt : sbt ch mt i p := ⟨h84, r, hr, by rw [← hpr]; exact hlp, hpr⟩
        have hp1 : ch (p + 1) = 123 := by rw [hpr]; exact t2 r hr (by rw [← hpr]; exact hlp)
        obtain ⟨bp, fp⟩ := hK.2.2.2.2.1 _ hp1
        have hmp : ag (bn (p + 1)) → ab kd (kp (bn (p + 1))) = true := fun _ => by
          rw [hbt p hsbt]
          rw [Nat.add_sub_cancel] at hab
          exact hab
        rw [show oB bn (some p) = nI (bn (p + 1)) from rfl, if_neg (by rw [nI_m1 (by have := hK.2.1.2.1; omega)]; exact id)]
        obtain ⟨T1, x1, u1, v1⟩ := s_addT (N := N) hK hCT bp hkd
        have hC1 := hCT.mv u1.1
        obtain ⟨T2, x2, u2, v2⟩ := s_rch (N := N) hK hC1 bp hkd
        have hC2 := hC1.mv u2.1
        obtain ⟨W2, x3, g3⟩ := s_ways hN hK hC2 bp hkd hmp
        rw [fp] at g3
        rw [hCT.2.1.2, x1]
        simp only [Option.bind_some]
        rw [x2]
        simp only [Option.bind_some]
        rw [x3]
        simp only [Option.bind_some]
        refine WP.ret ⟨_, _, rfl, ((j1.trans u1).trans u2).as (fun b' k' _ _ => ?_) (fun b' kk _ _ => ?_) (fun _ _ => by simp), v2.trans (v1.trans j2), fun x hx => ?_⟩
        · constructor
          · rintro ((⟨k0, p', z1, z2⟩ | z) | ⟨z1, z2⟩)
            · exact ⟨k0, p', by omega, z2⟩
            · exact z.elim
            · exact ⟨kd, p, by omega, ho, q, z1, by rw [z1]; exact z2⟩
          · rintro ⟨k0, p', z1, z2, z3, z4, z5⟩
            rcases Nat.lt_or_ge k0 kd with w | w
            · exact Or.inl (Or.inl ⟨k0, p', w, z2, z3, z4, z5⟩)
            · obtain rfl : k0 = kd := by omega
              rw [ho] at z2
              obtain rfl : p = p' := Option.some.inj z2
              exact Or.inr ⟨z4, by rw [z4] at z5; exact z5⟩
        · constructor
          · rintro ((⟨p', z1, z2⟩ | ⟨z1, z2⟩) | z)
            · exact ⟨p', by omega, z2⟩
            · subst z2; exact ⟨p, by omega, ho, q, z1⟩
            · exact z.elim
          · rintro ⟨p', z1, z2, z3, z4⟩
            rcases Nat.lt_or_ge kk kd with w | w
            · exact Or.inl (Or.inl ⟨p', w, z2, z3, z4⟩)
            · obtain rfl : kk = kd := by omega
              rw [ho] at z2
              obtain rfl : p = p' := Option.some.inj z2
              exact Or.inl (Or.inr ⟨z4, rfl⟩)
        · rw [b_or, Bool.or_eq_true, g3 x hx, j3 x hx]
          constructor
          · rintro ((z | ⟨k0, z1, z2⟩ | ⟨k0, p', z1, z2⟩) | ⟨z1, z2⟩)
            · exact Or.inl z
            · exact Or.inr (Or.inl ⟨k0, by omega, z2⟩)
            · exact Or.inr (Or.inr ⟨k0, p', by omega, z2⟩)
            · exact Or.inr (Or.inr ⟨kd, p, by omega, ho, q, z1, z2⟩)
          · rintro (z | ⟨k0, z1, z2, z3⟩ | ⟨k0, p', z1, z2, z3, z4, z5⟩)
            · exact Or.inl (Or.inl z)
            · rcases Nat.lt_or_ge k0 kd with w | w
              · exact Or.inl (Or.inr (Or.inl ⟨k0, w, z2, z3⟩))
              · obtain rfl : k0 = kd := by omega
                rw [ho] at z2; cases z2
            · rcases Nat.lt_or_ge k0 kd with w | w
              · exact Or.inl (Or.inr (Or.inr ⟨k0, p', w, z2, z3, z4, z5⟩))
              · obtain rfl : k0 = kd := by omega
                rw [ho] at z2
                obtain rfl : p = p' := Option.some.inj z2
                exact Or.inr ⟨z4, z5⟩
    · rw [if_neg (fun z => q (hbt1.mp z).2), if_pos rfl]
      have lt : ∀ {k0 : Nat}, k0 < kd + 1 → sup (Tab ch mt ab n X (i + 2) (k + 1) 0) (k0 + 1) → k0 < kd := fun {k0} h1 h2 => by
        rcases Nat.lt_or_ge k0 kd with w | w
        · exact w
        · obtain rfl : k0 = kd := by omega
          exact absurd h2 q
      refine WP.ret ⟨_, _, rfl, j1.as (fun b' k' _ _ => ?_) (fun b' kk _ _ => ?_) (fun _ _ => Iff.rfl), j2, fun x hx => ?_⟩
      · constructor
        · rintro ⟨k0, p, z1, z2⟩; exact ⟨k0, p, by omega, z2⟩
        · rintro ⟨k0, p, z1, z2, z3, z4⟩; exact ⟨k0, p, lt z1 z3, z2, z3, z4⟩
      · constructor
        · rintro ⟨p, z1, z2⟩; exact ⟨p, by omega, z2⟩
        · rintro ⟨p, z1, z2, z3, z4⟩; exact ⟨p, lt z1 z3, z2, z3, z4⟩
      · rw [j3 x hx]
        constructor
        · rintro (z | ⟨k0, z1, z2⟩ | ⟨k0, p', z1, z2⟩)
          · exact Or.inl z
          · exact Or.inr (Or.inl ⟨k0, by omega, z2⟩)
          · exact Or.inr (Or.inr ⟨k0, p', by omega, z2⟩)
        · rintro (z | ⟨k0, z1, z2, z3, z4⟩ | ⟨k0, p', z1, z2, z3, z4⟩)
          · exact Or.inl z
          · exact Or.inr (Or.inl ⟨k0, lt z1 z3, z2, z3, z4⟩)
          · exact Or.inr (Or.inr ⟨k0, p', lt z1 z3, z2, z3, z4⟩)
  · obtain ⟨j1, j2, j3⟩ := hJ
    unfold bfX6_traceTaking_49
    dsimp only
    rw [if_pos (show (6 : Int32) ≤ nI 6 by decide)]
    refine WP.ret ⟨_, rfl, j1.as (fun _ _ _ _ => Iff.rfl) (fun b' kk _ _ => ?_) (fun _ _ => Iff.rfl), j2, fun x hx => ?_⟩
    · constructor
      · rintro ⟨p, z1, z2, z3, z4⟩; exact ⟨p, ⟨h84, z1, z2, z3⟩, z4⟩
      · rintro ⟨p, ⟨_, z1, z2, z3⟩, z4⟩; exact ⟨p, z1, z2, z3, z4⟩
    · rw [j3 x hx]
      have none07 : ∀ w, (w = 0 ∨ w = 7) → tko ch mt ab (mt (i + 1) + 1) w = none := fun w hw => by
        unfold tko
        rw [if_neg (by omega)]
      constructor
      · rintro (⟨z1, z2, z3⟩ | ⟨k0, z1, z2, z3, z4⟩ | ⟨k0, p, z1, z2, z3, z4, z5⟩)
        · exact ⟨z1, Or.inl ⟨none07 x z2, z3⟩⟩
        · subst z4; exact ⟨by omega, Or.inl ⟨z2, z3⟩⟩
        · exact ⟨z4, Or.inr ⟨k0, p, z1, z2, z3, z5⟩⟩
      · rintro ⟨z1, ⟨z2, z3⟩ | ⟨k0, p, z2, z3, z4, z5⟩⟩
        · by_cases w : x = 0 ∨ x = 7
          · exact Or.inl ⟨z1, w, z3⟩
          · obtain ⟨k0, rfl⟩ : ∃ k0, x = k0 + 1 := ⟨x - 1, by omega⟩
            exact Or.inr (Or.inl ⟨k0, by omega, z2, z3, rfl⟩)
        · exact Or.inr (Or.inr ⟨k0, p, z2, z3, z4, z1, z5⟩)
  · constructor
    · exact fun z => z.elim
    · rintro ⟨k0, p, z, _⟩; omega
  · constructor
    · exact fun z => z.elim
    · rintro ⟨p, z, _⟩; omega
  · rw [b_and, Bool.and_eq_true, hWb x hx, b129 x hx]
    constructor
    · rintro ⟨⟨z1, z2⟩, z3⟩; exact Or.inl ⟨z1, z3, z2⟩
    · rintro (⟨z1, z2, z3⟩ | ⟨k0, z, _⟩ | ⟨k0, p, z, _⟩)
      · exact ⟨⟨z1, z3⟩, z2⟩
      · omega
      · omega
end TC2
