/-! ===== the first program's tracer: a taking with its ending ===== -/
section TC3
variable {N m n B : Nat} {ch mt bn fs kp : Nat → Nat} {ag : Nat → Prop} {ab : Nat → Nat → Bool} {X : Nat → Nat} {S : St}
theorem bm129 : ∀ x, x < 32 → (bt (-129) x = true ↔ x ≠ 7) := by decide +kernel
theorem bm2 : ∀ x, x < 32 → (bt (-2) x = true ↔ x ≠ 0) := by decide +kernel
theorem b_nz {V : Int32} : V = 0 ↔ ∀ x, x < 32 → ¬ bt V x = true := by
  constructor
  · intro h x _; rw [h, b_0]; simp
  · intro h
    refine b_ext (fun i hi => ?_)
    rw [b_0]
    exact Bool.eq_false_iff.mpr (h i hi)
theorem s_lostAt (V : Int32) {Q : Nat → Prop} (hV : ∀ x, x < 32 → (bt V x = true ↔ x < 8 ∧ Q x)) : ∃ T, fX5_addLost N m ((V &&& (-129)) >>> (1 &&& 31)) S = some T ∧ Up m (fun _ _ => False) (fun _ _ => False) (fun kk => kk < 6 ∧ Q (kk + 1)) S T ∧ T.1 36 = S.1 36 := by
  have h36 : TA m ≠ 36 := TA_ne m 0 (by omega) (by simp)
  have h46 : TA m ≠ 46 := TA_ne m 0 (by omega) (by simp)
  refine ⟨_, rfl, ⟨⟨rfl, fun c hc => si_nx _ _ (fun q => hc (by rw [q]; simp)), fun j hj => si_ni _ _ hj, fun j _ => by rw [si_nx _ _ (Ne.symm h36)]⟩, fun b' k' _ _ => ?_, fun b' k' _ _ => ?_, fun x hx => ?_⟩, si_nx _ _ (Ne.symm h36)⟩
  · rw [si_nx _ _ (Ne.symm h46)]; simp
  · rw [si_nx _ _ (by omega)]; simp
  · rw [si_at, b_or, Bool.or_eq_true]
    have e : bt ((V &&& (-129)) >>> ((1 : Int32) &&& 31)) x = if 1 + x < 32 then bt (V &&& (-129)) (1 + x) else bt (V &&& (-129)) 31 := b_sshr 1 (by omega) (V &&& (-129)) hx
    rw [e]
    have key : (if 1 + x < 32 then bt (V &&& (-129)) (1 + x) else bt (V &&& (-129)) 31) = true ↔ x < 6 ∧ Q (x + 1) := by
      by_cases w : 1 + x < 32
      · rw [if_pos w, b_and, Bool.and_eq_true, hV _ w, bm129 _ w, Nat.add_comm 1 x]
        constructor
        · rintro ⟨⟨z1, z2⟩, z3⟩; exact ⟨by omega, z2⟩
        · rintro ⟨z1, z2⟩; exact ⟨⟨by omega, z2⟩, by omega⟩
      · rw [if_neg w, b_and, Bool.and_eq_true, hV 31 (by omega)]
        constructor
        · rintro ⟨⟨z1, _⟩, _⟩; omega
        · rintro ⟨z1, _⟩; omega
    rw [key]
theorem s_t230 {V : Int32} {pl : Nat} {P : Prop} (h : bt V 0 = true ↔ P) : fX6_traceTaking_230 N V (nI pl) S = some (nI pl, st_i S 36 5 (bP P)) := by
  unfold fX6_traceTaking_230
  rw [s_has0, ite_bP h]
  simp only [Option.bind_some]
  rw [if_pos (bP_01 _)]
theorem s_ttaking (hN : 60 < N) (hK : TK n B ch mt bn fs kp ag) (hX : SI X) (hC : CT m n B ch mt bn fs kp ag ab X S) {i k e : Nat} (hk : k < 6) (h84 : ch i = 84) (hs : OkS ch mt i e) (hsub : ∀ q, sbn ch mt i q → ag (bn q) → ab k (kp (bn q)) = true) (hbt : ∀ p, sbt ch mt i p → kp (bn (p + 1)) = ch p - 65) :
    ∃ pl T, fX6_traceTaking N (nI (i + 1)) (nI k) S = some (nI pl, T) ∧ Up m (PE ch mt ab (Tab ch mt ab n X) ag fs B (k + 1) i) (QE ch mt ab (Tab ch mt ab n X) bn (k + 1) i) (Lo ch mt ab (Tab ch mt ab n X) (k + 1) i) S T ∧ T.1 36 5 = bP (sup (un ch mt ab X (Tab ch mt ab n X) (k + 1) i 0) 0) ∧ (sup (un ch mt ab X (Tab ch mt ab n X) (k + 1) i 0) 0 → pl = nxt ch mt i) := by
  have hW := hK.1.1
  have hc := hK.1.2
  have hB := hK.2.1.2.1
  have hn := hW.1
  obtain ⟨t1, t2, t3, t4⟩ := hs.t h84
  have hbr := hW.br t1
  obtain ⟨b1, f1⟩ := hK.2.2.2.2.1 _ t1
  have f1 : fs (bn (i + 1)) = i + 2 := f1
  have hm1 := hsub (i + 1) (Or.inr (Or.inr ⟨h84, Or.inl rfl⟩))
  have hne : nxt ch mt i = if ch (skp ch mt 6 (mt (i + 1) + 1)) = 90 then mt (skp ch mt 6 (mt (i + 1) + 1) + 1) + 1 else skp ch mt 6 (mt (i + 1) + 1) := by
    unfold nxt
    rw [if_neg (by omega), if_neg (by omega), if_pos h84]
  have hST : ∀ q, sbr ch mt i q → ∀ tk, ST1 (Tab ch mt ab n X (q + 1) tk) := fun q hq tk => Tab_sup hW hX 61 (q + 1) (by omega) (sbr_sp hW hs hq) tk
  have hmd : ∀ w, w < 8 → (sup (mdr ch mt ab (Tab ch mt ab n X) i (k + 1) 0) w ↔ Wm ch mt ab (Tab ch mt ab n X) (k + 1) i w) := fun w hw => Wm_iff (fun p k' ho => by
    obtain ⟨_, _, r, hr, he, hl, _⟩ := tko_sp ho
    exact hST (p + 1) (Or.inr (Or.inr ⟨h84, Or.inr (Or.inl ⟨r, hr, by rw [← he]; exact hl, by rw [← he]⟩)⟩)) (k' + 1)) hw
  obtain ⟨T1, e1, u1, v1⟩ := s_rch (N := N) hK hC b1 hk
  have hC1 := hC.mv u1.1
  obtain ⟨W, w1, g1⟩ := s_ways hN hK hC1 b1 hk hm1
  rw [f1] at g1
  obtain ⟨z, ez, u2, v2, g2⟩ := s_ttakers (l2 := nI k) hN hK hC1 h84 hs hbt g1
  obtain ⟨V, T2⟩ := z
  dsimp only at u2 v2 g2
  have hC2 := hC1.mv u2.1
  have hbh : fX5_behindTakers N m (nI (mt (i + 1) + 1)) T2 = some (nI (skp ch mt 6 (mt (i + 1) + 1)), T2) := by
    unfold fX5_behindTakers fX5_behindTakers_4
    rw [show ((nI (mt (i + 1) + 1), (0 : Int32), T2) : Int32 × Int32 × St) = (nI (mt (i + 1) + 1), nI 0, T2) from rfl, s_behind hK hC2.1 6 N 0 (mt (i + 1) + 1) (by omega) (by omega) (by omega) t2 t3]
    rfl
  have hz60 : skp ch mt 6 (mt (i + 1) + 1) < 900 := by
    by_cases w : ch (skp ch mt 6 (mt (i + 1) + 1)) = 90
    · rcases Nat.lt_or_ge (skp ch mt 6 (mt (i + 1) + 1)) n with u | u
      · omega
      · rw [hW.2.1 _ u] at w; omega
    · have hx := (nxt_ok hW hs).2
      have hle := hne
      rw [if_neg w] at hle t4
      have hsk := skp_up hW (j := mt (i + 1) + 1) t2 (a := 0) (b := 6) (by omega) (by omega)
      rcases Nat.lt_or_ge (skp ch mt 6 (mt (i + 1) + 1)) 900 with u | u
      · exact u
      · exfalso
        have key : ∀ r, r ≤ 6 → skp ch mt r (mt (i + 1) + 1) ≤ n := fun r => by
          induction r with
          | zero => intro _; show mt (i + 1) + 1 ≤ n; omega
          | succ r ih =>
            intro hr
            rw [skp_s]
            by_cases l : ltr (ch (skp ch mt r (mt (i + 1) + 1)))
            · rw [if_pos l]
              have := hW.br (t2 r (by omega) l)
              omega
            · rw [if_neg l]; exact ih (by omega)
        have := key 6 (by omega)
        omega
  have eAt := s_at (N := N) hW hC2.1 (i := skp ch mt 6 (mt (i + 1) + 1)) (by omega)
  have e0 : fX6_traceTaking N (nI (i + 1)) (nI k) S = (if V = 0 then fX6_traceTaking_230 N V (nI (skp ch mt 6 (mt (i + 1) + 1))) T2 else (if cA n ch (skp ch mt 6 (mt (i + 1) + 1)) = 90 then (fX5_blockAt N (T2.2 11) (nI (skp ch mt 6 (mt (i + 1) + 1)) + 1) T2).bind (fun q21 => (fX6_reach N q21.1 (nI k) q21.2).bind (fun q22 => (fX2_waysOf N q21.1 (nI k) q22).bind (fun q23 => (fX6_traceEnding N q23.1 V q23.2).bind (fun q24 => (fX5_closeOf N (q24.2.2 11) q21.1 q24.2).bind (fun q25 => fX6_traceTaking_230 N q24.1 (q25.1 + 1) q25.2))))) else fX6_traceTaking_230 N V (nI (skp ch mt 6 (mt (i + 1) + 1))) T2)) := by
    unfold fX6_traceTaking
    rw [hC.2.1.2, s_blockAt hW hc hC.1 t1]
    simp only [Option.bind_some]
    rw [e1]
    simp only [Option.bind_some]
    rw [hC1.2.1.2, s_closeOf hB hC1.1 b1, hK.end t1]
    simp only [Option.bind_some]
    rw [w1]
    simp only [Option.bind_some]
    rw [show nI (mt (i + 1)) + 1 = nI (mt (i + 1) + 1) from nI_add _ 1, ez]
    simp only [Option.bind_some]
    rw [hC2.2.1.2, hbh]
    simp only [Option.bind_some]
    rw [hC2.2.1.2, eAt]
    simp only [Option.bind_some, hC2.2.1.2]
  rw [e0]
  have u12 := u1.trans u2
  -- edges without the ending
  have fin : ∀ T, Up m (fun _ _ => False) (fun _ _ => False) (fun _ => False) T2 T → (ch (skp ch mt 6 (mt (i + 1) + 1)) = 90 → ∀ w, w < 8 → ¬ Wm ch mt ab (Tab ch mt ab n X) (k + 1) i w) → Up m (PE ch mt ab (Tab ch mt ab n X) ag fs B (k + 1) i) (QE ch mt ab (Tab ch mt ab n X) bn (k + 1) i) (Lo ch mt ab (Tab ch mt ab n X) (k + 1) i) S T := fun T uT hno => (u12.trans uT).as (fun b' k' hb' hk' => by
      constructor
      · rintro ((⟨z1, z2⟩ | ⟨k0, p, z1, z2, z3, z4, z5⟩) | y)
        · subst z1; exact ⟨_, _, Or.inr (Or.inr ⟨h84, Or.inl ⟨rfl, rfl⟩⟩), b1, f1, z2⟩
        · obtain ⟨_, _, r, hr, hpr, hlp, hab⟩ := tko_sp z2
          have hp1 : ch (p + 1) = 123 := by rw [hpr]; exact t2 r hr (by rw [← hpr]; exact hlp)
          obtain ⟨bp, fp⟩ := hK.2.2.2.2.1 _ hp1
          subst z4
          exact ⟨_, _, Or.inr (Or.inr ⟨h84, Or.inr (Or.inl ⟨k0, p, z1, z2, z3, rfl, rfl⟩)⟩), bp, fp, z5⟩
        · exact y.elim
      · rintro ⟨sp', tk', he, z1, z2, z3⟩
        rcases he with ⟨y, _⟩ | ⟨y, _⟩ | ⟨_, ⟨y1, y2⟩ | ⟨k0, p, y0, y1, y2, y3, y4⟩ | ⟨y1, ⟨w, y2, y3⟩, _⟩⟩
        · omega
        · omega
        · subst y2
          have := (hK.inj z1 t1).mp (z2.trans y1)
          subst this
          exact Or.inl (Or.inl ⟨rfl, z3⟩)
        · obtain ⟨_, _, r, hr, hpr, hlp, hab⟩ := tko_sp y1
          have hp1 : ch (p + 1) = 123 := by rw [hpr]; exact t2 r hr (by rw [← hpr]; exact hlp)
          have := (hK.inj z1 hp1).mp (z2.trans y3)
          subst y4
          exact Or.inl (Or.inr ⟨k0, p, y0, y1, y2, this, z3⟩)
        · exact absurd y3 (hno y1 w y2)) (fun b' k' _ _ => by simp) (fun k' _ => by
      constructor
      · rintro ((y | y) | y) <;> exact y.elim
      · rintro ⟨_, y1, y2, y3, _⟩; exact absurd y3 (hno y2 _ (by omega)))
  by_cases qV : V = 0
  · rw [if_pos qV]
    have hno : ∀ w, w < 8 → ¬ Wm ch mt ab (Tab ch mt ab n X) (k + 1) i w := fun w hw y => (b_nz.mp qV w (by omega)) ((g2 w (by omega)).mpr ⟨hw, y⟩)
    have hgo : ¬ sup (un ch mt ab X (Tab ch mt ab n X) (k + 1) i 0) 0 := fun y => by
      by_cases w : ch (skp ch mt 6 (mt (i + 1) + 1)) = 90
      · exact hno 0 (by omega) ((hmd 0 (by omega)).mp ((go_84z h84 w (hST _ (Or.inr (Or.inr ⟨h84, Or.inr (Or.inr ⟨w, rfl⟩)⟩)) _)).mp y).1)
      · exact hno 0 (by omega) ((hmd 0 (by omega)).mp ((go_84 h84 w).mp y))
    rw [s_t230 (P := sup (un ch mt ab X (Tab ch mt ab n X) (k + 1) i 0) 0) (by rw [qV, b_0]; exact ⟨fun y => (by cases y), fun y => absurd y hgo⟩)]
    exact ⟨_, _, rfl, fin _ (Up.al _) (fun _ => hno), si_at _ _ _ _, fun y => absurd y hgo⟩
  · rw [if_neg qV]
    by_cases w : ch (skp ch mt 6 (mt (i + 1) + 1)) = 90
    · rw [if_pos (show cA n ch (skp ch mt 6 (mt (i + 1) + 1)) = 90 from (cA_is hW hc (k := 90) (by omega) (by omega)).mpr w)]
      rw [if_pos w] at t4 hne
      obtain ⟨bz, fz⟩ := hK.2.2.2.2.1 _ t4.1
      have fz : fs (bn (skp ch mt 6 (mt (i + 1) + 1) + 1)) = skp ch mt 6 (mt (i + 1) + 1) + 2 := fz
      have hmz := hsub (skp ch mt 6 (mt (i + 1) + 1) + 1) (Or.inr (Or.inr ⟨h84, Or.inr ⟨w, rfl⟩⟩))
      have hsz : ST1 (Tab ch mt ab n X (skp ch mt 6 (mt (i + 1) + 1) + 2) (k + 1)) := hST _ (Or.inr (Or.inr ⟨h84, Or.inr (Or.inr ⟨w, rfl⟩)⟩)) _
      obtain ⟨T3, e3, u3, v3⟩ := s_rch (N := N) hK hC2 bz hk
      have hC3 := hC2.mv u3.1
      obtain ⟨Wz, wz, gz⟩ := s_ways hN hK hC3 bz hk hmz
      rw [fz] at gz
      have hown : Wz &&& (-2) = 0 ↔ ¬ ∃ w', 1 ≤ w' ∧ w' < 8 ∧ sup (Tab ch mt ab n X (skp ch mt 6 (mt (i + 1) + 1) + 2) (k + 1) 0) w' := by
        rw [b_nz]
        constructor
        · rintro h ⟨w', y1, y2, y3⟩
          refine h w' (by omega) ?_
          rw [b_and, Bool.and_eq_true, gz w' (by omega), bm2 w' (by omega)]
          exact ⟨⟨y2, y3⟩, by omega⟩
        · intro h x hx y
          rw [b_and, Bool.and_eq_true, gz x hx, bm2 x hx] at y
          exact h ⟨x, by omega, y.1.1, y.1.2⟩
      -- the ending's answer
      have hend : ∃ R T4, fX6_traceEnding N Wz V T3 = some (R, T4) ∧ Up m (fun _ _ => False) (fun _ _ => False) (fun kk => (∃ w', 1 ≤ w' ∧ w' < 8 ∧ sup (Tab ch mt ab n X (skp ch mt 6 (mt (i + 1) + 1) + 2) (k + 1) 0) w') ∧ kk < 6 ∧ Wm ch mt ab (Tab ch mt ab n X) (k + 1) i (kk + 1)) T3 T4 ∧ (bt R 0 = true ↔ sup (un ch mt ab X (Tab ch mt ab n X) (k + 1) i 0) 0) := by
        have h23 : ∀ T, ∃ R, fX6_traceEnding_23 N Wz V (Wz &&& (-2)) T = some (R, T) ∧ (bt R 0 = true ↔ sup (un ch mt ab X (Tab ch mt ab n X) (k + 1) i 0) 0) := fun T => by
          unfold fX6_traceEnding_23 fX6_traceEnding_38
          rw [s_has0]
          simp only [Option.bind_some]
          have hgo := go_84z (ab := ab) (X := X) (τ := Tab ch mt ab n X) (tk := k + 1) h84 w hsz
          by_cases y : bt Wz 0 = true
          · rw [if_pos y, if_neg z10]
            refine ⟨_, rfl, ?_⟩
            rw [b_or, Bool.or_eq_true, b_and, Bool.and_eq_true, bm2 0 (by omega), g2 0 (by omega), hgo, hmd 0 (by omega)]
            have y2 := ((gz 0 (by omega)).mp y).2
            constructor
            · rintro (⟨_, y3⟩ | ⟨_, y3⟩)
              · exact ⟨y3, y2⟩
              · exact absurd rfl y3
            · rintro ⟨y3, _⟩; exact Or.inl ⟨by omega, y3⟩
          · rw [if_neg y, if_pos rfl]
            refine ⟨_, rfl, ?_⟩
            rw [b_and, Bool.and_eq_true, bm2 0 (by omega), hgo]
            constructor
            · rintro ⟨_, y3⟩; exact absurd rfl y3
            · rintro ⟨_, y3⟩; exact absurd ((gz 0 (by omega)).mpr ⟨by omega, y3⟩) y
        unfold fX6_traceEnding
        by_cases y : Wz &&& (-2) = 0
        · rw [if_pos y]
          obtain ⟨R, r1, r2⟩ := h23 T3
          refine ⟨R, T3, r1, (Up.refl T3).as (fun _ _ _ _ => Iff.rfl) (fun _ _ _ _ => Iff.rfl) (fun kk _ => ?_), r2⟩
          exact ⟨fun z => z.elim, fun z => hown.mp y z.1⟩
        · rw [if_neg y, hC3.2.1.2]
          obtain ⟨T4, l1, l2, l3⟩ := s_lostAt (N := N) (m := m) (S := T3) V g2
          rw [l1]
          simp only [Option.bind_some]
          obtain ⟨R, r1, r2⟩ := h23 T4
          refine ⟨R, T4, r1, l2.as (fun _ _ _ _ => Iff.rfl) (fun _ _ _ _ => Iff.rfl) (fun kk _ => ?_), r2⟩
          constructor
          · exact fun z => ⟨Classical.byContradiction (fun z2 => y (hown.mpr z2)), z⟩
          · exact fun z => z.2
      obtain ⟨R, T4, r1, u4, r2⟩ := hend
      have hC4 := hC3.mv u4.1
      refine ⟨mt (skp ch mt 6 (mt (i + 1) + 1) + 1) + 1, st_i T4 36 5 (bP (sup (un ch mt ab X (Tab ch mt ab n X) (k + 1) i 0) 0)), ?_, (((u12.trans u3).trans u4).trans (Up.al _)).as (fun b' k' hb' hk' => ?_) (fun b' k' _ _ => by simp) (fun k' _ => ?_), si_at _ _ _ _, fun _ => hne.symm⟩
      · rw [hC2.2.1.2, show nI (skp ch mt 6 (mt (i + 1) + 1)) + 1 = nI (skp ch mt 6 (mt (i + 1) + 1) + 1) from nI_add _ 1, s_blockAt hW hc hC2.1 t4.1]
        simp only [Option.bind_some]
        rw [e3]
        simp only [Option.bind_some]
        rw [wz]
        simp only [Option.bind_some]
        rw [r1]
        simp only [Option.bind_some]
        rw [hC4.2.1.2, s_closeOf hB hC4.1 bz, hK.end t4.1]
        simp only [Option.bind_some]
        rw [show nI (mt (skp ch mt 6 (mt (i + 1) + 1) + 1)) + 1 = nI (mt (skp ch mt 6 (mt (i + 1) + 1) + 1) + 1) from nI_add _ 1, s_t230 r2]
      · have hex : ∃ w', w' < 8 ∧ Wm ch mt ab (Tab ch mt ab n X) (k + 1) i w' := by
          refine Classical.byContradiction (fun y => qV (b_nz.mpr (fun x hx z => y ?_)))
          have := (g2 x hx).mp z
          exact ⟨x, this.1, this.2⟩
        constructor
        · rintro ((((⟨z1, z2⟩ | ⟨k0, p, z1, z2, z3, z4, z5⟩) | ⟨z1, z2⟩) | y) | y)
          · subst z1; exact ⟨_, _, Or.inr (Or.inr ⟨h84, Or.inl ⟨rfl, rfl⟩⟩), b1, f1, z2⟩
          · obtain ⟨_, _, r, hr, hpr, hlp, hab⟩ := tko_sp z2
            have hp1 : ch (p + 1) = 123 := by rw [hpr]; exact t2 r hr (by rw [← hpr]; exact hlp)
            obtain ⟨bp, fp⟩ := hK.2.2.2.2.1 _ hp1
            subst z4
            exact ⟨_, _, Or.inr (Or.inr ⟨h84, Or.inr (Or.inl ⟨k0, p, z1, z2, z3, rfl, rfl⟩)⟩), bp, fp, z5⟩
          · subst z1; exact ⟨_, _, Or.inr (Or.inr ⟨h84, Or.inr (Or.inr ⟨w, hex, rfl, rfl⟩)⟩), bz, fz, z2⟩
          · exact y.elim
          · exact y.elim
        · rintro ⟨sp', tk', he, z1, z2, z3⟩
          rcases he with ⟨y, _⟩ | ⟨y, _⟩ | ⟨_, ⟨y1, y2⟩ | ⟨k0, p, y0, y1, y2, y3, y4⟩ | ⟨y1, y2, y3, y4⟩⟩
          · omega
          · omega
          · subst y2
            have := (hK.inj z1 t1).mp (z2.trans y1)
            subst this
            exact Or.inl (Or.inl (Or.inl (Or.inl ⟨rfl, z3⟩)))
          · obtain ⟨_, _, r, hr, hpr, hlp, hab⟩ := tko_sp y1
            have hp1 : ch (p + 1) = 123 := by rw [hpr]; exact t2 r hr (by rw [← hpr]; exact hlp)
            have := (hK.inj z1 hp1).mp (z2.trans y3)
            subst y4
            exact Or.inl (Or.inl (Or.inl (Or.inr ⟨k0, p, y0, y1, y2, this, z3⟩)))
          · subst y4
            have := (hK.inj z1 t4.1).mp (z2.trans y3)
            subst this
            exact Or.inl (Or.inl (Or.inr ⟨rfl, z3⟩))
      · constructor
        · rintro ((((y | y) | y) | ⟨y1, y2, y3⟩) | y)
          · exact y.elim
          · exact y.elim
          · exact y.elim
          · exact ⟨h84, y2, w, y3, y1⟩
          · exact y.elim
        · rintro ⟨_, y1, y2, y3, y4⟩
          exact Or.inl (Or.inr ⟨y4, y1, y3⟩)
    · rw [if_neg (show ¬ cA n ch (skp ch mt 6 (mt (i + 1) + 1)) = 90 from fun y => w ((cA_is hW hc (k := 90) (by omega) (by omega)).mp y))]
      rw [if_neg w] at hne
      rw [s_t230 (P := sup (un ch mt ab X (Tab ch mt ab n X) (k + 1) i 0) 0) (by rw [g2 0 (by omega), go_84 h84 w, hmd 0 (by omega)]; simp)]
      exact ⟨_, _, rfl, fin _ (Up.al _) (fun y => absurd y w), si_at _ _ _ _, fun _ => hne.symm⟩
end TC3
