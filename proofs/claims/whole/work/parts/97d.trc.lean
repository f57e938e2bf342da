/-! ===== the first program's tracer: a block ===== -/
section TC4
variable {N m n B : Nat} {ch mt bn fs kp : Nat → Nat} {ag : Nat → Prop} {ab : Nat → Nat → Bool} {X : Nat → Nat} {S : St}
theorem s_canX (hN : 60 < N) {r s e : Nat} (hr : r < 8) (hs : s < 4) (he : e < 7) (h : ∀ t, t < 4 → S.1 19 ((r * 4 + s) * 28 + (e * 4 + t)) = eC (X ((r * 4 + s) * 28 + (e * 4 + t)))) : fX0_canLeave N (nI r) (nI s) (nI e) S = some (bP (∃ t, t < 4 ∧ X ((r * 4 + s) * 28 + (e * 4 + t)) < 1000), S) := by
  have key : ∀ (m t M : Nat), t + m = 4 → m < M → (∀ u, u < t → ¬ X ((r * 4 + s) * 28 + (e * 4 + u)) < 1000) → whl M (bfX0_canLeave_3 N (nI r) (nI s) (nI e)) (nI t, S) = some (bP (∃ t, t < 4 ∧ X ((r * 4 + s) * 28 + (e * 4 + t)) < 1000), S) := by
    intro m
    induction m with
    | zero =>
      intro t M ht hM hno
      obtain ⟨M', rfl⟩ : ∃ M', M = M' + 1 := ⟨M - 1, by omega⟩
      obtain rfl : t = 4 := by omega
      refine whl_e ?_
      unfold bfX0_canLeave_3
      rw [if_pos (show (4 : Int32) ≤ nI 4 by decide), bP_0 (fun ⟨u, h1, h2⟩ => hno u h1 h2)]
    | succ m ih =>
      intro t M ht hM hno
      obtain ⟨M', rfl⟩ : ∃ M', M = M' + 1 := ⟨M - 1, by omega⟩
      by_cases q : X ((r * 4 + s) * 28 + (e * 4 + t)) < 1000
      · refine whl_e ?_
        unfold bfX0_canLeave_3
        rw [if_neg (show ¬ (4 : Int32) ≤ nI t from nI_ge (b := 4) (by omega) (by omega)), s_fewest N S hr hs he (show t < 4 by omega)]
        simp only [Option.bind_some]
        rw [h t (by omega), if_neg (fun z => by have := eC_ge.mp z; omega), bP_1 ⟨t, by omega, q⟩]
      · have e1 : bfX0_canLeave_3 N (nI r) (nI s) (nI e) (nI t, S) = some (.inl (nI (t + 1), S)) := by
          unfold bfX0_canLeave_3
          rw [if_neg (show ¬ (4 : Int32) ≤ nI t from nI_ge (b := 4) (by omega) (by omega)), s_fewest N S hr hs he (show t < 4 by omega)]
          simp only [Option.bind_some]
          rw [h t (by omega), if_pos (eC_ge.mpr (by omega)), nI_1]
        rw [whl_s e1]
        refine ih (t + 1) M' (by omega) (by omega) (fun u hu => ?_)
        by_cases w : u = t
        · rw [w]; exact q
        · exact hno u (by omega)
  unfold fX0_canLeave fX0_canLeave_3
  rw [show (((0 : Int32), S) : Int32 × St) = (nI 0, S) from rfl, key 4 0 N (by omega) (by omega) (fun u hu => absurd hu (by omega))]
  rfl
theorem no_sets {τ : Nat → Nat → Nat → Nat → Nat} {tk i : Nat} (h : ch i ≠ 63 ∧ ch i ≠ 42 ∧ ch i ≠ 84) {T : St} (u : Up m (fun _ _ => False) (fun _ _ => False) (fun _ => False) S T) : Up m (PE ch mt ab τ ag fs B tk i) (QE ch mt ab τ bn tk i) (Lo ch mt ab τ tk i) S T :=
  u.as (fun b' k' _ _ => ⟨fun z => z.elim, fun ⟨sp', tk', he, _⟩ => by
    rcases he with ⟨y, _⟩ | ⟨y, _⟩ | ⟨y, _⟩
    · exact absurd y h.1
    · exact absurd y h.2.1
    · exact absurd y h.2.2⟩) (fun b' k' _ _ => ⟨fun z => z.elim, fun ⟨p, z, _⟩ => absurd z.1 h.2.2⟩) (fun k' _ => ⟨fun z => z.elim, fun z => absurd z.1 h.2.2⟩)
theorem s_tstep (hN : 60 < N) (hK : TK n B ch mt bn fs kp ag) (hX : SI X) (hC : CT m n B ch mt bn fs kp ag ab X S) {i j k e : Nat} (hk : k < 6) (hs : OkS ch mt i e) (hie : i < e) (he : e ≤ 60) (hj : j < 60) (hsub : ∀ q, sbn ch mt i q → ag (bn q) → ab k (kp (bn q)) = true) (hbt : ∀ p, sbt ch mt i p → kp (bn (p + 1)) = ch p - 65) (hal : S.1 36 5 = 1) :
    ∃ pl T, bfX6_traceBlock_27 N (nI k) (nI e) (nI i, nI j, S) = some (.inl (nI pl, nI (j + 1), T)) ∧ Up m (PE ch mt ab (Tab ch mt ab n X) ag fs B (k + 1) i) (QE ch mt ab (Tab ch mt ab n X) bn (k + 1) i) (Lo ch mt ab (Tab ch mt ab n X) (k + 1) i) S T ∧ T.1 36 5 = bP (sup (un ch mt ab X (Tab ch mt ab n X) (k + 1) i 0) 0) ∧ (sup (un ch mt ab X (Tab ch mt ab n X) (k + 1) i 0) 0 → pl = nxt ch mt i) := by
  have hW := hK.1.1
  have hc := hK.1.2
  have hB := hK.2.1.2.1
  have eA := s_at (N := N) hW hC.1 (i := i) (by omega)
  have eA1 := s_at (N := N) hW hC.1 (i := i + 1) (by omega)
  have ei : nI i + 1 = nI (i + 1) := nI_add i 1
  have ei2 : nI i + 2 = nI (i + 2) := nI_add i 2
  have ej : nI j + 1 = nI (j + 1) := nI_add j 1
  have cy : ∀ {x : Nat}, 0 < x → x < 256 → ch i = x → cA n ch i = nI x := fun h1 h2 h3 => (cA_is hW hc h1 h2).mpr h3
  have cn : ∀ {x : Nat}, 0 < x → x < 256 → ch i ≠ x → ¬ cA n ch i = nI x := fun h1 h2 h3 z => h3 ((cA_is hW hc h1 h2).mp z)
  unfold bfX6_traceBlock_27 fX6_traceBlock_213
  dsimp only
  rw [if_neg (show ¬ (60 : Int32) ≤ nI j from nI_ge (b := 60) (by omega) (by omega)), if_neg (nI_ge hie (by omega)), if_neg (show ¬ S.1 36 5 = 0 by rw [hal]; decide), hC.2.1.2, eA]
  simp only [Option.bind_some]
  rw [ej, ei, ei2]
  by_cases q42 : ch i = 42
  · rw [if_pos (show cA n ch i = 42 from cy (x := 42) (by omega) (by omega) q42), hC.2.1.2]
    obtain ⟨s1, s2⟩ := hs.s q42
    obtain ⟨b1, f1⟩ := hK.2.2.2.2.1 _ s1
    obtain ⟨T, e1, u1, v1⟩ := s_rch (N := N) hK hC b1 hk
    have hC1 := hC.mv u1.1
    rw [s_blockAt hW hc hC.1 s1]
    simp only [Option.bind_some]
    rw [e1]
    simp only [Option.bind_some]
    rw [hC1.2.1.2, s_closeOf hB hC1.1 b1, hK.end s1]
    simp only [Option.bind_some]
    rw [show nI (mt (i + 1)) + 1 = nI (mt (i + 1) + 1) from nI_add _ 1]
    refine ⟨_, _, rfl, u1.as (fun b' k' _ _ => ?_) (fun b' k' _ _ => ⟨fun z => z.elim, fun ⟨p, z, _⟩ => absurd z.1 (by omega)⟩) (fun k' _ => ⟨fun z => z.elim, fun z => absurd z.1 (by omega)⟩), by rw [v1, hal, bP_1 (go_42 q42)], fun _ => ?_⟩
    · constructor
      · rintro ⟨z1, z2⟩
        subst z1
        exact ⟨_, _, Or.inr (Or.inl ⟨q42, rfl, rfl⟩), b1, f1, z2⟩
      · rintro ⟨sp', tk', hE, z1, z2, z3⟩
        rcases hE with ⟨y, _⟩ | ⟨_, y1, y2⟩ | ⟨y, _⟩
        · omega
        · subst y2
          have := (hK.inj z1 s1).mp (z2.trans y1)
          subst this
          exact ⟨rfl, z3⟩
        · omega
    · unfold nxt; rw [if_neg (by omega), if_pos q42]
  rw [if_neg (show ¬ cA n ch i = 42 from cn (x := 42) (by omega) (by omega) q42)]
  have nx2 : ch i ≠ 63 → ch i ≠ 42 → ch i ≠ 84 → ch i ≠ 94 → ch i ≠ 46 → nxt ch mt i = i + 2 := fun h1 h2 h3 h4 h5 => by
    unfold nxt; rw [if_neg h1, if_neg h2, if_neg h3, if_neg (by omega)]
  have pm : ch i = 43 ∨ ch i = 45 → ch (i + 1) = 48 ∨ ch (i + 1) = 49 := fun h => by
    rcases hs with h1 | h1 | h1 | h1 | h1 | h1 | h1
    · have := h1.1; omega
    · have := h1.1; omega
    · exact h1.2.1
    · have := h1.1; omega
    · have := h1.1; omega
    · have := h1.1; omega
    · have := h1.1; omega
  by_cases q43 : ch i = 43
  · rw [if_pos (show cA n ch i = 43 from cy (x := 43) (by omega) (by omega) q43)]
    exact ⟨_, _, rfl, no_sets (by omega) (Up.refl S), by rw [hal, bP_1 (go_pm (Or.inl q43) (pm (Or.inl q43)))], fun _ => (nx2 (by omega) (by omega) (by omega) (by omega) (by omega)).symm⟩
  rw [if_neg (show ¬ cA n ch i = 43 from cn (x := 43) (by omega) (by omega) q43)]
  by_cases q45 : ch i = 45
  · rw [if_pos (show cA n ch i = 45 from cy (x := 45) (by omega) (by omega) q45)]
    exact ⟨_, _, rfl, no_sets (by omega) (Up.refl S), by rw [hal, bP_1 (go_pm (Or.inr q45) (pm (Or.inr q45)))], fun _ => (nx2 (by omega) (by omega) (by omega) (by omega) (by omega)).symm⟩
  rw [if_neg (show ¬ cA n ch i = 45 from cn (x := 45) (by omega) (by omega) q45)]
  by_cases q63 : ch i = 63
  · rw [if_pos (show cA n ch i = 63 from cy (x := 63) (by omega) (by omega) q63)]
    obtain ⟨T, e1, u1, v1⟩ := s_tchoice hN hK hC hk q63 hs hsub
    rw [e1]
    exact ⟨_, _, rfl, u1, v1, fun _ => rfl⟩
  rw [if_neg (show ¬ cA n ch i = 63 from cn (x := 63) (by omega) (by omega) q63)]
  by_cases q64 : ch i = 64
  · rw [if_pos (show cA n ch i = 64 from cy (x := 64) (by omega) (by omega) q64)]
    have h64 : 97 ≤ ch (i + 1) ∧ ch (i + 1) ≤ 104 := by
      rcases hs with h1 | h1 | h1 | h1 | h1 | h1 | h1
      · have := h1.1; omega
      · exact ⟨h1.2.1, h1.2.2.1⟩
      · have := h1.1; omega
      · have := h1.1; omega
      · have := h1.1; omega
      · have := h1.1; omega
      · have := h1.1; omega
    have hcl : clb ch (ch (i + 1) - 97) := ⟨i, q64, by omega⟩
    have e97 : cA n ch (i + 1) - 97 = nI (ch (i + 1) - 97) := cA_97 hW.2.1 h64.1
    have hcan : fX0_canLeave N (nI (ch (i + 1) - 97)) 0 0 S = some (bP (∃ t, t < 4 ∧ X (((ch (i + 1) - 97) * 4 + 0) * 28 + (0 * 4 + t)) < 1000), S) := s_canX hN (r := ch (i + 1) - 97) (s := 0) (e := 0) (by omega) (by omega) (by omega) (fun t ht => hC.2.2.2.2 _ (by omega) hcl _ (by omega))
    rw [hC.2.1.2, eA1]
    simp only [Option.bind_some]
    rw [e97, hcan]
    simp only [Option.bind_some]
    rw [if_pos (bP_01 _)]
    exact ⟨_, _, rfl, no_sets (by omega) (Up.al _), by rw [si_at]; exact bP_congr (go_64 q64).symm, fun _ => (nx2 (by omega) (by omega) (by omega) (by omega) (by omega)).symm⟩
  rw [if_neg (show ¬ cA n ch i = 64 from cn (x := 64) (by omega) (by omega) q64)]
  by_cases q84 : ch i = 84
  · rw [if_pos (show cA n ch i = 84 from cy (x := 84) (by omega) (by omega) q84)]
    obtain ⟨pl, T, e1, u1, v1, g1⟩ := s_ttaking hN hK hX hC hk q84 hs hsub hbt
    rw [e1]
    exact ⟨_, _, rfl, u1, v1, g1⟩
  rw [if_neg (show ¬ cA n ch i = 84 from cn (x := 84) (by omega) (by omega) q84)]
  have hno : ¬ sup (un ch mt ab X (Tab ch mt ab n X) (k + 1) i 0) 0 := by
    rcases hs with h1 | h1 | h1 | h1 | h1 | h1 | h1
    · exact go_no (Or.inl ⟨h1.1, h1.2.1⟩)
    · exact absurd h1.1 q64
    · have := h1.1; omega
    · rcases h1.1 with h2 | h2
      · exact go_no (Or.inr (Or.inl h2))
      · exact go_no (Or.inr (Or.inr h2))
    · exact absurd h1.1 q63
    · exact absurd h1.1 q42
    · exact absurd h1.1 q84
  exact ⟨_, _, rfl, no_sets ⟨q63, q42, q84⟩ (Up.al _), by rw [si_at, bP_0 hno], fun z => absurd z hno⟩
theorem s_tblock (hN : 100 < N) (hK : TK n B ch mt bn fs kp ag) (hX : SI X) (hC : CT m n B ch mt bn fs kp ag ab X S) {b k : Nat} (hb : b < B) (hk : k < 6) (hm : ag b → ab k (kp b) = true) :
    WP (fX6_traceBlock N (nI b) (nI k) S) (fun T => Up m (fun b' k' => ∃ i, StR ch mt ab n X (k + 1) (fs b) i ∧ PE ch mt ab (Tab ch mt ab n X) ag fs B (k + 1) i b' k') (fun b' kk => ∃ i, StR ch mt ab n X (k + 1) (fs b) i ∧ QE ch mt ab (Tab ch mt ab n X) bn (k + 1) i b' kk) (fun kk => ∃ i, StR ch mt ab n X (k + 1) (fs b) i ∧ Lo ch mt ab (Tab ch mt ab n X) (k + 1) i kk) S T) := by
  have hW := hK.1.1
  have hc := hK.1.2
  have hB := hK.2.1.2.1
  have hn := hW.1
  have hsp := hK.2.2.1 b hb
  obtain ⟨hw, hle⟩ := hW.sp hsp
  -- where it stops
  have fin : ∀ (j0 : Nat) (T : St), (∀ a, a < j0 → itn ch mt a (fs b) < enp n mt (fs b)) → (∀ a, a + 1 < j0 → sup (un ch mt ab X (Tab ch mt ab n X) (k + 1) (itn ch mt a (fs b)) 0) 0) → (enp n mt (fs b) ≤ itn ch mt j0 (fs b) ∨ (∃ a, a + 1 = j0 ∧ ¬ sup (un ch mt ab X (Tab ch mt ab n X) (k + 1) (itn ch mt a (fs b)) 0) 0)) → Up m (fun b' k' => ∃ a, a < j0 ∧ PE ch mt ab (Tab ch mt ab n X) ag fs B (k + 1) (itn ch mt a (fs b)) b' k') (fun b' kk => ∃ a, a < j0 ∧ QE ch mt ab (Tab ch mt ab n X) bn (k + 1) (itn ch mt a (fs b)) b' kk) (fun kk => ∃ a, a < j0 ∧ Lo ch mt ab (Tab ch mt ab n X) (k + 1) (itn ch mt a (fs b)) kk) S T → Up m (fun b' k' => ∃ i, StR ch mt ab n X (k + 1) (fs b) i ∧ PE ch mt ab (Tab ch mt ab n X) ag fs B (k + 1) i b' k') (fun b' kk => ∃ i, StR ch mt ab n X (k + 1) (fs b) i ∧ QE ch mt ab (Tab ch mt ab n X) bn (k + 1) i b' kk) (fun kk => ∃ i, StR ch mt ab n X (k + 1) (fs b) i ∧ Lo ch mt ab (Tab ch mt ab n X) (k + 1) i kk) S T := by
    intro j0 T h1 h2 h3 hu
    have st : ∀ i, StR ch mt ab n X (k + 1) (fs b) i ↔ ∃ a, a < j0 ∧ i = itn ch mt a (fs b) := by
      intro i
      constructor
      · rintro ⟨j, g1, g2, g3⟩
        refine ⟨j, ?_, g3⟩
        rcases Nat.lt_or_ge j j0 with w | w
        · exact w
        · exfalso
          rcases h3 with h3 | ⟨a, h3, h4⟩
          · have := g1 j0 w; omega
          · exact h4 (g2 a (by omega))
      · rintro ⟨a, ha, g⟩
        exact ⟨a, fun a' ha' => h1 a' (by omega), fun a' ha' => h2 a' (by omega), g⟩
    have sw : ∀ (Q : Nat → Prop), (∃ a, a < j0 ∧ Q (itn ch mt a (fs b))) ↔ ∃ i, StR ch mt ab n X (k + 1) (fs b) i ∧ Q i := fun Q => by
      constructor
      · rintro ⟨a, ha, h⟩; exact ⟨_, (st _).mpr ⟨a, ha, rfl⟩, h⟩
      · rintro ⟨i, hi, h⟩
        obtain ⟨a, ha, e⟩ := (st i).mp hi
        exact ⟨a, ha, by rw [← e]; exact h⟩
    exact hu.as (fun b' k' _ _ => sw (fun i => PE ch mt ab (Tab ch mt ab n X) ag fs B (k + 1) i b' k')) (fun b' kk _ _ => sw (fun i => QE ch mt ab (Tab ch mt ab n X) bn (k + 1) i b' kk)) (fun kk _ => sw (fun i => Lo ch mt ab (Tab ch mt ab n X) (k + 1) i kk))
  have key : ∀ (mm M j : Nat) (T : St), enp n mt (fs b) ≤ mm + itn ch mt j (fs b) → mm + 1 < M → Wlk ch mt (itn ch mt j (fs b)) (enp n mt (fs b)) → (∀ a, a < j → itn ch mt a (fs b) < enp n mt (fs b)) → (∀ a, a < j → sup (un ch mt ab X (Tab ch mt ab n X) (k + 1) (itn ch mt a (fs b)) 0) 0) → T.1 36 5 = 1 → Up m (fun b' k' => ∃ a, a < j ∧ PE ch mt ab (Tab ch mt ab n X) ag fs B (k + 1) (itn ch mt a (fs b)) b' k') (fun b' kk => ∃ a, a < j ∧ QE ch mt ab (Tab ch mt ab n X) bn (k + 1) (itn ch mt a (fs b)) b' kk) (fun kk => ∃ a, a < j ∧ Lo ch mt ab (Tab ch mt ab n X) (k + 1) (itn ch mt a (fs b)) kk) S T → WP (whl M (bfX6_traceBlock_27 N (nI k) (nI (enp n mt (fs b)))) (nI (itn ch mt j (fs b)), nI j, T)) (fun T => Up m (fun b' k' => ∃ i, StR ch mt ab n X (k + 1) (fs b) i ∧ PE ch mt ab (Tab ch mt ab n X) ag fs B (k + 1) i b' k') (fun b' kk => ∃ i, StR ch mt ab n X (k + 1) (fs b) i ∧ QE ch mt ab (Tab ch mt ab n X) bn (k + 1) i b' kk) (fun kk => ∃ i, StR ch mt ab n X (k + 1) (fs b) i ∧ Lo ch mt ab (Tab ch mt ab n X) (k + 1) i kk) S T) := by
    intro mm
    induction mm with
    | zero =>
      intro M j T g1 g2 g3 g4 g5 g6 g7
      have g1 : enp n mt (fs b) ≤ itn ch mt j (fs b) := by omega
      obtain ⟨M', rfl⟩ : ∃ M', M = M' + 1 := ⟨M - 1, by omega⟩
      refine WP.eq (whl_e (y := T) ?_) (fin j T g4 (fun a ha => g5 a (by omega)) (Or.inl g1) g7)
      have hl := g3.le hW
      unfold bfX6_traceBlock_27
      dsimp only
      by_cases w : (60 : Int32) ≤ nI j
      · rw [if_pos w]
      · rw [if_neg w, if_pos (nI_le g1 (by omega))]
    | succ mm ih =>
      intro M j T g1 g2 g3 g4 g5 g6 g7
      obtain ⟨M', rfl⟩ : ∃ M', M = M' + 1 := ⟨M - 1, by omega⟩
      rcases Nat.lt_or_ge (itn ch mt j (fs b)) (enp n mt (fs b)) with w | w
      · have g4' : ∀ a, a ≤ j → itn ch mt a (fs b) < enp n mt (fs b) := fun a ha => by
          rcases Nat.lt_or_ge a j with v | v
          · exact g4 a v
          · obtain rfl : a = j := by omega
            exact w
        obtain ⟨i1, i2, i3⟩ := itn_ge hW j (fs b) hw g4'
        obtain ⟨k1, k2, k3⟩ := hK.2.2.2.2.2.2 b j hb g4'
        obtain ⟨pl, T', e1, u1, v1, l1⟩ := s_tstep (N := N) (j := j) (by omega) hK hX (hC.mv g7.1) hk i3 w (by omega) (show j < 60 by omega) (fun q hq ha => by
          obtain ⟨y1, y2⟩ := k2 q hq
          rw [y2]; exact hm (y1 ha)) k3 g6
        have hstp : ∀ {P : Nat → Prop}, (∃ a, a < j ∧ P (itn ch mt a (fs b))) ∨ P (itn ch mt j (fs b)) ↔ ∃ a, a < j + 1 ∧ P (itn ch mt a (fs b)) := fun {P} => by
          constructor
          · rintro (⟨a, ha, h⟩ | h)
            · exact ⟨a, by omega, h⟩
            · exact ⟨j, by omega, h⟩
          · rintro ⟨a, ha, h⟩
            rcases Nat.lt_or_ge a j with v | v
            · exact Or.inl ⟨a, v, h⟩
            · obtain rfl : a = j := by omega
              exact Or.inr h
        have u2 : Up m (fun b' k' => ∃ a, a < j + 1 ∧ PE ch mt ab (Tab ch mt ab n X) ag fs B (k + 1) (itn ch mt a (fs b)) b' k') (fun b' kk => ∃ a, a < j + 1 ∧ QE ch mt ab (Tab ch mt ab n X) bn (k + 1) (itn ch mt a (fs b)) b' kk) (fun kk => ∃ a, a < j + 1 ∧ Lo ch mt ab (Tab ch mt ab n X) (k + 1) (itn ch mt a (fs b)) kk) S T' := (g7.trans u1).as (fun b' k' _ _ => hstp (P := fun i => PE ch mt ab (Tab ch mt ab n X) ag fs B (k + 1) i b' k')) (fun b' kk _ _ => hstp (P := fun i => QE ch mt ab (Tab ch mt ab n X) bn (k + 1) i b' kk)) (fun kk _ => hstp (P := fun i => Lo ch mt ab (Tab ch mt ab n X) (k + 1) i kk))
        rw [whl_s e1]
        by_cases hgo : sup (un ch mt ab X (Tab ch mt ab n X) (k + 1) (itn ch mt j (fs b)) 0) 0
        · rw [l1 hgo, ← itn_s]
          have hnx := (nxt_ok hW i3).1
          refine ih M' (j + 1) T' (by rw [itn_s]; omega) (by omega) ?_ (fun a ha => g4' a (by omega)) (fun a ha => ?_) (by rw [v1, bP_1 hgo]) u2
          · rw [itn_s]
            rcases i2.cases with v | v
            · omega
            · exact v.2.2
          · rcases Nat.lt_or_ge a j with v | v
            · exact g5 a v
            · obtain rfl : a = j := by omega
              exact hgo
        · obtain ⟨M'', rfl⟩ : ∃ M'', M' = M'' + 1 := ⟨M' - 1, by omega⟩
          refine WP.eq (whl_e (y := T') ?_) (fin (j + 1) T' (fun a ha => g4' a (by omega)) (fun a ha => g5 a (by omega)) (Or.inr ⟨j, rfl, hgo⟩) u2)
          unfold bfX6_traceBlock_27
          dsimp only
          by_cases y : (60 : Int32) ≤ nI (j + 1)
          · rw [if_pos y]
          · rw [if_neg y]
            by_cases y2 : nI (enp n mt (fs b)) ≤ nI pl
            · rw [if_pos y2]
            · rw [if_neg y2, if_pos (by rw [v1, bP_0 hgo])]
      · refine WP.eq (whl_e (y := T) ?_) (fin j T g4 (fun a ha => g5 a (by omega)) (Or.inl w) g7)
        have hl := g3.le hW
        unfold bfX6_traceBlock_27
        dsimp only
        by_cases y : (60 : Int32) ≤ nI j
        · rw [if_pos y]
        · rw [if_neg y, if_pos (nI_le w (by omega))]
  have u0 : Up m (fun _ _ => False) (fun _ _ => False) (fun _ => False) S (st_i S 36 5 1) := Up.al 1
  have hC0 := hC.mv u0.1
  unfold fX6_traceBlock fX6_traceBlock_27
  rw [hC0.2.1.2, s_firstOf hB hC0.1 hb]
  simp only [Option.bind_some]
  rw [hC0.2.1.2, s_closeOf hB hC0.1 hb]
  simp only [Option.bind_some]
  refine WP.bnd (key 60 N 0 (st_i S 36 5 1) ?_ (by omega) hw (fun a ha => absurd ha (by omega)) (fun a ha => absurd ha (by omega)) (si_at _ _ _ _) (u0.as (fun b' k' _ _ => ?_) (fun b' k' _ _ => ?_) (fun k' _ => ?_))) (fun y hy => WP.ret hy)
  · omega
  · exact ⟨fun z => z.elim, fun ⟨a, z, _⟩ => absurd z (by omega)⟩
  · exact ⟨fun z => z.elim, fun ⟨a, z, _⟩ => absurd z (by omega)⟩
  · exact ⟨fun z => z.elim, fun ⟨a, z, _⟩ => absurd z (by omega)⟩
end TC4
