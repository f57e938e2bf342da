/-! ===== the first program's tracer: a text ===== -/
section TC5
variable {N m n B : Nat} {ch mt bn fs kp : Nat → Nat} {ag : Nat → Prop} {ab : Nat → Nat → Bool} {X : Nat → Nat} {S : St}
theorem Eg.sbr {τ : Nat → Nat → Nat → Nat → Nat} {tk i sp' tk' : Nat} (h : Eg ch mt ab τ tk i sp' tk') : ∃ q, sp' = q + 1 ∧ sbr ch mt i q ∧ ((tk' = tk ∧ sbn ch mt i q) ∨ ∃ p k, q = p + 1 ∧ k < 6 ∧ tk' = k + 1 ∧ sbt ch mt i p ∧ ab k (ch p - 65) = true) := by
  rcases h with ⟨h1, h2, h3⟩ | ⟨h1, h2, h3⟩ | ⟨h1, ⟨h2, h3⟩ | ⟨k, p, h2, h3, h4, h5, h6⟩ | ⟨h2, h3, h4, h5⟩⟩
  · rcases h2 with h2 | h2
    · exact ⟨i + 1, h2, Or.inl ⟨h1, Or.inl rfl⟩, Or.inl ⟨h3, Or.inl ⟨h1, Or.inl rfl⟩⟩⟩
    · exact ⟨mt (i + 1) + 1, h2, Or.inl ⟨h1, Or.inr rfl⟩, Or.inl ⟨h3, Or.inl ⟨h1, Or.inr rfl⟩⟩⟩
  · exact ⟨i + 1, h2, Or.inr (Or.inl ⟨h1, rfl⟩), Or.inl ⟨h3, Or.inr (Or.inl ⟨h1, rfl⟩)⟩⟩
  · exact ⟨i + 1, h2, Or.inr (Or.inr ⟨h1, Or.inl rfl⟩), Or.inl ⟨h3, Or.inr (Or.inr ⟨h1, Or.inl rfl⟩)⟩⟩
  · obtain ⟨_, _, r, hr, hpr, hlp, hab⟩ := tko_sp h3
    rw [Nat.add_sub_cancel] at hab
    have hs : sbt ch mt i p := ⟨h1, r, hr, by rw [← hpr]; exact hlp, hpr⟩
    exact ⟨p + 1, h5, sbt_sbr hs, Or.inr ⟨p, k, rfl, h2, h6, hs, hab⟩⟩
  · exact ⟨_, h4, Or.inr (Or.inr ⟨h1, Or.inr (Or.inr ⟨h2, rfl⟩)⟩), Or.inl ⟨h5, Or.inr (Or.inr ⟨h1, Or.inr ⟨h2, rfl⟩⟩)⟩⟩
def Snd (m n B : Nat) (ch mt bn fs kp : Nat → Nat) (ag : Nat → Prop) (ab : Nat → Nat → Bool) (X : Nat → Nat) (T : St) : Prop :=
  (∀ b k, b < 31 → k < 32 → bt (T.1 46 b) k = true → b < B ∧ k < 6 ∧ (ag b → ab k (kp b) = true) ∧ ∀ (hb : Nat → Nat → Prop) (lb : Nat → Prop), Mtb hb lb ch mt ab n X (fs b) (k + 1) 0 → Mtb hb lb ch mt ab n X 0 0 0) ∧
  (∀ b k, b < 31 → k < 32 → bt (T.1 (TA m + 7) b) k = true → k < 6 ∧ ∃ p, ch (p + 1) = 123 ∧ b = bn (p + 1) ∧ ab k (ch p - 65) = true ∧ ∀ (hb : Nat → Nat → Prop) (lb : Nat → Prop), hb p k → Mtb hb lb ch mt ab n X 0 0 0) ∧
  (∀ k, k < 32 → bt (T.1 (TA m) 12) k = true → k < 6 ∧ ∀ (hb : Nat → Nat → Prop) (lb : Nat → Prop), lb k → Mtb hb lb ch mt ab n X 0 0 0)
def Don (m n B : Nat) (ch mt bn fs : Nat → Nat) (ag : Nat → Prop) (ab : Nat → Nat → Bool) (X : Nat → Nat) (b k : Nat) (T : St) : Prop :=
  ∀ i, StR ch mt ab n X (k + 1) (fs b) i → (∀ b2 k2, b2 < 31 → k2 < 32 → PE ch mt ab (Tab ch mt ab n X) ag fs B (k + 1) i b2 k2 → bt (T.1 46 b2) k2 = true) ∧ (∀ b2 kk, b2 < 31 → kk < 32 → QE ch mt ab (Tab ch mt ab n X) bn (k + 1) i b2 kk → bt (T.1 (TA m + 7) b2) kk = true) ∧ ∀ kk, kk < 32 → Lo ch mt ab (Tab ch mt ab n X) (k + 1) i kk → bt (T.1 (TA m) 12) kk = true
theorem Don.mv {P Q : Nat → Nat → Prop} {L : Nat → Prop} {b k : Nat} {T : St} (h : Don m n B ch mt bn fs ag ab X b k S) (u : Up m P Q L S T) : Don m n B ch mt bn fs ag ab X b k T := fun i hi => by
  obtain ⟨h1, h2, h3⟩ := h i hi
  exact ⟨fun b2 k2 g1 g2 g3 => (u.2.1 b2 k2 g1 g2).mpr (Or.inl (h1 b2 k2 g1 g2 g3)), fun b2 kk g1 g2 g3 => (u.2.2.1 b2 kk g1 g2).mpr (Or.inl (h2 b2 kk g1 g2 g3)), fun kk g1 g2 => (u.2.2.2 kk g1).mpr (Or.inl (h3 kk g1 g2))⟩
/-- an edge leads to a block with a higher number -/
theorem PE.up (hK : TK n B ch mt bn fs kp ag) {tk b i b2 k2 : Nat} (hb : b < B) (hi : StR ch mt ab n X tk (fs b) i) (h : PE ch mt ab (Tab ch mt ab n X) ag fs B tk i b2 k2) : b < b2 := by
  have hW := hK.1.1
  obtain ⟨h1, h2, h3⟩ := hi.ok hW (hK.2.2.1 b hb)
  obtain ⟨sp', tk', he, z1, z2, z3⟩ := h
  obtain ⟨q, e1, e2, _⟩ := he.sbr
  have := (sbr_ok hW h1 e2).2.1
  rcases Nat.lt_trichotomy b b2 with w | w | w
  · exact w
  · subst w; omega
  · have := hK.2.2.2.1 b2 b w hb; omega
theorem s_tone (hN : 100 < N) (hK : TK n B ch mt bn fs kp ag) (hX : SI X) (hC : CT m n B ch mt bn fs kp ag ab X S) (hS : Snd m n B ch mt bn fs kp ag ab X S) {b k : Nat} (hb31 : b < 31) (hk : k < 6) (hr : bt (S.1 46 b) k = true) :
    WP (fX6_traceBlock N (nI b) (nI k) S) (fun T => (∃ P Q L, Up m P Q L S T) ∧ Snd m n B ch mt bn fs kp ag ab X T ∧ Don m n B ch mt bn fs ag ab X b k T ∧ ∀ b' k', b' ≤ b → k' < 32 → (bt (T.1 46 b') k' = true ↔ bt (S.1 46 b') k' = true)) := by
  have hW := hK.1.1
  obtain ⟨hb, _, hm, hmt⟩ := hS.1 b k hb31 (by omega) hr
  have hsp := hK.2.2.1 b hb
  refine (s_tblock hN hK hX hC hb hk hm).imp (fun T u => ⟨⟨_, _, _, u⟩, ⟨fun b2 k2 g1 g2 g3 => ?_, fun b2 k2 g1 g2 g3 => ?_, fun k2 g2 g3 => ?_⟩, fun i hi => ⟨fun b2 k2 g1 g2 g3 => (u.2.1 b2 k2 g1 g2).mpr (Or.inr ⟨i, hi, g3⟩), fun b2 kk g1 g2 g3 => (u.2.2.1 b2 kk g1 g2).mpr (Or.inr ⟨i, hi, g3⟩), fun kk g1 g2 => (u.2.2.2 kk g1).mpr (Or.inr ⟨i, hi, g2⟩)⟩, fun b' k' g1 g2 => ?_⟩)
  · rcases (u.2.1 b2 k2 g1 g2).mp g3 with w | ⟨i, hi, sp', tk', he, z1, z2, z3⟩
    · exact hS.1 b2 k2 g1 g2 w
    · obtain ⟨hs, o1, o2⟩ := hi.ok hW hsp
      obtain ⟨q, e1, e2, e3⟩ := he.sbr
      obtain ⟨s1, s2, s3⟩ := sbr_ok hW hs e2
      have hbq : b2 = bn q := (hK.inj z1 s1).mp (z2.trans e1)
      obtain ⟨j, j1, j2, j3⟩ := hi
      obtain ⟨k1, k2', k3⟩ := hK.2.2.2.2.2.2 b j hb j1
      rw [← j3] at k1 k2' k3
      have htk : 1 ≤ tk' ∧ tk' ≤ 6 := by
        rcases e3 with ⟨y, _⟩ | ⟨p, kk, _, y1, y2, _⟩ <;> omega
      refine ⟨z1, by rw [z3]; exact kb_lt (by omega), fun ha => ?_, fun hb' lb hm' => ?_⟩
      · rw [z3, kb_y _ ha]
        rcases e3 with ⟨y1, y2⟩ | ⟨p, kk, y0, y1, y2, y3, y4⟩
        · obtain ⟨y5, y6⟩ := k2' q y2
          rw [y1, Nat.add_sub_cancel, hbq, y6]
          exact hm (y5 (by rw [← hbq]; exact ha))
        · rw [y2, Nat.add_sub_cancel, hbq, y0, k3 p y3]; exact y4
      · refine hmt hb' lb ((Mtb_iff hW hX hsp).mpr ⟨i, ⟨j, j1, j2, j3⟩, Or.inl ⟨sp', tk', he, ?_⟩⟩)
        rw [← z2]
        by_cases ha : ag b2
        · rw [z3, kb_y _ ha, show tk' - 1 + 1 = tk' by omega] at hm'
          exact hm'
        · exact Mtb_na hK X 61 b2 z1 (by omega) ha _ _ _ hm'
  · rcases (u.2.2.1 b2 k2 g1 g2).mp g3 with w | ⟨i, hi, p, hh, z⟩
    · exact hS.2.1 b2 k2 g1 g2 w
    · obtain ⟨hs, o1, o2⟩ := hi.ok hW hsp
      obtain ⟨_, _, r, hr', hpr, hlp, hab⟩ := tko_sp hh.2.2.1
      have hst : sbt ch mt i p := ⟨hh.1, r, hr', by rw [← hpr]; exact hlp, hpr⟩
      obtain ⟨s1, s2, s3⟩ := sbr_ok hW hs (sbt_sbr hst)
      rw [Nat.add_sub_cancel] at hab
      exact ⟨hh.2.1, p, s1, z, hab, fun hb' lb y => hmt hb' lb ((Mtb_iff hW hX hsp).mpr ⟨i, hi, Or.inr (Or.inl ⟨p, k2, hh, y⟩)⟩)⟩
  · rcases (u.2.2.2 k2 g2).mp g3 with w | ⟨i, hi, hl⟩
    · exact hS.2.2 k2 g2 w
    · exact ⟨hl.2.1, fun hb' lb y => hmt hb' lb ((Mtb_iff hW hX hsp).mpr ⟨i, hi, Or.inr (Or.inr ⟨k2, hl, y⟩)⟩)⟩
  · rw [u.2.1 b' k' (by omega) g2]
    constructor
    · rintro (w | ⟨i, hi, w⟩)
      · exact w
      · have := PE.up hK hb hi w; omega
    · exact Or.inl
/-- what comes to pass is found -/
theorem t_cpl (hK : TK n B ch mt bn fs kp ag) (hX : SI X) {T : St} (hd : ∀ b k, b < 31 → k < 6 → bt (T.1 46 b) k = true → Don m n B ch mt bn fs ag ab X b k T) {hb : Nat → Nat → Prop} {lb : Nat → Prop} : ∀ (mm b k : Nat), 61 ≤ mm + fs b → b < B → k < 6 → bt (T.1 46 b) k = true → Mtb hb lb ch mt ab n X (fs b) (k + 1) 0 → (∃ p kk, kk < 6 ∧ hb p kk ∧ ch (p + 1) = 123 ∧ bt (T.1 (TA m + 7) (bn (p + 1))) kk = true) ∨ ∃ kk, kk < 6 ∧ lb kk ∧ bt (T.1 (TA m) 12) kk = true := by
  have hW := hK.1.1
  have hB := hK.2.1.2.1
  intro mm
  induction mm with
  | zero => exact fun b k h hb' => absurd (spt_le hW (hK.2.2.1 b hb')) (by omega)
  | succ mm ih =>
    intro b k h hb' hk hr hm
    have hsp := hK.2.2.1 b hb'
    obtain ⟨i, hi, hc⟩ := (Mtb_iff hW hX hsp).mp hm
    obtain ⟨hs, o1, o2⟩ := hi.ok hW hsp
    obtain ⟨d1, d2, d3⟩ := hd b k (by omega) hk hr i hi
    rcases hc with ⟨sp', tk', he, hm'⟩ | ⟨p, kk, hh, y⟩ | ⟨kk, hl, y⟩
    · obtain ⟨q, e1, e2, e3⟩ := he.sbr
      obtain ⟨s1, s2, s3⟩ := sbr_ok hW hs e2
      obtain ⟨bq, fq⟩ := hK.2.2.2.2.1 q s1
      have htk : 1 ≤ tk' ∧ tk' ≤ 6 := by
        rcases e3 with ⟨y, _⟩ | ⟨p, kk, _, y1, y2, _⟩ <;> omega
      have hkb : kb ag (bn q) (tk' - 1) < 6 := kb_lt (by omega)
      have hr' := d1 (bn q) (kb ag (bn q) (tk' - 1)) (by omega) (by omega) ⟨sp', tk', he, bq, fq.trans e1.symm, rfl⟩
      refine ih (bn q) (kb ag (bn q) (tk' - 1)) (by rw [fq]; omega) bq hkb hr' ?_
      rw [e1, ← fq] at hm'
      by_cases ha : ag (bn q)
      · rw [kb_y _ ha, show tk' - 1 + 1 = tk' by omega]; exact hm'
      · exact Mtb_na hK X 61 (bn q) bq (by omega) ha _ _ _ hm'
    · obtain ⟨_, _, r, hr', hpr, hlp, hab⟩ := tko_sp hh.2.2.1
      have hst : sbt ch mt i p := ⟨hh.1, r, hr', by rw [← hpr]; exact hlp, hpr⟩
      obtain ⟨s1, s2, s3⟩ := sbr_ok hW hs (sbt_sbr hst)
      obtain ⟨bq, fq⟩ := hK.2.2.2.2.1 _ s1
      have h6 := hh.2.1
      exact Or.inl ⟨p, kk, h6, y, s1, d2 (bn (p + 1)) kk (by omega) (by omega) ⟨p, hh, rfl⟩⟩
    · have h6 := hl.2.1
      exact Or.inr ⟨kk, h6, y, d3 kk (by omega) hl⟩
/-- the kinds that a taker takes -/
def tkb (m : Nat) (T : St) (p : Nat) : Int32 := T.1 (TA m + 7) (Int32.toNatClampNeg (T.1 (TA m + 2) (p + 1)))
def TrOK (m n : Nat) (ch mt : Nat → Nat) (ab : Nat → Nat → Bool) (X : Nat → Nat) (T : St) : Prop := (∀ (hb : Nat → Nat → Prop) (lb : Nat → Prop), Mtb hb lb ch mt ab n X 0 0 0 ↔ (∃ p k, k < 6 ∧ hb p k ∧ ch (p + 1) = 123 ∧ bt (tkb m T p) k = true) ∨ ∃ k, k < 6 ∧ lb k ∧ bt (T.1 (TA m) 12) k = true) ∧ (∀ p k, ch (p + 1) = 123 → k < 32 → bt (tkb m T p) k = true → k < 6 ∧ ab k (ch p - 65) = true) ∧ ∀ k, k < 32 → bt (T.1 (TA m) 12) k = true → k < 6
theorem s_traceAll (hN : 100 < N) (hK : TK n B ch mt bn fs kp ag) (hX : SI X) (hC : CT m n B ch mt bn fs kp ag ab X (st_p S 11 m)) :
    WP (fX6_traceAll N m S) (fun T => TrF m (st_p S 11 m) T ∧ TrOK m n ch mt ab X T) := by
  have hW := hK.1.1
  have hB := hK.2.1.2.1
  have h36 : TA m + 7 ≠ 36 := TA_ne m 7 (by omega) (by simp)
  have h46 : TA m + 7 ≠ 46 := TA_ne m 7 (by omega) (by simp)
  have g36 : TA m ≠ 36 := TA_ne m 0 (by omega) (by simp)
  have g46 : TA m ≠ 46 := TA_ne m 0 (by omega) (by simp)
  have hal : alen (TA m + 7) = 31 := TA_cases (P := fun t => alen (t + 7) = 31) (by decide +kernel) m
  have hal2 : alen 46 = 31 := by decide +kernel
  have e11 : (st_p S 11 m).2 11 = m := hC.2.1.2
  unfold fX6_traceAll fX5_clearTraces
  rw [e11]
  generalize st_p S 11 m = S1 at hC e11 ⊢
  rw [s_fill N (TA m + 7) 0 S1 (by omega) (by omega)]
  simp only [Option.bind_some]
  rw [s_fill N 46 0 _ (by omega) (by omega)]
  simp only [Option.bind_some]
  generalize hS2 : st_c (st_i (st_c S1 (TA m + 7) (fun j => if j < alen (TA m + 7) then 0 else S1.1 (TA m + 7) j)) (TA m) 12 0) 46 (fun j => if j < alen 46 then 0 else (st_i (st_c S1 (TA m + 7) (fun j => if j < alen (TA m + 7) then 0 else S1.1 (TA m + 7) j)) (TA m) 12 0).1 46 j) = S2
  have z46 : ∀ b, b < 31 → S2.1 46 b = 0 := fun b hb => by
    rw [← hS2, sc_same, if_pos (by omega)]
  have z7 : ∀ b, b < 31 → S2.1 (TA m + 7) b = 0 := fun b hb => by
    rw [← hS2, sc_ne _ _ h46, si_nx _ _ (by omega), sc_same, if_pos (by omega)]
  have z12 : S2.1 (TA m) 12 = 0 := by rw [← hS2, sc_ne _ _ g46, si_at]
  have f2 : TrF m S1 S2 := by
    refine ⟨by rw [← hS2]; rfl, fun c hc => ?_, fun j hj => ?_, fun j hj => ?_⟩
    · have n46 : c ≠ 46 := fun z => hc (by rw [z]; simp)
      have n0 : c ≠ TA m := fun z => hc (by rw [z]; simp)
      have n7 : c ≠ TA m + 7 := fun z => hc (by rw [z]; simp)
      rw [← hS2, sc_ne _ _ n46, si_nx _ _ n0, sc_ne _ _ n7]
    · rw [← hS2, sc_ne _ _ g46, si_ni _ _ hj, sc_ne _ _ (by omega)]
    · rw [← hS2, sc_ne _ _ (by omega), si_nx _ _ (Ne.symm g36), sc_ne _ _ (Ne.symm h36)]
  have hC2 := hC.mv f2
  obtain ⟨S3, e3, u3, v3⟩ := s_rch (N := N) hK hC2 (b := 0) (k := 0) hK.2.1.1 (by omega)
  have e3 : fX6_reach N 0 0 S2 = some S3 := e3
  have hag0 : ¬ ag 0 := fun z => by
    have h1 := (hK.2.2.2.2.2.1 0 hK.2.1.1).2 z
    have h2 := hK.2.1.2.2.2
    omega
  have hC3 := hC2.mv u3.1
  have hR0 : bt (S3.1 46 0) 0 = true := (u3.2.1 0 0 (by omega) (by omega)).mpr (Or.inr ⟨rfl, (kb_n 0 hag0).symm⟩)
  have hS3 : Snd m n B ch mt bn fs kp ag ab X S3 := by
    refine ⟨fun b k g1 g2 g3 => ?_, fun b k g1 g2 g3 => ?_, fun k g2 g3 => ?_⟩
    · rcases (u3.2.1 b k g1 g2).mp g3 with w | ⟨w1, w2⟩
      · rw [z46 b g1, b_0] at w; cases w
      · rw [kb_n 0 hag0] at w2
        subst w1 w2
        refine ⟨hK.2.1.1, by omega, fun z => absurd z hag0, fun hb lb hm => ?_⟩
        have := Mtb_na hK X 61 0 hK.2.1.1 (by omega) hag0 1 0 0 hm
        rw [hK.2.1.2.2.1] at this
        exact this
    · rcases (u3.2.2.1 b k g1 g2).mp g3 with w | w
      · rw [z7 b g1, b_0] at w; cases w
      · exact w.elim
    · rcases (u3.2.2.2 k g2).mp g3 with w | w
      · rw [z12, b_0] at w; cases w
      · exact w.elim
  rw [e3]
  simp only [Option.bind_some]
  -- the rounds
  let J : Nat → Nat → St → Prop := fun b k T => TrF m S1 T ∧ Snd m n B ch mt bn fs kp ag ab X T ∧ bt (T.1 46 0) 0 = true ∧ ∀ b' k', b' < 31 → k' < 6 → (b' < b ∨ (b' = b ∧ k' < k)) → bt (T.1 46 b') k' = true → Don m n B ch mt bn fs ag ab X b' k' T
  have inner : ∀ b T, b < 31 → J b 0 T → WP (fX6_traceAll_36 N (nI b) (0, T)) (fun T' => J b 6 T') := fun b T hb hJ => by
    unfold fX6_traceAll_36
    refine WP.fr1 6 N (fun k T => J b k T) (by omega) (fun k T hk hJ => ?_) (fun T hJ => ?_) (S := T) 0 (by omega) hJ
    · obtain ⟨j1, j2, j3, j4⟩ := hJ
      have hCT := hC.mv j1
      unfold bfX6_traceAll_36 fX6_traceAll_61
      dsimp only
      rw [if_neg (show ¬ (6 : Int32) ≤ nI k from nI_ge (b := 6) (by omega) (by omega)), if_neg (nI_in hb (by omega)), nI_cl (by omega), s_has N _ (show k < 32 by omega)]
      simp only [Option.bind_some]
      rw [show nI k + 1 = nI (k + 1) from nI_add k 1]
      by_cases q : bt (T.1 46 b) k = true
      · rw [if_pos q, if_neg z10]
        refine WP.bnd (s_tone hN hK hX hCT j2 hb hk q) (fun T' hT' => WP.ret ⟨T', rfl, ?_⟩)
        obtain ⟨⟨P, Q, L, u⟩, t2, t3, t4⟩ := hT'
        refine ⟨j1.trans u.1, t2, (u.2.1 0 0 (by omega) (by omega)).mpr (Or.inl j3), fun b' k' g1 g2 g3 g4 => ?_⟩
        by_cases w : b' = b ∧ k' = k
        · rw [w.1, w.2]; exact t3
        · have g4 := (t4 b' k' (by omega) (by omega)).mp g4
          exact (j4 b' k' g1 g2 (by omega) g4).mv u
      · rw [if_neg q, if_pos rfl]
        refine WP.ret ⟨T, rfl, j1, j2, j3, fun b' k' g1 g2 g3 g4 => j4 b' k' g1 g2 ?_ g4⟩
        by_cases w : b' = b ∧ k' = k
        · rw [w.1, w.2] at g4; exact absurd g4 q
        · omega
    · unfold bfX6_traceAll_36
      dsimp only
      rw [if_pos (show (6 : Int32) ≤ nI 6 by decide)]
      exact WP.ret ⟨T, rfl, hJ⟩
  have outer : WP (fX6_traceAll_28 N (0, S3)) (fun T' => J 31 0 T') := by
    unfold fX6_traceAll_28
    refine WP.fr1 31 N (fun b T => J b 0 T) (by omega) (fun b T hb hJ => ?_) (fun T hJ => ?_) (S := S3) 0 (by omega) ⟨f2.trans u3.1, hS3, hR0, fun b' k' _ _ g3 => by omega⟩
    · unfold bfX6_traceAll_28
      dsimp only
      rw [if_neg (show ¬ (31 : Int32) ≤ nI b from nI_ge (b := 31) (by omega) (by omega)), show nI b + 1 = nI (b + 1) from nI_add b 1]
      refine WP.bnd (inner b T hb hJ) (fun T' hT' => WP.ret ⟨T', rfl, hT'.1, hT'.2.1, hT'.2.2.1, fun b' k' g1 g2 g3 g4 => hT'.2.2.2 b' k' g1 g2 (by omega) g4⟩)
    · unfold bfX6_traceAll_28
      dsimp only
      rw [if_pos (show (31 : Int32) ≤ nI 31 by decide)]
      exact WP.ret ⟨T, rfl, hJ⟩
  refine WP.bnd outer (fun T hT => WP.ret ?_)
  obtain ⟨j1, j2, j3, j4⟩ := hT
  have hD := (hC.mv j1).1
  have ebn : ∀ p, ch (p + 1) = 123 → bn (p + 1) < 31 ∧ tkb m T p = T.1 (TA m + 7) (bn (p + 1)) := fun p hp => by
    have hb := (hK.2.2.2.2.1 _ hp).1
    unfold tkb
    rw [hD.2.2.2.2.2.1 _ hp, nI_cl (by omega)]
    exact ⟨by omega, rfl⟩
  refine ⟨j1, fun hb lb => ⟨fun hm => ?_, ?_⟩, fun p k hp hk h => ?_, fun k hk h => (j2.2.2 k hk h).1⟩
  · have hm' : Mtb hb lb ch mt ab n X (fs 0) (0 + 1) 0 := by
      refine Mtb_na hK X 61 0 hK.2.1.1 (by omega) hag0 0 (0 + 1) 0 ?_
      rw [hK.2.1.2.2.1]; exact hm
    rcases t_cpl hK hX (fun b k g1 g2 g3 => j4 b k g1 g2 (by omega) g3) 61 0 0 (by omega) hK.2.1.1 (by omega) j3 hm' with ⟨p, kk, y1, y2, y3, y4⟩ | y
    · exact Or.inl ⟨p, kk, y1, y2, y3, by rw [(ebn p y3).2]; exact y4⟩
    · exact Or.inr y
  · rintro (⟨p, k, y1, y2, y3, y4⟩ | ⟨k, y1, y2, y3⟩)
    · obtain ⟨e1, e2⟩ := ebn p y3
      rw [e2] at y4
      obtain ⟨_, p', w1, w2, _, w3⟩ := j2.2.1 (bn (p + 1)) k e1 (by omega) y4
      have h1 := (hK.2.2.2.2.1 _ y3).2
      have h2 := (hK.2.2.2.2.1 _ w1).2
      rw [← w2] at h2
      obtain rfl : p = p' := by omega
      exact w3 hb lb y2
    · exact (j2.2.2 k (by omega) y3).2 hb lb y2
  · obtain ⟨e1, e2⟩ := ebn p hp
    rw [e2] at h
    obtain ⟨w0, p', w1, w2, w3, _⟩ := j2.2.1 (bn (p + 1)) k e1 hk h
    have h1 := (hK.2.2.2.2.1 _ hp).2
    have h2 := (hK.2.2.2.2.1 _ w1).2
    rw [← w2] at h2
    obtain rfl : p = p' := by omega
    exact ⟨w0, w3⟩
end TC5
