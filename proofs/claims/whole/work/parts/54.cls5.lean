/-! ===== the first program: a try ===== -/
section C5
variable {N n B : Nat} {ch mt bn fs kp : Nat → Nat} {ag : Nat → Prop} {S : St} {ab : Nat → Nat → Bool} {τ : Nat → Nat → Nat → Nat → Nat}
/-- what lies above, as bits -/
def Ab (ab : Nat → Nat → Bool) (S : St) : Prop := ∀ k j, k < 6 → j < 6 → (bt (S.1 15 k) j = true ↔ ab k j = true)
theorem Ab.mv {T : St} (h : Ab ab S) {A : List Nat} (f : Fr A S T) (hA : 15 ∉ A) : Ab ab T := fun k j h1 h2 => by rw [f.2 15 hA]; exact h k j h1 h2
def Gt (τ : Nat → Nat → Nat → Nat → Nat) (fs : Nat → Nat) (b k s c : Nat) : Nat := τ (fs b) (k + 1) s c
theorem s_taker {m : Nat} (hN : 60 < N) (hK : TK n B ch mt bn fs kp ag) (hD : TD m n B ch mt bn fs kp ag S) (hA : Ab ab S) {bh w : Nat} (hw : w < 8) (hbh : bh < 900) (h2 : ∀ a, a < 6 → ltr (ch (skp ch mt a bh)) → ch (skp ch mt a bh + 1) = 123) (h3 : ¬ ltr (ch (skp ch mt 6 bh))) : ∃ A, fX1_above N (nI w - 1) S = some (A, S) ∧ fX5_takerOf N m (nI bh) A S = some (oB bn (tko ch mt ab bh w), S) := by
  by_cases q : 1 ≤ w ∧ w ≤ 6
  · have e1 : nI w - 1 = nI (w - 1) := pk_sub (b := 1) q.1
    refine ⟨S.1 15 (w - 1), by rw [e1]; exact s_above1 N S (by omega), ?_⟩
    unfold fX5_takerOf fX5_takerOf_5
    have := s_takerOf (N := N) (M := N) (f := 6) (a := 0) (j := bh) hK hD (A := S.1 15 (w - 1)) (ab := ab) (k := w - 1) (fun j hj => hA (w - 1) j (by omega) hj) (by omega) (by omega) hbh h2 h3
    rw [show ((nI bh, (0 : Int32), S) : Int32 × Int32 × St) = (nI bh, nI 0, S) from rfl, this]
    unfold tko
    rw [if_pos q]; rfl
  · refine ⟨0, ?_, ?_⟩
    · refine s_above0 N S ?_
      by_cases w0 : w = 0
      · subst w0; left; decide
      · obtain rfl : w = 7 := by omega
        right; decide
    · unfold fX5_takerOf fX5_takerOf_5
      have := s_takerOf (N := N) (M := N) (f := 6) (a := 0) (j := bh) hK hD (A := 0) (ab := fun _ _ => false) (k := 0) (fun j hj => by rw [b_0]) (by omega) (by omega) hbh h2 h3
      rw [show ((nI bh, (0 : Int32), S) : Int32 × Int32 × St) = (nI bh, nI 0, S) from rfl, this, tkf_no]
      unfold tko
      rw [if_neg q]; rfl
set_option maxHeartbeats 4000000 in
theorem s_take (hN : 60 < N) (hK : TK n B ch mt bn fs kp ag) (hD : TD (S.2 10) n B ch mt bn fs kp ag S) (hA : Ab ab S) {i e k : Nat} (hs : OkS ch mt i e) (hi : ch i = 84) (hk : k < 6) (hτ : ∀ sp tk s c, τ sp tk s c ≤ 1000)
    (c1 : Cb ag (Gt τ fs) (bn (i + 1)) k S) (c2 : ∀ w p, tko ch mt ab (mt (i + 1) + 1) w = some p → Cb ag (Gt τ fs) (bn (p + 1)) (w - 1) S) (c3 : ch (skp ch mt 6 (mt (i + 1) + 1)) = 90 → Cb ag (Gt τ fs) (bn (skp ch mt 6 (mt (i + 1) + 1) + 1)) k S)
    {h g : Nat → Nat} (hh : ∀ c, h c ≤ 1000) (hg : ∀ c, g c ≤ 1000) (h4 : R4 31 eC h S) (hG : Gn g S) :
    WP (fX2_take N (nI (i + 1)) (nI k) S) (fun z => z.1 = nI (nxt ch mt i) ∧ Fr [31, 33, 34, 35] S z.2 ∧ R4 31 eC (fun c => vm 4 h (tryr ch mt ab τ i (k + 1)) c) z.2 ∧ Gn (fun c => min (g c) (vm 4 h (tryr ch mt ab τ i (k + 1)) c)) z.2) := by
  have hK' := hK
  obtain ⟨⟨hW, hc⟩, ⟨hB0, hB, hf0⟩, hsp, hmo, hbn, hkp, hag⟩ := hK
  have h60 := hW.1
  obtain ⟨-, h1, h2, h3, h5⟩ : ch i = 84 ∧ _ := by
    rcases hs with h1 | h1 | h1 | h1 | h1 | h1 | h1
    · omega
    · omega
    · omega
    · omega
    · omega
    · omega
    · exact h1
  have hbr := hW.br h1
  have hb := (hbn _ h1).1
  have e1 : enp n mt (fs (bn (i + 1))) = mt (i + 1) := by rw [(hbn _ h1).2]; unfold enp; rw [if_neg (by omega), Nat.add_sub_cancel]
  have hfs1 : fs (bn (i + 1)) = i + 2 := (hbn _ h1).2
  have hnx : nxt ch mt i = if ch (skp ch mt 6 (mt (i + 1) + 1)) = 90 then mt (skp ch mt 6 (mt (i + 1) + 1) + 1) + 1 else skp ch mt 6 (mt (i + 1) + 1) := by
    unfold nxt; rw [if_neg (by omega), if_neg (by omega), if_pos hi]
  have hj : skp ch mt 6 (mt (i + 1) + 1) < 900 := by
    split at h5
    · have := hW.br h5.1; omega
    · have hup : ∀ m, m ≤ 6 → skp ch mt m (mt (i + 1) + 1) ≤ 61 := by
        intro m
        induction m with
        | zero => intro _; show mt (i + 1) + 1 ≤ 61; omega
        | succ m ih =>
          intro hm
          rw [skp_s]
          by_cases q : ltr (ch (skp ch mt m (mt (i + 1) + 1)))
          · rw [if_pos q]
            have := hW.br (h2 m (by omega) q)
            omega
          · rw [if_neg q]; exact ih (by omega)
      have := hup 6 (by omega)
      omega
  unfold fX2_take
  refine WP.beq (s_blockAt hW hc hD h1) ?_
  refine WP.bnd (s_fillC (a := 34) (k := 32) rfl (by omega) (by omega)) (fun S1 g1 => ?_)
  have hD1 := hD.mv g1.1 (by decide)
  rw [← g1.1.1] at hD1
  refine WP.bnd (s_enter hN hB hD1 hb hk (h := h) (f := fun _ => 1000) (g := Gt τ fs (bn (i + 1)) k) hh (fun _ => Nat.le_refl _) (fun s c => hτ _ _ _ _) (h4.mv g1.1 (by decide)) g1.2 (c1.mv g1.1 (by decide))) (fun S2 g2 => ?_)
  have f2 : Fr [34] S S2 := g1.1.trans g2.1
  have hD2 := hD.mv f2 (by decide)
  have hD2' := hD2
  rw [← f2.1] at hD2
  -- what leaves the block
  let P : Nat → Nat := fun c => vm 4 h (τ (i + 2) (k + 1)) c
  have hPr : Cr 34 P S2 := fun c hc => by
    rw [g2.2 c hc]
    refine congrArg eC ?_
    show min 1000 (vm 4 h (Gt τ fs (bn (i + 1)) k) c) = _
    rw [Nat.min_eq_right (vm_le _ _ _ _)]
    show vm 4 h (fun s c => τ (fs (bn (i + 1))) (k + 1) s c) c = _
    rw [hfs1]
  have hPle : ∀ c, P c ≤ 1000 := fun c => vm_le _ _ _ _
  refine WP.beq (s_closeOf hB hD2 hb) ?_
  try dsimp only
  rw [e1, nI_1]
  refine WP.bnd (s_fillC (a := 35) (k := 32) rfl (by omega) (by omega)) (fun S3 g3 => ?_)
  have f3 : Fr [34, 35] S S3 := (f2.mono (by decide)).trans (g3.1.mono (by decide))
  have hPr3 : Cr 34 P S3 := fun c hc => by rw [g3.1.2 34 (by decide)]; exact hPr c hc
  let F : Nat → Nat → Nat := fun y c => sat (P y) (kmx ch mt ab τ (mt (i + 1) + 1) y c)
  let J : Nat → St → Prop := fun m T => Fr [35] S3 T ∧ Cr 35 (fun c => mn m (fun y => F y c)) T
  refine WP.bnd (P := fun S4 => J 32 S4) ?_ (fun S4 g4 => ?_)
  · unfold fX2_take_48
    refine WP.fr1 8 N (fun w T => J (w * 4) T) (by omega) ?_ ?_ 0 (by omega) ⟨Fr.refl _ _, fun c hc => by rw [g3.2 c hc]; rfl⟩
    · intro w T hw hJ
      have fT : Fr [34, 35] S T := f3.trans (hJ.1.mono (by decide))
      have hDT := hD.mv fT (by decide)
      rw [← fT.1] at hDT
      obtain ⟨A, ea, et⟩ := s_taker (N := N) hN hK' hDT (hA.mv fT (by decide)) hw (show mt (i + 1) + 1 < 900 by omega) h2 h3
      unfold bfX2_take_48
      refine WP.no (nI_ge (a := w) (b := 8) hw (by omega)) (WP.beq ea (WP.beq et ?_))
      try dsimp only
      refine WP.bnd (P := fun T' => J ((w + 1) * 4) T') ?_ (fun y hy => WP.ret ⟨y, by rw [nI_1], hy⟩)
      unfold fX2_take_80
      refine WP.fr1 4 N (fun u T' => J (w * 4 + u) T') (by omega) ?_ ?_ 0 (by omega) hJ
      · rintro u T1 hu ⟨j1, j2⟩
        have fT1 : Fr [34, 35] S T1 := f3.trans (j1.mono (by decide))
        have hDT1 := hD.mv fT1 (by decide)
        rw [← fT1.1] at hDT1
        have hP1 : Cr 34 P T1 := fun c hc => by rw [j1.2 34 (by decide)]; exact hPr3 c hc
        have hd : (w * 4 + u) / 4 = w := by omega
        have hmm : (w * 4 + u) % 4 = u := by omega
        unfold bfX2_take_80 fX2_take_147
        refine WP.no (nI_ge (a := u) (b := 4) hu (by omega)) ?_
        cases ho : tko ch mt ab (mt (i + 1) + 1) w with
        | none =>
          refine WP.yes rfl ?_
          rw [nI_x4, nI_add]
          refine WP.ix (by omega) (by omega) ?_
          try dsimp only
          rw [nI_cl (show w * 4 + u < 2147483648 by omega), hP1 _ (by omega), eC_n]
          have b1 := eCn_b (P (w * 4 + u))
          refine WP.bnd (s_lower (a := 35) (i := w * 4 + u) (old := mn (w * 4 + u) (fun y => F y (w * 4 + u))) (by show w * 4 + u < 32; omega) (by decide) (by omega) (mn_le _ _) (j2 _ (by omega))) (fun T2 g2 => WP.ret ⟨T2, by rw [nI_1], j1.trans g2.1, fun c hc => ?_⟩)
          show _ = eC (min (mn (w * 4 + u) (fun y => F y c)) (F (w * 4 + u) c))
          have eF : F (w * 4 + u) c = sat (P (w * 4 + u)) (if c = w * 4 + u then 0 else 1000) := by
            show sat (P (w * 4 + u)) (kmo τ (tko ch mt ab (mt (i + 1) + 1) ((w * 4 + u) / 4)) (w * 4 + u) c) = _
            rw [hd, ho]; rfl
          rw [eF]
          by_cases q : c = w * 4 + u
          · rw [q, g2.2.1, cap_1 (hPle _), if_pos rfl, sat_0' (hPle _)]
          · rw [g2.2.2 c q, j2 c hc, if_neg q, sat_top']
            exact congrArg eC (Nat.min_eq_left (mn_le _ _)).symm
        | some p =>
          obtain ⟨w1, w2, r', hr', p1, p2, p3⟩ := tko_sp ho
          have hpb : ch (p + 1) = 123 := by rw [p1]; exact h2 r' hr' (by rw [← p1]; exact p2)
          have hpbn := hbn _ hpb
          have hb31 : bn (p + 1) < 31 := by omega
          refine WP.no (show ¬ nI (bn (p + 1)) = -1 by rw [nI_m1 (by omega)]; exact id) ?_
          have e2 : nI w - 1 = nI (w - 1) := pk_sub (b := 1) w1
          try dsimp only
          rw [e2]
          refine WP.beq (s_rowOf hB hDT1 hpbn.1 (show w - 1 < 6 by omega) hu) ?_
          rw [nI_x4, nI_add]
          refine WP.ix (by omega) (by omega) ?_
          try dsimp only
          rw [nI_cl (show w * 4 + u < 2147483648 by omega), hP1 _ (by omega)]
          refine WP.bnd (s_addRow hN (a := 35) (Or.inr rfl) (rix_lt hb31 (by omega) hu) (hPle _) (fun c => mn_le _ _) (fun c => hτ (p + 2) w u c) j2 (fun c hc => ?_)) (fun T2 g2 => WP.ret ⟨T2, by rw [nI_1], j1.trans g2.1, fun c hc => ?_⟩)
          · have hcb := (c2 w p ho) u c hu hc
            rw [fT1.2 30 (by decide), hcb]
            show eC (τ (fs (bn (p + 1))) (w - 1 + 1) u c) = _
            rw [hpbn.2, show w - 1 + 1 = w by omega]
          · rw [g2.2 c hc]
            show eC (min (mn (w * 4 + u) (fun y => F y c)) (sat (P (w * 4 + u)) (τ (p + 2) w u c))) = eC (min (mn (w * 4 + u) (fun y => F y c)) (F (w * 4 + u) c))
            have eF : F (w * 4 + u) c = sat (P (w * 4 + u)) (τ (p + 2) w u c) := by
              show sat (P (w * 4 + u)) (kmo τ (tko ch mt ab (mt (i + 1) + 1) ((w * 4 + u) / 4)) (w * 4 + u) c) = _
              rw [hd, ho]
              show sat (P (w * 4 + u)) (τ (p + 2) ((w * 4 + u) / 4) ((w * 4 + u) % 4) c) = _
              rw [hd, hmm]
            rw [eF]
      · intro T1 hJ1
        unfold bfX2_take_80
        refine WP.yes (show (4 : Int32) ≤ nI 4 by decide) (WP.ret ⟨_, rfl, ?_⟩)
        rw [show (w + 1) * 4 = w * 4 + 4 by omega]; exact hJ1
    · intro T hJ
      unfold bfX2_take_48
      exact WP.yes (show (8 : Int32) ≤ nI 8 by decide) (WP.ret ⟨_, rfl, hJ⟩)
  have f4 : Fr [34, 35] S S4 := f3.trans (g4.1.mono (by decide))
  have hD4 := hD.mv f4 (by decide)
  rw [← f4.1] at hD4
  have ebh : fX5_behindTakers N (S4.2 10) (nI (mt (i + 1) + 1)) S4 = some (nI (skp ch mt 6 (mt (i + 1) + 1)), S4) := by
    unfold fX5_behindTakers fX5_behindTakers_4
    rw [show ((nI (mt (i + 1) + 1), (0 : Int32), S4) : Int32 × Int32 × St) = (nI (mt (i + 1) + 1), nI 0, S4) from rfl, s_behind hK' hD4 6 N 0 (mt (i + 1) + 1) (by omega) (by omega) (by omega) h2 h3]
    rfl
  refine WP.beq ebh ?_
  try dsimp only
  refine WP.beq (s_at hW hD4 (by omega)) ?_
  try dsimp only
  -- what the takers leave, all together
  have hT : Cr 35 (fun c => vm 4 h (mdr ch mt ab τ i (k + 1)) c) S4 := fun c hc => by
    rw [g4.2 c hc]
    refine congrArg eC ?_
    show vm 32 P (kmx ch mt ab τ (mt (i + 1) + 1)) c = _
    exact vm_assoc 4 32 h (τ (i + 2) (k + 1)) (kmx ch mt ab τ (mt (i + 1) + 1)) c
  by_cases hz : ch (skp ch mt 6 (mt (i + 1) + 1)) = 90
  · have h5' := h5
    rw [if_pos hz] at h5' hnx
    have hjb := hW.br h5'.1
    have hbj := hbn _ h5'.1
    have e3 : enp n mt (fs (bn (skp ch mt 6 (mt (i + 1) + 1) + 1))) = mt (skp ch mt 6 (mt (i + 1) + 1) + 1) := by rw [hbj.2]; unfold enp; rw [if_neg (by omega), Nat.add_sub_cancel]
    have c3' := c3 hz
    refine WP.yes ((cA_is hW hc (k := 90) (by omega) (by omega)).mpr hz) ?_
    rw [nI_1]
    refine WP.beq (s_blockAt hW hc hD4 h5'.1) ?_
    try dsimp only
    generalize hje : skp ch mt 6 (mt (i + 1) + 1) = j at *
    refine WP.bnd (s_fillC (a := 34) (k := 32) rfl (by omega) (by omega)) (fun S5 g5 => ?_)
    have f5 : Fr [34, 35] S S5 := f4.trans (g5.1.mono (by decide))
    have hT5 : Cr 35 (fun c => vm 4 h (mdr ch mt ab τ i (k + 1)) c) S5 := fun c hc => by rw [g5.1.2 35 (by decide)]; exact hT c hc
    let M : Nat → Nat := fun c => vm 4 h (mdr ch mt ab τ i (k + 1)) c
    let J2 : Nat → St → Prop := fun m T => Fr [34] S5 T ∧ Cr 34 (fun c => mn m (fun y => sat (M y) (emx τ (j + 2) (k + 1) y c))) T
    refine WP.bnd (P := fun z => z.1 = nI (nxt ch mt i) ∧ Fr [31, 33, 34] S5 z.2 ∧ R4 31 eC (fun c => vm 32 M (emx τ (j + 2) (k + 1)) c) z.2 ∧ Gn (fun c => min (g c) (vm 32 M (emx τ (j + 2) (k + 1)) c)) z.2) ?_ (fun z hz2 => WP.ret ⟨hz2.1, (f5.mono (by decide)).trans (hz2.2.1.mono (by decide)), fun v hv => ?_, ⟨fun c h4' hc' => ?_, hz2.2.2.2.2⟩⟩)
    · unfold fX2_take_220
      refine WP.fr1 8 N (fun w T => J2 (w * 4) T) (by omega) ?_ ?_ 0 (by omega) ⟨Fr.refl _ _, fun c hc => by rw [g5.2 c hc]; rfl⟩
      · intro w T hw hJ
        unfold bfX2_take_220
        refine WP.no (nI_ge (a := w) (b := 8) hw (by omega)) ?_
        refine WP.bnd (P := fun T' => J2 ((w + 1) * 4) T') ?_ (fun y hy => WP.ret ⟨y, by rw [nI_1], hy⟩)
        unfold fX2_take_230
        refine WP.fr1 4 N (fun u T' => J2 (w * 4 + u) T') (by omega) ?_ ?_ 0 (by omega) hJ
        · rintro u T1 hu ⟨j1, j2⟩
          have fT1 : Fr [34, 35] S T1 := f5.trans (j1.mono (by decide))
          have hDT1 := hD.mv fT1 (by decide)
          rw [← fT1.1] at hDT1
          unfold bfX2_take_230
          refine WP.no (nI_ge (a := u) (b := 4) hu (by omega)) ?_
          refine WP.beq (s_rowOf hB hDT1 hbj.1 hk hu) ?_
          rw [nI_x4, nI_add]
          refine WP.ix (by omega) (by omega) ?_
          try dsimp only
          rw [nI_cl (show w * 4 + u < 2147483648 by omega), j1.2 35 (by decide), hT5 _ (by omega)]
          have hb31 : bn (j + 1) < 31 := by omega
          refine WP.bnd (s_end hN (rix_lt hb31 hk hu) hw (vm_le 4 h (mdr ch mt ab τ i (k + 1)) (w * 4 + u)) (v := τ (j + 2) (k + 1) u) (fun c => hτ _ _ _ _) (fun c => mn_le _ _) j2 (fun c hc => ?_)) (fun T2 g6 => WP.ret ⟨T2, by rw [nI_1], j1.trans g6.1, fun c hc => ?_⟩)
          · rw [fT1.2 30 (by decide), c3' u c hu hc]
            show eC (τ (fs (bn (j + 1))) (k + 1) u c) = _
            rw [hbj.2]
          · rw [g6.2 c hc]
            refine congrArg eC ?_
            have := psc_32 (f := fun c => mn (w * 4 + u) (fun y => sat (M y) (emx τ (j + 2) (k + 1) y c))) (vm 4 h (mdr ch mt ab τ i (k + 1)) (w * 4 + u)) (j + 2) (k + 1) u τ (c0 := w * 4 + u) (c := c) (by omega) hc
            rw [show (w * 4 + u) / 4 = w by omega] at this
            exact this
        · intro T1 hJ1
          unfold bfX2_take_230
          refine WP.yes (show (4 : Int32) ≤ nI 4 by decide) (WP.ret ⟨_, rfl, ?_⟩)
          rw [show (w + 1) * 4 = w * 4 + 4 by omega]; exact hJ1
      · rintro T ⟨j1, j2⟩
        have fT : Fr [34, 35] S T := f5.trans (j1.mono (by decide))
        unfold bfX2_take_220
        refine WP.yes (show (8 : Int32) ≤ nI 8 by decide) ?_
        refine WP.bnd (s_goOn hN (a := 34) (Or.inl rfl) (fun c => mn_le _ _) hg j2 (hG.mv fT (by decide))) (fun T1 g6 => ?_)
        have f6 : Fr [31, 33, 34, 35] S T1 := (fT.mono (by decide)).trans (g6.1.mono (by decide))
        have hD6 := hD.mv f6 (by decide)
        rw [← f6.1] at hD6
        refine WP.beq (s_closeOf hB hD6 hbj.1) (WP.ret ⟨_, rfl, ?_, (j1.mono (by decide)).trans (g6.1.mono (by decide)), g6.2.1, g6.2.2⟩)
        show nI (enp n mt (fs (bn (j + 1)))) + 1 = _
        rw [e3, nI_1, hnx]
    · rw [hz2.2.2.1 v hv]
      refine congrArg eC ?_
      show vm 32 (vm 4 h (mdr ch mt ab τ i (k + 1))) (emx τ (j + 2) (k + 1)) v = _
      rw [vm_assoc]
      refine vm_congr (fun _ _ => rfl) (fun s _ => ?_)
      unfold tryr; rw [hje, if_pos hz]
    · rw [hz2.2.2.2.1 c h4' hc']
      refine congrArg eC (congrArg (min (g c)) ?_)
      show vm 32 (vm 4 h (mdr ch mt ab τ i (k + 1))) (emx τ (j + 2) (k + 1)) c = _
      rw [vm_assoc]
      refine vm_congr (fun _ _ => rfl) (fun s _ => ?_)
      unfold tryr; rw [hje, if_pos hz]
  · rw [if_neg hz] at hnx
    refine WP.no (fun z => hz ((cA_is hW hc (k := 90) (by omega) (by omega)).mp z)) ?_
    refine WP.bnd (s_goOn hN (a := 35) (Or.inr rfl) (fun c => vm_le _ _ _ _) hg hT (hG.mv f4 (by decide))) (fun S5 g5 => WP.ret ⟨by rw [hnx], (f4.mono (by decide)).trans (g5.1.mono (by decide)), fun v hv => ?_, ⟨fun c h4' hc' => ?_, g5.2.2.2⟩⟩)
    · rw [g5.2.1 v hv]
      refine congrArg eC (vm_congr (fun _ _ => rfl) (fun s _ => ?_))
      unfold tryr; rw [if_neg hz]
    · rw [g5.2.2.1 c h4' hc']
      refine congrArg eC (congrArg (min (g c)) (vm_congr (fun _ _ => rfl) (fun s _ => ?_)))
      unfold tryr; rw [if_neg hz]
end C5
