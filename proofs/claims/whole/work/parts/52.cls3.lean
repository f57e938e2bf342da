/-! ===== the first program: things, calls, choices, stars ===== -/
theorem c_on : ∀ s, s < 4 → ∀ b, b < 2 → nI s ||| nI (b + 1) = nI (ton s b) ∧ ton s b < 4 := by decide +kernel
theorem c_of : ∀ s, s < 4 → ∀ b, b < 2 → nI s &&& (nI (b + 1) ^^^ (-1)) = nI (tof s b) ∧ tof s b < 4 := by decide +kernel
section C3
variable {N n B : Nat} {ch mt bn fs kp : Nat → Nat} {ag : Nat → Prop} {S : St}
theorem s_turn (hN : 60 < N) {b : Nat} (hb : b < 2) {l2 : Int32} {σ : Nat → Nat} (hσ : (l2 = 0 ∧ σ = fun s => tof s b) ∨ (l2 = 1 ∧ σ = fun s => ton s b)) {h : Nat → Nat} (hh : ∀ c, h c ≤ 1000) (h4 : R4 31 eC h S) : WP (fX2_turn N (nI (b + 1)) l2 S) (fun S' => Fr [31, 32] S S' ∧ R4 31 eC (fun v => vm 4 h (fun s c => if c = σ s then 1 else 1000) v) S') := by
  unfold fX2_turn
  refine WP.bnd (s_fillC (a := 32) (k := 4) rfl (by omega) (by omega)) (fun S1 g1 => ?_)
  have h41 : R4 31 eC h S1 := fun v hv => by rw [g1.1.2 31 (by decide)]; exact h4 v hv
  refine WP.bnd (P := fun S' => Fr [31, 32] S S' ∧ R4 31 eC (fun v => vm 4 h (fun s c => if c = σ s then 1 else 1000) v) S') ?_ (fun y hy => WP.ret hy)
  unfold fX2_turn_11
  refine WP.fr1 4 N (fun s T => Fr [32] S1 T ∧ ∀ v, v < 4 → T.1 32 v = eC (mn s (fun u => sat (h u) (if v = σ u then 1 else 1000)))) (by omega) ?_ ?_ 0 (by omega) ⟨Fr.refl _ _, fun v hv => by rw [g1.2 v hv]; rfl⟩
  · rintro s T hs ⟨t1, t2⟩
    have key : ∀ v : Nat, v = σ s → v < 4 → WP (fX2_turn_35 N (nI (b + 1)) l2 (nI s) (nI v) T) (fun z => ∃ S', z = .inl (nI (s + 1), S') ∧ Fr [32] S1 S' ∧ ∀ v, v < 4 → S'.1 32 v = eC (mn (s + 1) (fun u => sat (h u) (if v = σ u then 1 else 1000)))) := by
      intro v hv hv4
      unfold fX2_turn_35
      refine WP.ix hs (by omega) ?_
      rw [nI_cl (by omega), t1.2 31 (by decide), h41 s hs, eC_a1]
      have b1 := eCn_b (h s)
      refine WP.bnd (s_lower (a := 32) (i := v) (old := mn s (fun u => sat (h u) (if v = σ u then 1 else 1000))) (by show v < 4; omega) (by decide) (by omega) (mn_le _ _) (t2 v hv4)) (fun T1 g1 => WP.ret ⟨T1, by rw [nI_1], t1.trans g1.1, fun x hx => ?_⟩)
      show _ = eC (min (mn s (fun u => sat (h u) (if x = σ u then 1 else 1000))) (sat (h s) (if x = σ s then 1 else 1000)))
      by_cases q : x = v
      · rw [q, g1.2.1, cap_i (hh s), if_pos hv]
      · rw [g1.2.2 x q, t2 x hx, if_neg (fun z => q (z.trans hv.symm)), sat_top', Nat.min_eq_left (mn_le _ _)]
    unfold bfX2_turn_11
    refine WP.no (nI_ge (a := s) (b := 4) hs (by omega)) ?_
    try dsimp only
    rcases hσ with ⟨rfl, e⟩ | ⟨rfl, e⟩
    · obtain ⟨e1, e2⟩ := c_of s hs b hb
      rw [if_pos rfl, e1]
      exact key _ (by rw [e]) e2
    · obtain ⟨e1, e2⟩ := c_on s hs b hb
      rw [if_neg (show ¬ ((1 : Int32) = 0) by decide), e1]
      exact key _ (by rw [e]) e2
  · rintro T ⟨t1, t2⟩
    unfold bfX2_turn_11
    refine WP.yes (show (4 : Int32) ≤ nI 4 by decide) (WP.ret ⟨_, rfl, ⟨?_, fun c hc => ?_⟩, fun v hv => ?_⟩)
    · exact t1.1.trans g1.1.1
    · have h31 : c ≠ 31 := fun q => hc (by rw [q]; decide)
      have h32 : c ∉ [32] := fun q => hc (by rw [List.mem_singleton.mp q]; decide)
      rw [sc_ne _ _ h31, t1.2 c h32, g1.1.2 c h32]
    · rw [sc_same]
      show (if 0 ≤ v ∧ v < 0 + 4 then T.1 32 (0 + (v - 0)) else _) = _
      rw [if_pos (by omega), show 0 + (v - 0) = v by omega]
      exact t2 v hv
theorem s_call (hN : 60 < N) {X : Nat → Nat} (hX : ∀ x, X x ≤ 1000) (hE : ∀ x, x < 896 → S.1 19 x = eC (X x)) {r : Nat} (hr : r < 8) {h g : Nat → Nat} (hh : ∀ c, h c ≤ 1000) (hg : ∀ c, g c ≤ 1000) (h4 : R4 31 eC h S) (hG : Gn g S) : WP (fX2_call N (nI r) S) (fun S' => Fr [31, 33, 34] S S' ∧ R4 31 eC (fun c => vm 4 h (fun t c => if c < 28 then sat 1 (X ((r * 4 + t) * 28 + c)) else 1000) c) S' ∧ Gn (fun c => min (g c) (vm 4 h (fun t c => if c < 28 then sat 1 (X ((r * 4 + t) * 28 + c)) else 1000) c)) S') := by
  unfold fX2_call
  refine WP.bnd (s_fillC (a := 34) (k := 32) rfl (by omega) (by omega)) (fun S1 g1 => ?_)
  have h41 : R4 31 eC h S1 := fun v hv => by rw [g1.1.2 31 (by decide)]; exact h4 v hv
  let U : Nat → Nat → Nat := fun t c => if c < 28 then sat 1 (X ((r * 4 + t) * 28 + c)) else 1000
  have hU : ∀ t c, U t c ≤ 1000 := fun t c => by show (if c < 28 then _ else 1000) ≤ 1000; split; exact sat_le _ _; exact Nat.le_refl _
  refine WP.bnd (P := fun S' => Fr [31, 33, 34] S1 S' ∧ R4 31 eC (fun c => vm 4 h U c) S' ∧ Gn (fun c => min (g c) (vm 4 h U c)) S') ?_ (fun y hy => WP.ret ⟨(g1.1.mono (by decide)).trans hy.1, hy.2.1, hy.2.2⟩)
  unfold fX2_call_11
  refine WP.fr1 4 N (fun s T => Fr [34] S1 T ∧ Cr 34 (fun c => mn s (fun u => sat (h u) (U u c))) T) (by omega) ?_ ?_ 0 (by omega) ⟨Fr.refl _ _, fun c hc => by rw [g1.2 c hc]; rfl⟩
  · rintro s T hs ⟨t1, t2⟩
    have h4T : R4 31 eC h T := fun v hv => by rw [t1.2 31 (by decide)]; exact h41 v hv
    unfold bfX2_call_11
    refine WP.no (nI_ge (a := s) (b := 4) hs (by omega)) ?_
    refine WP.bnd (P := fun T' => Fr [34] S1 T' ∧ Cr 34 (fun c => mn (s + 1) (fun u => sat (h u) (U u c))) T') ?_ (fun y hy => WP.ret ⟨y, by rw [nI_1], hy⟩)
    unfold fX2_call_18
    by_cases q : 1000 ≤ h s
    · obtain ⟨N', rfl⟩ : ∃ N', N = N' + 1 := ⟨N - 1, by omega⟩
      refine WP.eq (whl_e (y := T) ?_) ⟨t1, fun c hc => ?_⟩
      · unfold bfX2_call_18
        rw [if_neg (show ¬ (7 : Int32) ≤ 0 by decide), if_neg (nI_in hs (by omega))]
        try dsimp only
        rw [nI_cl (by omega), h4T s hs, if_pos (eC_ge.mpr q)]
      · rw [t2 c hc]
        refine congrArg eC ?_
        show _ = min (mn s (fun u => sat (h u) (U u c))) (sat (h s) (U s c))
        rw [sat_t (Or.inl q), Nat.min_eq_left (mn_le _ _)]
    · let f : Nat → Nat := fun c => mn s (fun u => sat (h u) (U u c))
      have hf : ∀ c, f c ≤ 1000 := fun c => mn_le _ _
      let J : Nat → St → Prop := fun m T' => Fr [34] S1 T' ∧ ∀ c, c < 32 → T'.1 34 c = eC (if c < m then min (f c) (sat (h s) (U s c)) else f c)
      refine WP.fr1 7 N (fun e T' => J (e * 4) T') (by omega) ?_ ?_ 0 (by omega) ⟨t1, fun c hc => by rw [if_neg (by omega)]; exact t2 c hc⟩
      · rintro e T2 he hJ
        have h4T2 : R4 31 eC h T2 := fun v hv => by rw [hJ.1.2 31 (by decide)]; exact h41 v hv
        unfold bfX2_call_18
        refine WP.no (nI_ge (a := e) (b := 7) he (by omega)) (WP.ix hs (by omega) ?_)
        try dsimp only
        rw [nI_cl (by omega), h4T2 s hs]
        refine WP.no (fun z => q (eC_ge.mp z)) ?_
        refine WP.bnd (P := fun T' => J ((e + 1) * 4) T') ?_ (fun y hy => WP.ret ⟨y, by rw [nI_1], hy⟩)
        unfold fX2_call_38
        refine WP.fr1 4 N (fun t T' => J (e * 4 + t) T') (by omega) ?_ ?_ 0 (by omega) hJ
        · rintro t T3 ht ⟨j1, j2⟩
          have h4T3 : R4 31 eC h T3 := fun v hv => by rw [j1.2 31 (by decide)]; exact h41 v hv
          unfold bfX2_call_38
          refine WP.no (nI_ge (a := t) (b := 4) ht (by omega)) (WP.ix hs (by omega) ?_)
          refine WP.beq (s_fewest N T3 hr hs he ht) ?_
          try dsimp only
          rw [nI_cl (by omega), h4T3 s hs, j1.2 19 (by decide), g1.1.2 19 (by decide), hE _ (by omega), nI_x4, nI_add, eC_a1, eC_n, nI_add]
          have b1 := eCn_b (h s)
          have b2 := eCn_b (X ((r * 4 + s) * 28 + (e * 4 + t)))
          refine WP.bnd (s_lower (a := 34) (i := e * 4 + t) (old := f (e * 4 + t)) (by show e * 4 + t < 32; omega) (by decide) (by omega) (hf _) (by rw [j2 _ (by omega), if_neg (by omega)])) (fun T4 g4 => WP.ret ⟨T4, by rw [nI_1], j1.trans g4.1, fun c hc => ?_⟩)
          by_cases w : c = e * 4 + t
          · subst w
            have : U s (e * 4 + t) = sat 1 (X ((r * 4 + s) * 28 + (e * 4 + t))) := if_pos (by omega)
            rw [g4.2.1, cap_3 (hh s) (hX _), if_pos (by omega), this]
          · rw [g4.2.2 c w, j2 c hc]
            by_cases w2 : c < e * 4 + t
            · rw [if_pos w2, if_pos (by omega)]
            · rw [if_neg w2, if_neg (by omega)]
        · intro T3 hJ3
          unfold bfX2_call_38
          refine WP.yes (show (4 : Int32) ≤ nI 4 by decide) (WP.ret ⟨_, rfl, ?_⟩)
          rw [show (e + 1) * 4 = e * 4 + 4 by omega]; exact hJ3
      · rintro T2 ⟨j1, j2⟩
        unfold bfX2_call_18
        refine WP.yes (show (7 : Int32) ≤ nI 7 by decide) (WP.ret ⟨_, rfl, j1, fun c hc => ?_⟩)
        rw [j2 c hc]
        refine congrArg eC ?_
        show _ = min (f c) (sat (h s) (U s c))
        by_cases w : c < 7 * 4
        · rw [if_pos w]
        · have : U s c = 1000 := if_neg (by omega)
          rw [if_neg w, this, sat_top', Nat.min_eq_left (hf c)]
  · rintro T ⟨t1, t2⟩
    unfold bfX2_call_11
    refine WP.yes (show (4 : Int32) ≤ nI 4 by decide) ?_
    refine WP.bnd (s_goOn hN (a := 34) (Or.inl rfl) (fun c => mn_le _ _) hg t2 ⟨fun c h4' hc => by rw [t1.2 33 (by decide), g1.1.2 33 (by decide)]; exact hG.1 c h4' hc, fun c hc => by rw [t1.2 33 (by decide), g1.1.2 33 (by decide)]; exact hG.2 c hc⟩) (fun T1 g2 => WP.ret ⟨_, rfl, (t1.mono (by decide)).trans (g2.1.mono (by decide)), g2.2.1, g2.2.2⟩)
/-- the rows of a block, as read with a kind -/
def Cb (ag : Nat → Prop) (g : Nat → Nat → Nat → Nat → Nat) (b k : Nat) (S : St) : Prop := ∀ s c, s < 4 → c < 32 → S.1 30 (rix ag b k s + c) = eC (g b k s c)
theorem Cb.mv {g : Nat → Nat → Nat → Nat → Nat} {b k : Nat} {T : St} (h : Cb ag g b k S) {A : List Nat} (f : Fr A S T) (hA : 30 ∉ A) : Cb ag g b k T := fun s c h1 h2 => by rw [f.2 30 hA]; exact h s c h1 h2
theorem Gn.mv {g : Nat → Nat} {T : St} (h : Gn g S) {A : List Nat} (f : Fr A S T) (hA : 33 ∉ A) : Gn g T := ⟨fun c h1 h2 => by rw [f.2 33 hA]; exact h.1 c h1 h2, fun c h1 => by rw [f.2 33 hA]; exact h.2 c h1⟩
theorem R4.mv {a : Nat} {e : Nat → Int32} {h : Nat → Nat} {T : St} (hh : R4 a e h S) {A : List Nat} (f : Fr A S T) (hA : a ∉ A) : R4 a e h T := fun v hv => by rw [f.2 a hA]; exact hh v hv
theorem s_choose (hN : 60 < N) (hK : TK n B ch mt bn fs kp ag) (hD : TD (S.2 10) n B ch mt bn fs kp ag S) {i k : Nat} (h1 : ch (i + 1) = 123) (h2 : ch (mt (i + 1) + 1) = 123) (hk : k < 6) {G : Nat → Nat → Nat → Nat → Nat} (hGl : ∀ b k s c, G b k s c ≤ 1000) (c1 : Cb ag G (bn (i + 1)) k S) (c2 : Cb ag G (bn (mt (i + 1) + 1)) k S) {h g : Nat → Nat} (hh : ∀ c, h c ≤ 1000) (hg : ∀ c, g c ≤ 1000) (h4 : R4 31 eC h S) (hG : Gn g S) :
    WP (fX2_choose N (nI (i + 1)) (nI k) S) (fun z => z.1 = nI (mt (mt (i + 1) + 1) + 1) ∧ Fr [31, 33, 34] S z.2 ∧ R4 31 eC (fun c => vm 4 h (fun s c => min (G (bn (i + 1)) k s c) (G (bn (mt (i + 1) + 1)) k s c)) c) z.2 ∧ Gn (fun c => min (g c) (vm 4 h (fun s c => min (G (bn (i + 1)) k s c) (G (bn (mt (i + 1) + 1)) k s c)) c)) z.2) := by
  obtain ⟨⟨hW, hc⟩, ⟨hB0, hB, hf0⟩, hsp, hmo, hbn, hkp, hag⟩ := hK
  have e1 : enp n mt (fs (bn (i + 1))) = mt (i + 1) := by rw [(hbn _ h1).2]; unfold enp; rw [if_neg (by omega), Nat.add_sub_cancel]
  have e2 : enp n mt (fs (bn (mt (i + 1) + 1))) = mt (mt (i + 1) + 1) := by rw [(hbn _ h2).2]; unfold enp; rw [if_neg (by omega), Nat.add_sub_cancel]
  unfold fX2_choose
  refine WP.beq (s_blockAt hW hc hD h1) ?_
  refine WP.beq (s_closeOf hB hD (hbn _ h1).1) ?_
  try dsimp only
  rw [e1, nI_1]
  refine WP.beq (s_blockAt hW hc hD h2) ?_
  refine WP.bnd (s_fillC (a := 34) (k := 32) rfl (by omega) (by omega)) (fun S1 g1 => ?_)
  have hD1 := hD.mv g1.1 (by decide)
  rw [← g1.1.1] at hD1
  refine WP.bnd (s_enter hN hB hD1 (hbn _ h1).1 hk (h := h) (f := fun _ => 1000) (g := G (bn (i + 1)) k) hh (fun _ => Nat.le_refl _) (hGl _ _) (h4.mv g1.1 (by decide)) g1.2 (c1.mv g1.1 (by decide))) (fun S2 g2 => ?_)
  have f2 : Fr [34] S S2 := g1.1.trans g2.1
  have hD2 := hD.mv f2 (by decide)
  rw [← f2.1] at hD2
  refine WP.bnd (s_enter hN hB hD2 (hbn _ h2).1 hk (h := h) (g := G (bn (mt (i + 1) + 1)) k) hh (fun c => Nat.le_trans (Nat.min_le_left _ _) (Nat.le_refl _)) (hGl _ _) (h4.mv f2 (by decide)) g2.2 (c2.mv f2 (by decide))) (fun S3 g3 => ?_)
  have f3 : Fr [34] S S3 := f2.trans g3.1
  have hrow : Cr 34 (fun c => vm 4 h (fun s c => min (G (bn (i + 1)) k s c) (G (bn (mt (i + 1) + 1)) k s c)) c) S3 := fun c hc => by
    rw [g3.2 c hc]
    refine congrArg eC ?_
    show min (min 1000 (vm 4 h (G (bn (i + 1)) k) c)) (vm 4 h (G (bn (mt (i + 1) + 1)) k) c) = vm 4 h (fun s c => min (G (bn (i + 1)) k s c) (G (bn (mt (i + 1) + 1)) k s c)) c
    rw [vm_min, Nat.min_eq_right (vm_le _ _ _ _)]
  refine WP.bnd (s_goOn hN (a := 34) (Or.inl rfl) (fun c => vm_le _ _ _ _) hg hrow (hG.mv f3 (by decide))) (fun S4 g4 => ?_)
  have f4 : Fr [31, 33, 34] S S4 := (f3.mono (by decide)).trans (g4.1.mono (by decide))
  have hD4 := hD.mv f4 (by decide)
  rw [← f4.1] at hD4
  refine WP.beq (s_closeOf hB hD4 (hbn _ h2).1) (WP.ret ⟨?_, f4, g4.2.1, g4.2.2⟩)
  rw [e2]; exact nI_1 _
theorem s_repeat (hN : 60 < N) (hK : TK n B ch mt bn fs kp ag) (hD : TD (S.2 10) n B ch mt bn fs kp ag S) {i k : Nat} (h1 : ch (i + 1) = 123) (hk : k < 6) {G : Nat → Nat → Nat → Nat → Nat} (hGl : ∀ b k s c, G b k s c ≤ 1000) (c1 : Cb ag G (bn (i + 1)) k S) {h g : Nat → Nat} (hh : ∀ c, h c ≤ 1000) (hg : ∀ c, g c ≤ 1000) (h4 : R4 31 eC h S) (hG : Gn g S) :
    WP (fX2_repeat N (nI (i + 1)) (nI k) S) (fun z => z.1 = nI (mt (i + 1) + 1) ∧ Fr [31, 33, 34] S z.2 ∧ R4 31 eC (fun c => vm 4 h (fun t c => if c < 4 then clo (G (bn (i + 1)) k) (un1 t) c else vm 4 (clo (G (bn (i + 1)) k) (un1 t)) (G (bn (i + 1)) k) c) c) z.2 ∧ Gn (fun c => min (g c) (vm 4 h (fun t c => if c < 4 then clo (G (bn (i + 1)) k) (un1 t) c else vm 4 (clo (G (bn (i + 1)) k) (un1 t)) (G (bn (i + 1)) k) c) c)) z.2) := by
  obtain ⟨⟨hW, hc⟩, ⟨hB0, hB, hf0⟩, hsp, hmo, hbn, hkp, hag⟩ := hK
  have e1 : enp n mt (fs (bn (i + 1))) = mt (i + 1) := by rw [(hbn _ h1).2]; unfold enp; rw [if_neg (by omega), Nat.add_sub_cancel]
  have hb := (hbn _ h1).1
  generalize hbe : bn (i + 1) = b at *
  let w : Nat → Nat → Nat := G b k
  unfold fX2_repeat
  refine WP.beq (by rw [s_blockAt hW hc hD h1, hbe]) ?_
  try dsimp only
  let J : Nat → Nat → St → Prop := fun n m T => Fr [31] S T ∧ ∃ H, R4 31 eC H T ∧ IR w h n m H
  refine WP.bnd (P := fun S1 => Fr [31] S S1 ∧ R4 31 eC (clo w h) S1) ?_ (fun S1 g1 => ?_)
  · unfold fX2_repeat_12
    refine WP.fr1 4 N (fun n T => J n 0 T) (by omega) ?_ ?_ 0 (by omega) ⟨Fr.refl _ _, h, h4, IR_0⟩
    · intro n' T hn hT
      unfold bfX2_repeat_12
      refine WP.no (nI_ge (a := n') (b := 4) hn (by omega)) ?_
      refine WP.bnd (P := fun T' => J n' 16 T') ?_ (fun y hy => WP.ret ⟨y, by rw [nI_1], hy.1, ?_⟩)
      · unfold fX2_repeat_21
        refine WP.fr1 4 N (fun u T' => J n' (u * 4) T') (by omega) ?_ ?_ 0 (by omega) hT
        · intro u T1 hu hT1
          have hD1 := hD.mv hT1.1 (by decide)
          rw [← hT1.1.1] at hD1
          unfold bfX2_repeat_21
          refine WP.no (nI_ge (a := u) (b := 4) hu (by omega)) ?_
          refine WP.beq (s_rowOf hB hD1 hb hk hu) ?_
          refine WP.bnd (P := fun T' => J n' ((u + 1) * 4) T') ?_ (fun y hy => WP.ret ⟨y, by rw [nI_1], hy⟩)
          unfold fX2_repeat_40
          refine WP.fr1 4 N (fun v T' => J n' (u * 4 + v) T') (by omega) ?_ ?_ 0 (by omega) hT1
          · rintro v T2 hv ⟨j1, H, j2, j3⟩
            have hrl := rix_lt (ag := ag) (b := b) (k := k) (s := u) (by omega) hk hu
            unfold bfX2_repeat_40
            refine WP.no (nI_ge (a := v) (b := 4) hv (by omega)) (WP.ix hu (by omega) ?_)
            refine WP.beq (s_cell (R := rix ag b k u) (w := 0) (t := v) (by omega)) ?_
            try dsimp only
            have e30 : T2.1 30 (rix ag b k u + (0 * 4 + v)) = eC (w u v) := by
              rw [j1.2 30 (by decide), c1 u (0 * 4 + v) hu (by omega), Nat.zero_mul, Nat.zero_add]
            rw [nI_cl (by omega), j2 u hu, e30, eC_add]
            have b1 := eCn_b (H u)
            have b2 := eCn_b (w u v)
            refine WP.bnd (s_lower (a := 31) (i := v) (old := H v) (by show v < 4; omega) (by decide) (by omega) (IR_le hh j3 hv) (j2 v hv)) (fun T3 g3 => WP.ret ⟨T3, by rw [nI_1], j1.trans g3.1, (fun x => if x = v then min (H v) (sat (H u) (w u v)) else H x), fun x hx => ?_, IR_s hh hu hv j3⟩)
            show _ = eC (if x = v then min (H v) (sat (H u) (w u v)) else H x)
            by_cases q : x = v
            · rw [q, g3.2.1, cap_2 (IR_le hh j3 hu) (hGl _ _ _ _), if_pos rfl]
            · rw [g3.2.2 x q, if_neg q]; exact j2 x hx
          · intro T2 hJ2
            unfold bfX2_repeat_40
            refine WP.yes (show (4 : Int32) ≤ nI 4 by decide) (WP.ret ⟨_, rfl, ?_⟩)
            rw [show (u + 1) * 4 = u * 4 + 4 by omega]; exact hJ2
        · intro T1 hJ1
          unfold bfX2_repeat_21
          exact WP.yes (show (4 : Int32) ≤ nI 4 by decide) (WP.ret ⟨_, rfl, hJ1⟩)
      · obtain ⟨H, h3, h4⟩ := hy.2
        exact ⟨H, h3, IR_n hh h4⟩
    · rintro T ⟨t1, H, t2, t3⟩
      unfold bfX2_repeat_12
      refine WP.yes (show (4 : Int32) ≤ nI 4 by decide) (WP.ret ⟨_, rfl, t1, fun v hv => ?_⟩)
      rw [t2 v hv, IR_e (by omega) t3 hv]
  have hcl : ∀ c, clo w h c ≤ 1000 := clo_le hh
  refine WP.bnd (s_fillC (a := 34) (k := 32) rfl (by omega) (by omega)) (fun S2 g2 => ?_)
  have f2 : Fr [31, 34] S S2 := (g1.1.mono (by decide)).trans (g2.1.mono (by decide))
  have hD2 := hD.mv f2 (by decide)
  rw [← f2.1] at hD2
  refine WP.bnd (s_enter hN hB hD2 hb hk (h := clo w h) (f := fun _ => 1000) (g := G b k) hcl (fun _ => Nat.le_refl _) (hGl _ _) (g1.2.mv g2.1 (by decide)) g2.2 (c1.mv f2 (by decide))) (fun S3 g3 => ?_)
  have f3 : Fr [31, 34] S S3 := f2.trans (g3.1.mono (by decide))
  have h43 : R4 31 eC (clo w h) S3 := (g1.2.mv g2.1 (by decide)).mv g3.1 (by decide)
  -- the row that goes on
  have hlin : ∀ c, c < 32 → vm 4 h (fun t c => if c < 4 then clo w (un1 t) c else vm 4 (clo w (un1 t)) w c) c = if c < 4 then clo w h c else vm 4 (clo w h) w c := by
    intro c hc
    by_cases q : c < 4
    · rw [if_pos q, clo_lin hh q]
      exact vm_congr (fun _ _ => rfl) (fun s _ => if_pos q)
    · rw [if_neg q]
      rw [show vm 4 (clo w h) w c = vm 4 (vm 4 h (fun t => clo w (un1 t))) w c from vm_congr (fun s hs => clo_lin hh hs) (fun _ _ => rfl), vm_assoc]
      exact vm_congr (fun _ _ => rfl) (fun s _ => if_neg q)
  refine WP.bnd (P := fun z => z.1 = nI (mt (i + 1) + 1) ∧ Fr [31, 33, 34] S3 z.2 ∧ R4 31 eC (fun c => if c < 4 then clo w h c else vm 4 (clo w h) w c) z.2 ∧ Gn (fun c => min (g c) (if c < 4 then clo w h c else vm 4 (clo w h) w c)) z.2) ?_ (fun z hz => WP.ret ⟨hz.1, (f3.mono (by decide)).trans hz.2.1, fun v hv => ?_, ⟨fun c h4' hc' => ?_, hz.2.2.2.2⟩⟩)
  · unfold fX2_repeat_108
    refine WP.fr1 4 N (fun t T => Fr [34] S3 T ∧ ∀ c, c < 32 → T.1 34 c = eC (if c < t then clo w h c else vm 4 (clo w h) w c)) (by omega) ?_ ?_ 0 (by omega) ⟨Fr.refl _ _, fun c hc => by rw [if_neg (by omega), g3.2 c hc]; exact congrArg eC (Nat.min_eq_right (vm_le _ _ _ _))⟩
    · rintro t T ht ⟨t1, t2⟩
      unfold bfX2_repeat_108
      refine WP.no (nI_ge (a := t) (b := 4) ht (by omega)) (WP.ix ht (by omega) ?_)
      try dsimp only
      rw [nI_cl (by omega), t1.2 31 (by decide), h43 t ht, eC_n, show (0 : Int32) + nI t = nI t from by rw [show (0 : Int32) = nI 0 from rfl, nI_add, Nat.zero_add]]
      have b1 := eCn_b (clo w h t)
      refine WP.bnd (s_lower (a := 34) (i := t) (old := vm 4 (clo w h) w t) (by show t < 32; omega) (by decide) (by omega) (vm_le _ _ _ _) (by rw [t2 t (by omega), if_neg (by omega)])) (fun T1 g4 => WP.ret ⟨T1, by rw [nI_1], t1.trans g4.1, fun c hc => ?_⟩)
      by_cases q : c = t
      · subst q
        rw [g4.2.1, cap_1 (hcl c), if_pos (by omega), Nat.min_eq_right]
        exact le_mn (hcl c) (fun u hu => clo_st hh hu ht)
      · rw [g4.2.2 c q, t2 c hc]
        by_cases q2 : c < t
        · rw [if_pos q2, if_pos (by omega)]
        · rw [if_neg q2, if_neg (by omega)]
    · rintro T ⟨t1, t2⟩
      unfold bfX2_repeat_108
      refine WP.yes (show (4 : Int32) ≤ nI 4 by decide) ?_
      have fT : Fr [31, 34] S T := f3.trans (t1.mono (by decide))
      refine WP.bnd (s_goOn hN (a := 34) (f := fun c => if c < 4 then clo w h c else vm 4 (clo w h) w c) (Or.inl rfl) (fun c => by split; exact hcl c; exact vm_le _ _ _ _) hg t2 (hG.mv fT (by decide))) (fun T1 g4 => ?_)
      have f4 : Fr [31, 33, 34] S T1 := (fT.mono (by decide)).trans (g4.1.mono (by decide))
      have hD4 := hD.mv f4 (by decide)
      rw [← f4.1] at hD4
      refine WP.beq (s_closeOf hB hD4 hb) (WP.ret ⟨_, rfl, ?_, (t1.mono (by decide)).trans (g4.1.mono (by decide)), g4.2.1, g4.2.2⟩)
      show nI (enp n mt (fs b)) + 1 = _
      rw [e1]; exact nI_1 _
  · rw [hz.2.2.1 v hv]
    exact congrArg eC (hlin v (by omega)).symm
  · rw [hz.2.2.2.1 c h4' hc']
    exact congrArg (fun y => eC (min (g c) y)) (hlin c hc').symm
end C3
