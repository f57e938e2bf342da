/-! ===== the second program: a statement, all of it ===== -/
theorem Rr_congr {a : Nat} {f g : Nat → Nat} {S : St} (h : Rr a f S) (e : ∀ c, c < 32 → f c = g c) : Rr a g S := fun x hx => by rw [h x hx, e _ (co_lt hx)]
section UN
variable {ch mt : Nat → Nat} {ab : Nat → Nat → Bool} {X : Nat → Nat} {τ : Nat → Nat → Nat → Nat → Nat} {tk i t c : Nat}
theorem un_33 (h : ch i = 33) : un ch mt ab X τ tk i t c = if c = (ch (i + 1) - 64) * 4 + t then 1 else 1000 := if_pos h
theorem un_94 (h : ch i = 94) : un ch mt ab X τ tk i t c = if 0 < tk ∧ c = tk * 4 + t then 1 else 1000 := (if_neg (by omega)).trans (if_pos h)
theorem un_46 (h : ch i = 46) : un ch mt ab X τ tk i t c = if c = 28 + t then 1 else 1000 := (if_neg (by omega)).trans ((if_neg (by omega)).trans (if_pos h))
theorem un_43 (h : ch i = 43) : un ch mt ab X τ tk i t c = if c = ton t (ch (i + 1) - 48) then 1 else 1000 := (if_neg (by omega)).trans ((if_neg (by omega)).trans ((if_neg (by omega)).trans (if_pos h)))
theorem un_45 (h : ch i = 45) : un ch mt ab X τ tk i t c = if c = tof t (ch (i + 1) - 48) then 1 else 1000 := (if_neg (by omega)).trans ((if_neg (by omega)).trans ((if_neg (by omega)).trans ((if_neg (by omega)).trans (if_pos h))))
theorem un_64 (h : ch i = 64) : un ch mt ab X τ tk i t c = if c < 28 then sat 1 (X (((ch (i + 1) - 97) * 4 + t) * 28 + c)) else 1000 := (if_neg (by omega)).trans ((if_neg (by omega)).trans ((if_neg (by omega)).trans ((if_neg (by omega)).trans ((if_neg (by omega)).trans (if_pos h)))))
theorem un_63 (h : ch i = 63) : un ch mt ab X τ tk i t c = min (τ (i + 2) tk t c) (τ (mt (i + 1) + 2) tk t c) := (if_neg (by omega)).trans ((if_neg (by omega)).trans ((if_neg (by omega)).trans ((if_neg (by omega)).trans ((if_neg (by omega)).trans ((if_neg (by omega)).trans (if_pos h))))))
theorem un_42 (h : ch i = 42) : un ch mt ab X τ tk i t c = if c < 4 then clo (τ (i + 2) tk) (un1 t) c else vm 4 (clo (τ (i + 2) tk) (un1 t)) (τ (i + 2) tk) c := (if_neg (by omega)).trans ((if_neg (by omega)).trans ((if_neg (by omega)).trans ((if_neg (by omega)).trans ((if_neg (by omega)).trans ((if_neg (by omega)).trans ((if_neg (by omega)).trans (if_pos h)))))))
theorem un_84 (h : ch i = 84) : un ch mt ab X τ tk i t c = tryr ch mt ab τ i tk t c := (if_neg (by omega)).trans ((if_neg (by omega)).trans ((if_neg (by omega)).trans ((if_neg (by omega)).trans ((if_neg (by omega)).trans ((if_neg (by omega)).trans ((if_neg (by omega)).trans (if_neg (by omega))))))))
end UN
section R6
variable {N r n lo : Nat} {ch mt : Nat → Nat} {ab : Nat → Nat → Bool} {X : Nat → Nat} {τ : Nat → Nat → Nat → Nat → Nat} {μ : Nat → Nat → Nat → Prop} {S : St} {hb : Nat → Nat → Prop} {lb : Nat → Prop}
theorem s_put1 {o u : Nat} (ho : o < 8) (hu : u < 4) (hR : Rr 142 (fun _ => 1000) S) : WP (fX8_puts N (nI o) (nI u) 1 S) (fun S' => FrR [142] S S' ∧ Rr 142 (fun c => if c = co (o * 4 + u) then 1 else 1000) S' ∧ S'.1 128 23 = S.1 128 23) := by
  refine WP.eq (s_puts N S (v := 1) (old := 1000) ho hu (by omega) (by omega) (hR _ (by omega))) ⟨(FrR.refl _ _).i (by decide) (by decide), fun x hx => ?_, by rw [si_nx _ _ (by decide)]⟩
  show _ = eR (if co x = co (o * 4 + u) then 1 else 1000)
  rw [si_if]
  by_cases q : x = o * 4 + u
  · rw [if_pos q, q, if_pos rfl]; rfl
  · have : co x ≠ co (o * 4 + u) := fun z => q (by rw [← oc_co hx, z, oc_co (by omega)])
    rw [if_neg q, if_neg this]; exact hR x hx
theorem mun_no {tk i t : Nat} (h1 : ch i ≠ 63) (h2 : ch i ≠ 42) (h3 : ch i ≠ 84) : ¬ mun hb lb ch mt ab τ μ tk i t := by
  rintro (⟨z, _⟩ | ⟨z, _⟩ | ⟨z, _⟩)
  · exact h1 z
  · exact h2 z
  · exact h3 z
theorem i_on : ∀ t, t < 4 → ∀ b, b < 2 → nI t ||| ((1 : Int32) <<< ((nI (b + 48) - 48) &&& 31)) = nI (ton t b) ∧ ton t b < 4 := by decide +kernel
theorem i_of : ∀ t, t < 4 → ∀ b, b < 2 → nI t &&& (((1 : Int32) <<< ((nI (b + 48) - 48) &&& 31)) ^^^ (-1)) = nI (tof t b) ∧ tof t b < 4 := by decide +kernel
set_option maxHeartbeats 4000000 in
theorem s_statement (hN : 60 < N) (hK : RK r n ch mt X) (hX : RX r n ch mt ab X S) (hT : RT r lo ch τ μ S) (hM : RM hb lb S) (hτ : ∀ sp tk s c, τ sp tk s c ≤ 1000) {i e tk t : Nat} (hlo : lo ≤ i) (hs : OkS ch mt i e) (hi : i < e) (he : e ≤ n) (hk : tk ≤ 6) (ht : t < 4) :
    WP (fX8_statement N (nI r) (nI i) (nI tk) (nI t) S) (fun z => z.1 = nI (nxt ch mt i) ∧ FrR [142, 143, 144] S z.2 ∧ Rr 142 (un ch mt ab X τ tk i t) z.2 ∧ z.2.1 128 23 = bP (mun hb lb ch mt ab τ μ tk i t)) := by
  have hr := hK.1
  have h60 := hK.2.1.1
  unfold fX8_statement
  refine WP.bnd (s_clears N hN (a := 142) rfl S) (fun S1 g1 => ?_)
  generalize hS2 : st_i S1 128 23 0 = S2
  have f2 : FrR [142] S S2 := by rw [← hS2]; exact (g1.1.R (by decide)).m (by decide)
  have hR2 : Rr 142 (fun _ => 1000) S2 := fun x hx => by rw [← hS2, si_nx _ _ (by decide)]; exact g1.2 x hx
  have hP2 : S2.1 128 23 = bP False := by rw [← hS2, si_at, bP_0 id]
  have hX2 := hX.mv f2 ⟨by decide, by decide, by decide, by decide, by decide⟩
  have hT2 := hT.mv f2 ⟨by decide, by decide⟩
  have hM2 := hM.mv f2
  have f2' : FrR [142, 143, 144] S S2 := f2.mono (by decide)
  rw [nI_1, nI_2]
  refine WP.beq (s_signOf hK hX2 (i := i + 1) (by omega)) (WP.beq (s_signOf hK hX2 (i := i) (by omega)) ?_)
  try dsimp only
  have hc := hK.2.2.1 i
  have hq : ∀ k, k < 256 → ch i ≠ k → ¬ (nI (ch i) = nI k) := fun k h1 h2 => nI_nq hc h1 h2
  have hy : ∀ k, ch i = k → nI (ch i) = nI k := fun k h => by rw [h]
  -- a statement with one way
  have one : ∀ (o u : Nat) (nx : Nat), o < 8 → u < 4 → nx = nxt ch mt i → ch i ≠ 63 → ch i ≠ 42 → ch i ≠ 84 → (∀ c, c < 32 → (if c = co (o * 4 + u) then 1 else 1000) = un ch mt ab X τ tk i t c) → WP ((fX8_puts N (nI o) (nI u) 1 S2).bind (fun q7 => some (nI nx, q7))) (fun z => z.1 = nI (nxt ch mt i) ∧ FrR [142, 143, 144] S z.2 ∧ Rr 142 (un ch mt ab X τ tk i t) z.2 ∧ z.2.1 128 23 = bP (mun hb lb ch mt ab τ μ tk i t)) := by
    intro o u nx ho hu hnx n1 n2 n3 hun
    refine WP.bnd (s_put1 ho hu hR2) (fun S3 g3 => WP.ret ⟨by rw [hnx], f2'.trans (g3.1.mono (by decide)), Rr_congr g3.2.1 hun, ?_⟩)
    rw [g3.2.2, hP2]
    exact bP_congr ⟨False.elim, mun_no n1 n2 n3⟩
  rcases hs with h1 | h1 | h1 | h1 | h1 | h1 | h1
  · -- raise
    obtain ⟨h1, h2, h3⟩ := h1
    refine WP.yes (hy 33 h1) ?_
    have e1 : (2 + nI (ch (i + 1))) - 65 = nI (ch (i + 1) - 63) := by
      rw [show (2 : Int32) = nI 2 from rfl, nI_add, show (65 : Int32) = nI 65 from rfl, pk_sub (by omega), show 2 + ch (i + 1) - 65 = ch (i + 1) - 63 by omega]
    rw [e1]
    refine one _ t _ (by omega) ht ?_ (by omega) (by omega) (by omega) (fun c hc => ?_)
    · unfold nxt; rw [if_neg (by omega), if_neg (by omega), if_neg (by omega), if_neg (by omega)]
    · rw [un_33 h1]
      have : co ((ch (i + 1) - 63) * 4 + t) = (ch (i + 1) - 64) * 4 + t := by unfold co; rw [if_neg (by omega), if_neg (by omega)]; omega
      rw [this]
  · -- call
    obtain ⟨h1, h2, h3, h4⟩ := h1
    refine WP.no (hq 33 (by omega) (by omega)) (WP.no (hq 42 (by omega) (by omega)) (WP.no (hq 43 (by omega) (by omega)) (WP.no (hq 45 (by omega) (by omega)) (WP.no (hq 46 (by omega) (by omega)) (WP.no (hq 63 (by omega) (by omega)) (WP.yes (hy 64 h1) ?_))))))
    have e1 : nI (ch (i + 1)) - 97 = nI (ch (i + 1) - 97) := pk_sub (b := 97) (by omega)
    rw [e1]
    refine WP.bnd (s_calls hN hK.2.2.2 hX2.2.2.2.2.2.2 (q := ch (i + 1) - 97) (by omega) ht (fun _ => Nat.le_refl 1000) (fun _ _ => rfl) hR2 hP2) (fun S3 g3 => WP.ret ⟨?_, f2'.trans (g3.1.mono (by decide)), Rr_congr g3.2.1 (fun c hc => ?_), ?_⟩)
    · show nI (i + 2) = _
      unfold nxt; rw [if_neg (by omega), if_neg (by omega), if_neg (by omega), if_neg (by omega)]
    · rw [un_64 h1]
      refine Nat.min_eq_right ?_
      split
      · exact sat_le _ _
      · exact Nat.le_refl _
    · rw [g3.2.2]
      exact bP_congr ⟨False.elim, mun_no (by omega) (by omega) (by omega)⟩
  · -- things
    obtain ⟨h1, h2, h3⟩ := h1
    have hb2 : ch (i + 1) - 48 < 2 := by omega
    have hnx : i + 2 = nxt ch mt i := by unfold nxt; rw [if_neg (by omega), if_neg (by omega), if_neg (by omega), if_neg (by omega)]
    have h48 : nI (ch (i + 1)) = nI (ch (i + 1) - 48 + 48) := by rw [show ch (i + 1) - 48 + 48 = ch (i + 1) by omega]
    rcases h1 with h1 | h1
    · refine WP.no (hq 33 (by omega) (by omega)) (WP.no (hq 42 (by omega) (by omega)) (WP.yes (hy 43 h1) ?_))
      obtain ⟨e1, e2⟩ := i_on t ht (ch (i + 1) - 48) hb2
      rw [h48, e1]
      refine one 0 _ _ (by omega) e2 hnx (by omega) (by omega) (by omega) (fun c hc => ?_)
      rw [un_43 h1]
      have : co (0 * 4 + ton t (ch (i + 1) - 48)) = ton t (ch (i + 1) - 48) := by unfold co; rw [if_pos (by omega)]; omega
      rw [this]
    · refine WP.no (hq 33 (by omega) (by omega)) (WP.no (hq 42 (by omega) (by omega)) (WP.no (hq 43 (by omega) (by omega)) (WP.yes (hy 45 h1) ?_)))
      obtain ⟨e1, e2⟩ := i_of t ht (ch (i + 1) - 48) hb2
      rw [h48, e1]
      refine one 0 _ _ (by omega) e2 hnx (by omega) (by omega) (by omega) (fun c hc => ?_)
      rw [un_45 h1]
      have : co (0 * 4 + tof t (ch (i + 1) - 48)) = tof t (ch (i + 1) - 48) := by unfold co; rw [if_pos (by omega)]; omega
      rw [this]
  · -- return, again
    obtain ⟨h1, h3⟩ := h1
    have hnx : i + 1 = nxt ch mt i := by unfold nxt; rw [if_neg (by omega), if_neg (by omega), if_neg (by omega), if_pos (by omega)]
    rcases h1 with h1 | h1
    · refine WP.no (hq 33 (by omega) (by omega)) (WP.no (hq 42 (by omega) (by omega)) (WP.no (hq 43 (by omega) (by omega)) (WP.no (hq 45 (by omega) (by omega)) (WP.yes (hy 46 h1) ?_))))
      refine one 1 t _ (by omega) ht hnx (by omega) (by omega) (by omega) (fun c hc => ?_)
      rw [un_46 h1]
      have : co (1 * 4 + t) = 28 + t := by unfold co; rw [if_neg (by omega), if_pos (by omega)]; omega
      rw [this]
    · refine WP.no (hq 33 (by omega) (by omega)) (WP.no (hq 42 (by omega) (by omega)) (WP.no (hq 43 (by omega) (by omega)) (WP.no (hq 45 (by omega) (by omega)) (WP.no (hq 46 (by omega) (by omega)) (WP.no (hq 63 (by omega) (by omega)) (WP.no (hq 64 (by omega) (by omega)) (WP.yes (hy 94 h1) ?_)))))))
      unfold fX8_statement_138
      rw [nI_1]
      by_cases q : tk = 0
      · refine WP.yes (by rw [q]; decide) (WP.ret ⟨by rw [← hnx], f2', Rr_congr hR2 (fun c hc => ?_), ?_⟩)
        · rw [un_94 h1, if_neg (by omega)]
        · rw [hP2]; exact bP_congr ⟨False.elim, mun_no (by omega) (by omega) (by omega)⟩
      · refine WP.no (nI_nle (by omega) (by omega)) ?_
        have e1 : (2 + nI tk) - 1 = nI (tk + 1) := by
          rw [show (2 : Int32) = nI 2 from rfl, nI_add, show (1 : Int32) = nI 1 from rfl, pk_sub (by omega), show 2 + tk - 1 = tk + 1 by omega]
        rw [e1]
        refine one _ t _ (by omega) ht hnx (by omega) (by omega) (by omega) (fun c hc => ?_)
        rw [un_94 h1]
        have : co ((tk + 1) * 4 + t) = tk * 4 + t := by unfold co; rw [if_neg (by omega), if_neg (by omega)]; omega
        rw [this]
        by_cases q2 : c = tk * 4 + t
        · rw [if_pos q2, if_pos ⟨by omega, q2⟩]
        · rw [if_neg q2, if_neg (fun z => q2 z.2)]
  · -- choice
    have hs' : OkS ch mt i e := Or.inr (Or.inr (Or.inr (Or.inr (Or.inl h1))))
    obtain ⟨h1, h2, h3, h4⟩ := h1
    have b1 := hK.2.1.br h2
    have b2 := hK.2.1.br h3
    refine WP.no (hq 33 (by omega) (by omega)) (WP.no (hq 42 (by omega) (by omega)) (WP.no (hq 43 (by omega) (by omega)) (WP.no (hq 45 (by omega) (by omega)) (WP.no (hq 46 (by omega) (by omega)) (WP.yes (hy 63 h1) ?_)))))
    refine WP.beq (s_shutOf hK hX2 h2) ?_
    try dsimp only
    refine WP.bnd (s_block hN hr hτ (b := i + 1) (by omega) hk ht (hT2 (i + 1 + 1) (by omega) (Or.inr ⟨h2, by omega⟩) tk t hk ht) (fun _ => Nat.le_refl 1000) hR2 hP2) (fun S3 g3 => ?_)
    rw [nI_1]
    refine WP.bnd (s_block hN hr hτ (b := mt (i + 1) + 1) (by omega) hk ht ((hT2.mv g3.1 ⟨by decide, by decide⟩) (mt (i + 1) + 1 + 1) (by omega) (Or.inr ⟨h3, by omega⟩) tk t hk ht) (fun c => Nat.le_trans (Nat.min_le_left _ _) (Nat.le_refl 1000)) g3.2.1 g3.2.2) (fun S4 g4 => ?_)
    have f4 : FrR [142] S2 S4 := g3.1.trans g4.1
    refine WP.beq (s_shutOf hK (hX2.mv f4 ⟨by decide, by decide, by decide, by decide, by decide⟩) h3) (WP.ret ⟨?_, f2'.trans (f4.mono (by decide)), Rr_congr g4.2.1 (fun c hc => ?_), ?_⟩)
    · show nI (mt (mt (i + 1) + 1)) + 1 = _
      rw [nI_1]; unfold nxt; rw [if_pos h1]
    · rw [un_63 h1]
      have h5 := hτ (i + 2) tk t c
      have h6 : min (min 1000 (τ (i + 2) tk t c)) (τ (mt (i + 1) + 2) tk t c) = min (τ (i + 2) tk t c) (τ (mt (i + 1) + 2) tk t c) := by rw [Nat.min_eq_right h5]
      exact h6
    · rw [g4.2.2]
      refine bP_congr ⟨fun z => Or.inl ⟨h1, ?_⟩, fun z => ?_⟩
      · rcases z with (z | z) | z
        · exact z.elim
        · exact Or.inl z
        · exact Or.inr z
      · rcases z with ⟨_, z⟩ | ⟨z, _⟩ | ⟨z, _⟩
        · rcases z with z | z
          · exact Or.inl (Or.inr z)
          · exact Or.inr z
        · omega
        · omega
  · -- repeat
    obtain ⟨h1, h2, h3⟩ := h1
    have b1 := hK.2.1.br h2
    refine WP.no (hq 33 (by omega) (by omega)) (WP.yes (hy 42 h1) ?_)
    refine WP.bnd (s_star hN hr hτ (b := i + 1) (by omega) hk ht (fun u hu => hT2 (i + 1 + 1) (by omega) (Or.inr ⟨h2, by omega⟩) tk u hk hu) hR2 hP2) (fun S3 g3 => ?_)
    refine WP.beq (s_shutOf hK (hX2.mv g3.1 ⟨by decide, by decide, by decide, by decide, by decide⟩) h2) (WP.ret ⟨?_, f2'.trans (g3.1.mono (by decide)), Rr_congr g3.2.1 (fun c hc => ?_), ?_⟩)
    · show nI (mt (i + 1)) + 1 = _
      rw [nI_1]; unfold nxt; rw [if_neg (by omega), if_pos h1]
    · rw [un_42 h1]
    · rw [g3.2.2]
      refine bP_congr ⟨fun z => Or.inr (Or.inl ⟨h1, z⟩), fun z => ?_⟩
      rcases z with ⟨z, _⟩ | ⟨_, z⟩ | ⟨z, _⟩
      · omega
      · exact z
      · omega
  · -- try
    have hs' : OkS ch mt i e := Or.inr (Or.inr (Or.inr (Or.inr (Or.inr (Or.inr h1)))))
    obtain ⟨h1, h2, h3, h4, h5⟩ := h1
    have b1 := hK.2.1.br h2
    refine WP.no (hq 33 (by omega) (by omega)) (WP.no (hq 42 (by omega) (by omega)) (WP.no (hq 43 (by omega) (by omega)) (WP.no (hq 45 (by omega) (by omega)) (WP.no (hq 46 (by omega) (by omega)) (WP.no (hq 63 (by omega) (by omega)) (WP.no (hq 64 (by omega) (by omega)) (WP.no (hq 94 (by omega) (by omega)) ?_)))))))
    refine WP.bnd (s_tries hN hK hX2 hT2 hM2 hτ hlo hs' h1 hk ht hR2) (fun S3 g3 => ?_)
    have hX3 := hX2.mv g3.1 ⟨by decide, by decide, by decide, by decide, by decide⟩
    refine WP.beq (s_shutOf hK hX3 h2) ?_
    try dsimp only
    rw [nI_1]
    have e299 : fX8_statement_299 N (nI r) (nI (mt (i + 1) + 1), S3) = some (nI (skp ch mt 6 (mt (i + 1) + 1)), S3) := by
      unfold fX8_statement_299
      exact s_skp hK hX3 (fun _ => rfl) 6 N (mt (i + 1) + 1) (by omega) (by omega) h3 h4
    refine WP.beq e299 ?_
    try dsimp only
    have hj : skp ch mt 6 (mt (i + 1) + 1) < 1000 := by
      split at h5
      · have := hK.2.1.br h5.1; omega
      · omega
    refine WP.beq (s_signOf hK hX3 hj) ?_
    unfold fX8_statement_356
    have fin : FrR [142, 143, 144] S S3 ∧ Rr 142 (un ch mt ab X τ tk i t) S3 ∧ S3.1 128 23 = bP (mun hb lb ch mt ab τ μ tk i t) := by
      refine ⟨f2'.trans (g3.1.mono (by decide)), Rr_congr g3.2.1 (fun c hc => ?_), g3.2.2⟩
      rw [un_84 h1]
    have hnx : nxt ch mt i = if ch (skp ch mt 6 (mt (i + 1) + 1)) = 90 then mt (skp ch mt 6 (mt (i + 1) + 1) + 1) + 1 else skp ch mt 6 (mt (i + 1) + 1) := by
      unfold nxt; rw [if_neg (by omega), if_neg (by omega), if_pos h1]
    by_cases hz : ch (skp ch mt 6 (mt (i + 1) + 1)) = 90
    · rw [if_pos hz] at h5 hnx
      refine WP.yes (by show nI (ch (skp ch mt 6 (mt (i + 1) + 1))) = 90; rw [hz]; rfl) ?_
      try dsimp only
      rw [nI_1]
      refine WP.beq (s_shutOf hK hX3 h5.1) (WP.ret ⟨?_, fin⟩)
      show nI (mt (skp ch mt 6 (mt (i + 1) + 1) + 1)) + 1 = _
      rw [nI_1, hnx]
    · rw [if_neg hz] at hnx
      refine WP.no (nI_nq (hK.2.2.1 _) (k := 90) (by omega) hz) (WP.ret ⟨?_, fin⟩)
      rw [hnx]
end R6
