/-! ===== the first program: blocks, texts ===== -/
section C7
variable {N n B : Nat} {ch mt bn fs kp : Nat → Nat} {ag : Nat → Prop} {S : St} {ab : Nat → Nat → Bool} {X : Nat → Nat}
theorem s_mbloop (hN : 60 < N) (hK : TK n B ch mt bn fs kp ag) (hX : ∀ x, X x ≤ 1000) {b k e : Nat} (hb : b < B) (hk : k < 6) (hm : ag b → ab k (kp b) = true) (he : e = enp n mt (fs b)) {l1 l3 : Int32} : ∀ (m M j : Nat) (z : (Nat → Nat) × (Nat → Nat)) (S : St), TD (S.2 10) n B ch mt bn fs kp ag S → Ab ab S → (∀ x, x < 896 → S.1 19 x = eC (X x)) → CbA ab B (b + 1) kp fs ag (Tab ch mt ab n X) S → (∀ a, a < j → itn ch mt a (fs b) < e) → Wlk ch mt (itn ch mt j (fs b)) e → e ≤ m + itn ch mt j (fs b) → m < M → zle z → R4 31 eC z.1 S → Gn z.2 S →
    WP (whl M (bfX2_measureBlock_28 N l1 (nI k) l3 (nI e)) (nI (itn ch mt j (fs b)), nI j, S)) (fun S' => Fr mbA S S' ∧ ∃ z' : (Nat → Nat) × (Nat → Nat), zle z' ∧ R4 31 eC z'.1 S' ∧ Gn z'.2 S' ∧ ∀ c, c < 32 → rsr z' c = rsr (wkr (un ch mt ab X (Tab ch mt ab n X) (k + 1)) (nxt ch mt) m (itn ch mt j (fs b)) e z) c)
  | m, 0, _, _, _, _, _, _, _, _, _, _, hM, _, _, _ => absurd hM (by omega)
  | m, M + 1, j, z, S, hD, hA, hE, hC, hj, hw, hem, hM, hz, h4, hG => by
    have hW := hK.1.1
    have h60 := hW.1
    have hen : e ≤ n := by rw [he]; exact (hW.sp (hK.2.2.1 b hb)).2
    have hpe := hw.le hW
    by_cases hpe2 : itn ch mt j (fs b) < e
    · have hj' : ∀ a, a ≤ j → itn ch mt a (fs b) < e := fun a ha => by
        by_cases q : a = j
        · rw [q]; exact hpe2
        · exact hj a (by omega)
      obtain ⟨m', rfl⟩ : ∃ m', m = m' + 1 := ⟨m - 1, by omega⟩
      have hwk : wkr (un ch mt ab X (Tab ch mt ab n X) (k + 1)) (nxt ch mt) (m' + 1) (itn ch mt j (fs b)) e z = wkr (un ch mt ab X (Tab ch mt ab n X) (k + 1)) (nxt ch mt) m' (itn ch mt (j + 1) (fs b)) e (wst (un ch mt ab X (Tab ch mt ab n X) (k + 1) (itn ch mt j (fs b))) z) := by
        rw [itn_s]
        exact if_pos hpe2
      by_cases hr : ∃ s, s < 4 ∧ z.1 s < 1000
      · obtain ⟨y, ey, S1, rfl, g1, g2, g3⟩ := s_stm hN hK hD hA hX hE hb hk hm hC he hj' hz h4 hG hr (l1 := l1) (l3 := l3)
        rw [whl_s ey]
        have hw' : Wlk ch mt (itn ch mt (j + 1) (fs b)) e := by
          rw [itn_s]
          rcases hw.cases with q | ⟨_, _, q⟩
          · omega
          · exact q
        have hnx : itn ch mt j (fs b) < itn ch mt (j + 1) (fs b) := by
          rw [itn_s]
          rcases hw.cases with q | ⟨_, q, _⟩
          · omega
          · exact (nxt_ok hW q).1
        have hD1 := hD.mv g1 (by decide)
        rw [← g1.1] at hD1
        refine (s_mbloop hN hK hX hb hk hm he m' M (j + 1) _ S1 hD1 (hA.mv g1 (by decide)) (fun x hx => by rw [g1.2 19 (by decide)]; exact hE x hx) (hC.mv g1 (by decide)) (fun a ha => hj' a (by omega)) hw' (by omega) (by omega) (wst_le hz) g2 g3).imp (fun S2 g => ⟨g1.trans g.1, ?_⟩)
        rw [hwk]; exact g.2
      · have hd : ∀ s, s < 4 → z.1 s = 1000 := fun s hs => by
          have h1 := hz.1 s
          have h2 : ¬ z.1 s < 1000 := fun q => hr ⟨s, hs, q⟩
          omega
        have hj60 : j < 60 := by
          have := itn_ge hW j (fs b) (by rw [he]; exact (hW.sp (hK.2.2.1 b hb)).1) hj'
          omega
        refine WP.eq (whl_e (y := S) ?_) ⟨Fr.refl _ _, z, hz, h4, hG, fun c hc => ?_⟩
        · unfold bfX2_measureBlock_28
          rw [if_neg (show ¬ (60 : Int32) ≤ nI j from nI_ge (b := 60) hj60 (by omega)), if_neg (nI_ge hpe2 (by omega)), s_reached hN h4]
          simp only [Option.bind_some]
          rw [if_pos (bP_0 hr)]
        · obtain ⟨d1, d2⟩ := wkr_dead (U := un ch mt ab X (Tab ch mt ab n X) (k + 1)) (nx := nxt ch mt) (e := e) (m' + 1) (itn ch mt j (fs b)) z hz hd
          unfold rsr
          by_cases q : c < 4
          · rw [if_pos q, if_pos q, d1 c q, hd c q]
          · rw [if_neg q, if_neg q, d2 c]
    · refine WP.eq (whl_e (y := S) ?_) ⟨Fr.refl _ _, z, hz, h4, hG, fun c hc => ?_⟩
      · unfold bfX2_measureBlock_28
        by_cases q : (60 : Int32) ≤ nI j
        · exact if_pos q
        · rw [if_neg q]
          exact if_pos (nI_le (by omega) (by omega))
      · have : wkr (un ch mt ab X (Tab ch mt ab n X) (k + 1)) (nxt ch mt) m (itn ch mt j (fs b)) e z = z := by
          cases m with
          | zero => rfl
          | succ m => exact if_neg hpe2
        rw [this]
theorem s_store (hN : 60 < N) {R : Nat} (hR : R + 32 ≤ 23808) {z : (Nat → Nat) × (Nat → Nat)} (hz : zle z) (h4 : R4 31 eC z.1 S) (hG : Gn z.2 S) : WP (fX2_store N (nI R) S) (fun S' => Fr [30, 33] S S' ∧ (∀ c, c < 32 → S'.1 30 (R + c) = eC (rsr z c)) ∧ ∀ y, (y < R ∨ R + 32 ≤ y) → S'.1 30 y = S.1 30 y) := by
  unfold fX2_store
  refine WP.bnd (P := fun S1 => Fr [33] S S1 ∧ Cr 33 (rsr z) S1) ?_ (fun S1 g1 => ?_)
  · unfold fX2_store_2
    refine WP.fr1 4 N (fun t T => Fr [33] S T ∧ ∀ c, c < 32 → T.1 33 c = eC (if c < t then z.1 c else if c < 4 then 1000 else z.2 c)) (by omega) ?_ ?_ 0 (by omega) ⟨Fr.refl _ _, fun c hc => ?_⟩
    · rintro t T ht ⟨t1, t2⟩
      unfold bfX2_store_2
      refine WP.no (nI_ge (a := t) (b := 4) ht (by omega)) (WP.ix ht (by omega) ?_)
      try dsimp only
      rw [nI_cl (by omega), t1.2 31 (by decide), h4 t ht, eC_n, show (0 : Int32) + nI t = nI t from by rw [show (0 : Int32) = nI 0 from rfl, nI_add, Nat.zero_add]]
      have b1 := eCn_b (z.1 t)
      refine WP.bnd (s_lower (a := 33) (i := t) (old := 1000) (by show t < 32; omega) (by decide) (by omega) (Nat.le_refl _) (by rw [t2 t (by omega), if_neg (by omega), if_pos ht])) (fun T1 g => WP.ret ⟨T1, by rw [nI_1], t1.trans g.1, fun c hc => ?_⟩)
      by_cases q : c = t
      · subst q
        rw [g.2.1, cap_1 (hz.1 c), if_pos (by omega), Nat.min_eq_right (hz.1 c)]
      · rw [g.2.2 c q, t2 c hc]
        by_cases q2 : c < t
        · rw [if_pos q2, if_pos (by omega)]
        · rw [if_neg q2, if_neg (show ¬ c < t + 1 by omega)]
    · rintro T ⟨t1, t2⟩
      unfold bfX2_store_2
      refine WP.yes (show (4 : Int32) ≤ nI 4 by decide) (WP.ret ⟨_, rfl, t1, fun c hc => ?_⟩)
      rw [t2 c hc]
      unfold rsr
      by_cases q : c < 4
      · rw [if_pos q, if_pos q]
      · rw [if_neg q, if_neg q, if_neg q]
    · rw [if_neg (by omega)]
      by_cases q : c < 4
      · rw [if_pos q]; exact hG.2 c q
      · rw [if_neg q]; exact hG.1 c (by omega) hc
  · refine WP.bnd (P := fun S2 => Fr [30] S1 S2 ∧ (∀ c, c < 32 → S2.1 30 (R + c) = eC (rsr z c)) ∧ ∀ y, (y < R ∨ R + 32 ≤ y) → S2.1 30 y = S1.1 30 y) ?_ (fun S2 g2 => WP.ret ⟨(g1.1.mono (by decide)).trans (g2.1.mono (by decide)), g2.2.1, fun y hy => by rw [g2.2.2 y hy, g1.1.2 30 (by decide)]⟩)
    unfold fX2_store_31
    refine WP.fr1 32 N (fun i T => Fr [30] S1 T ∧ (∀ c, c < i → T.1 30 (R + c) = eC (rsr z c)) ∧ ∀ y, (y < R ∨ R + 32 ≤ y) → T.1 30 y = S1.1 30 y) (by omega) ?_ ?_ 0 (by omega) ⟨Fr.refl _ _, fun c hc => absurd hc (by omega), fun _ _ => rfl⟩
    · rintro i T hi ⟨t1, t2, t3⟩
      unfold bfX2_store_31
      refine WP.no (nI_ge (a := i) (b := 32) hi (by omega)) (WP.no (nI_pos (by omega)) ?_)
      rw [nI_add]
      refine WP.no (nI_ge (b := 23808) (by omega) (by omega)) (WP.ix hi (by omega) (WP.ix (by omega) (by omega) (WP.ret ⟨_, by rw [nI_1], t1.i (by decide), fun c hc => ?_, fun y hy => ?_⟩)))
      · try dsimp only
        rw [nI_cl (by omega), nI_cl (by omega), si_if]
        by_cases q : c = i
        · rw [if_pos (by omega), t1.2 33 (by decide), q]; exact g1.2 i hi
        · rw [if_neg (by omega)]; exact t2 c (by omega)
      · try dsimp only
        rw [nI_cl (by omega), nI_cl (by omega), si_ni _ _ (by omega)]; exact t3 y hy
    · rintro T ⟨t1, t2, t3⟩
      unfold bfX2_store_31
      exact WP.yes (show (32 : Int32) ≤ nI 32 by decide) (WP.ret ⟨_, rfl, t1, t2, t3⟩)
def maA : List Nat := [30, 31, 32, 33, 34, 35]
theorem s_measureBlock (hN : 100 < N) (hK : TK n B ch mt bn fs kp ag) (hD : TD (S.2 10) n B ch mt bn fs kp ag S) (hA : Ab ab S) (hX : ∀ x, X x ≤ 1000) (hE : ∀ x, x < 896 → S.1 19 x = eC (X x)) {b k s : Nat} (hb : b < B) (hk : k < 6) (hs : s < 4) (hm : ag b → ab k (kp b) = true) (hC : CbA ab B (b + 1) kp fs ag (Tab ch mt ab n X) S) :
    WP (fX2_measureBlock N (nI b) (nI k) (nI s) S) (fun S' => Fr maA S S' ∧ (∀ c, c < 32 → S'.1 30 (rix ag b k s + c) = eC (Tab ch mt ab n X (fs b) (k + 1) s c)) ∧ ∀ y, (y < rix ag b k s ∨ rix ag b k s + 32 ≤ y) → S'.1 30 y = S.1 30 y) := by
  have hN' : 60 < N := by omega
  have hW := hK.1.1
  have h60 := hW.1
  have hB := hK.2.1.2.1
  have hsp := hK.2.2.1 b hb
  obtain ⟨hw, hen⟩ := hW.sp hsp
  have hpe := hw.le hW
  unfold fX2_measureBlock fX2_begin
  refine WP.bnd (P := fun S1 => Fr mbA S S1 ∧ R4 31 eC (un1 s) S1 ∧ Gn (fun _ => 1000) S1) ?_ (fun S1 g1 => ?_)
  · refine WP.bnd (s_fillC (a := 31) (k := 4) rfl (by omega) (by omega)) (fun T1 t1 => ?_)
    rw [show (0 : Int32) = nI 0 from rfl]
    refine WP.bnd (s_lower (a := 31) (i := s) (v := 0) (old := 1000) (by show s < 4; omega) (by decide) (by omega) (Nat.le_refl _) (t1.2 s hs)) (fun T2 t2 => ?_)
    refine WP.bnd (s_fillC (a := 33) (k := 32) rfl (by omega) (by omega)) (fun T3 t3 => WP.ret ⟨((t1.1.mono (by decide)).trans (t2.1.mono (by decide))).trans (t3.1.mono (by decide)), fun v hv => ?_, ⟨fun c h4 hc => t3.2 c hc, fun c hc => t3.2 c (by omega)⟩⟩)
    rw [t3.1.2 31 (by decide)]
    unfold un1
    by_cases q : v = s
    · rw [q, t2.2.1, if_pos rfl]; rfl
    · rw [t2.2.2 v q, if_neg q]; exact t1.2 v hv
  have hD1 := hD.mv g1.1 (by decide)
  rw [← g1.1.1] at hD1
  refine WP.beq (s_firstOf hB hD1 hb) (WP.beq (s_closeOf hB hD1 hb) ?_)
  try dsimp only
  unfold fX2_measureBlock_28
  refine WP.bnd (s_mbloop hN' hK hX hb hk hm rfl 61 N 0 (z0 s) S1 hD1 (hA.mv g1.1 (by decide)) (fun x hx => by rw [g1.1.2 19 (by decide)]; exact hE x hx) (hC.mv g1.1 (by decide)) (fun a ha => absurd ha (by omega)) hw (show enp n mt (fs b) ≤ 61 + fs b by omega) (by omega) (z0_le s) g1.2.1 g1.2.2) (fun S2 g2 => ?_)
  obtain ⟨f2, z, hz, h4, hG, hrow⟩ := g2
  have f12 : Fr mbA S S2 := g1.1.trans f2
  have hD2 := hD.mv f12 (by decide)
  rw [← f12.1] at hD2
  refine WP.beq (s_rowOf hB hD2 hb hk hs) ?_
  try dsimp only
  refine WP.bnd (s_store hN' (rix_lt (by omega) hk hs) hz h4 hG) (fun S3 g3 => WP.ret ⟨(f12.mono (by decide)).trans (g3.1.mono (by decide)), fun c hc => ?_, fun y hy => ?_⟩)
  · rw [g3.2.1 c hc, hrow c hc, Tab_eq hW X hsp]; rfl
  · rw [g3.2.2 y hy, f12.2 30 (by decide)]
theorem rix_b {b k s c b' : Nat} (hk : k < 6) (hs : s < 4) (hc : c < 32) (h : b ≠ b') : ¬ (b' * 768 ≤ rix ag b k s + c ∧ rix ag b k s + c < b' * 768 + 768) := by
  unfold rix
  split <;> omega
theorem rix_in {b k s : Nat} (hk : k < 6) (hs : s < 4) : b * 768 ≤ rix ag b k s ∧ rix ag b k s + 32 ≤ b * 768 + 768 := by
  unfold rix
  split <;> omega
theorem s_matters (hK : TK n B ch mt bn fs kp ag) (hD : TD (S.2 10) n B ch mt bn fs kp ag S) (hA : Ab ab S) {b k : Nat} (hb : b < B) (hk : k < 6) : fX2_matters N (nI b) (nI k) S = some (bP ((ag b ∧ ab k (kp b) = true) ∨ (¬ ag b ∧ k = 0)), S) := by
  have hB := hK.2.1.2.1
  unfold fX2_matters fX2_matters_42
  rw [s_again hB hD hb]
  simp only [Option.bind_some]
  by_cases q : ag b
  · have hkp := (hK.2.2.2.2.2.1 b hb).2 q
    rw [if_neg (fun z => bP_eq0.mp z q)]
    simp only [s_above1 N S hk, s_keeperOf hB hD hb, Option.bind_some, eP_lt hkp, s_has N _ (show kp b < 32 by omega)]
    by_cases q2 : ab k (kp b) = true
    · rw [if_pos ((hA k (kp b) hk hkp).mpr q2), bP_1 (Or.inl ⟨q, q2⟩)]; rfl
    · rw [if_neg (fun z => q2 ((hA k (kp b) hk hkp).mp z)), bP_0 (fun z => z.elim (fun w => q2 w.2) (fun w => w.1 q))]; rfl
  · rw [if_pos (bP_0 q)]
    by_cases q2 : k = 0
    · rw [if_pos (by rw [q2]; rfl), bP_1 (Or.inr ⟨q, q2⟩)]; rfl
    · rw [if_neg (nI_ne0 (by omega) (by omega)), bP_0 (fun z => z.elim (fun w => q w.1) (fun w => q2 w.2))]; rfl
theorem s_measureAll (hN : 100 < N) {m : Nat} (hK : TK n B ch mt bn fs kp ag) (hD : TD m n B ch mt bn fs kp ag S) (hA : Ab ab S) (hX : ∀ x, X x ≤ 1000) (hE : ∀ x, x < 896 → S.1 19 x = eC (X x)) :
    WP (fX2_measureAll N m S) (fun S' => Fr maA (st_p S 10 m) S' ∧ CbA ab B 0 kp fs ag (Tab ch mt ab n X) S') := by
  have hW := hK.1.1
  have hB := hK.2.1.2.1
  have hB0 := hK.2.1.1
  unfold fX2_measureAll fX5_blocks
  generalize hS1 : st_p S 10 m = S1
  have hS11 : S1.1 = S.1 := by rw [← hS1]; rfl
  have hS12 : S1.2 10 = m := by rw [← hS1]; show va_up S.2 10 m 10 = m; unfold va_up; rw [if_pos rfl]
  have hD1 : TD (S1.2 10) n B ch mt bn fs kp ag S1 := by rw [hS12]; unfold TD; rw [hS11]; exact hD
  have hA1 : Ab ab S1 := by unfold Ab; rw [hS11]; exact hA
  have hE1 : ∀ x, x < 896 → S1.1 19 x = eC (X x) := by rw [hS11]; exact hE
  simp only [Option.bind_some]
  rw [hD1.2.2.1]
  refine WP.bnd (P := fun S' => Fr maA S1 S' ∧ CbA ab B 0 kp fs ag (Tab ch mt ab n X) S') ?_ (fun y hy => WP.ret hy)
  unfold fX2_measureAll_15
  have loop : ∀ (i M : Nat) (T : St), i ≤ B → i < M → Fr maA S1 T → CbA ab B i kp fs ag (Tab ch mt ab n X) T → WP (whl M (bfX2_measureAll_15 N) (nI i - 1, T)) (fun S' => Fr maA S1 S' ∧ CbA ab B 0 kp fs ag (Tab ch mt ab n X) S') := by
    intro i
    induction i with
    | zero =>
      intro M T _ hM f hC
      obtain ⟨M', rfl⟩ : ∃ M', M = M' + 1 := ⟨M - 1, by omega⟩
      exact WP.eq (whl_e (y := T) (if_pos (show nI 0 - 1 < 0 by decide))) ⟨f, hC⟩
    | succ b ih =>
      intro M T hbB hM f hC
      obtain ⟨M', rfl⟩ : ∃ M', M = M' + 1 := ⟨M - 1, by omega⟩
      rw [nI_pred]
      have hm1 : nI b + (-1) = nI b - 1 := by rw [Int32.sub_eq_add_neg]
      -- over the kinds
      let J : Nat → St → Prop := fun k T' => Fr maA S1 T' ∧ CbA ab B (b + 1) kp fs ag (Tab ch mt ab n X) T' ∧ (∀ k', k' < k → (ag b ∧ ab k' (kp b) = true) ∨ (¬ ag b ∧ k' = 0) → Cb ag (Gt (Tab ch mt ab n X) fs) b k' T')
      have hk6 : WP (fX2_measureAll_21 N (nI b) (nI 0, T)) (fun T' => J 6 T') := by
        unfold fX2_measureAll_21
        refine WP.fr1 6 N J (by omega) ?_ ?_ 0 (by omega) ⟨f, hC, fun k' h => absurd h (by omega)⟩
        · rintro k T1 hk ⟨j1, j2, j3⟩
          have hDT := hD1.mv j1 (by decide)
          rw [← j1.1] at hDT
          have hAT := hA1.mv j1 (by decide)
          unfold bfX2_measureAll_21 fX2_measureAll_59
          refine WP.no (nI_ge (a := k) (b := 6) hk (by omega)) (WP.beq (s_matters hK hDT hAT (by omega) hk) ?_)
          try dsimp only
          by_cases q : (ag b ∧ ab k (kp b) = true) ∨ (¬ ag b ∧ k = 0)
          · refine WP.no (fun z => bP_eq0.mp z q) ?_
            have hmm : ag b → ab k (kp b) = true := fun z => q.elim (fun w => w.2) (fun w => absurd z w.1)
            refine WP.bnd (P := fun T' => Fr maA S1 T' ∧ CbA ab B (b + 1) kp fs ag (Tab ch mt ab n X) T' ∧ (∀ k', k' < k → (ag b ∧ ab k' (kp b) = true) ∨ (¬ ag b ∧ k' = 0) → Cb ag (Gt (Tab ch mt ab n X) fs) b k' T') ∧ ∀ s c, s < 4 → c < 32 → T'.1 30 (rix ag b k s + c) = eC (Gt (Tab ch mt ab n X) fs b k s c)) ?_ (fun y hy => WP.ret ⟨y, by rw [nI_1], hy.1, hy.2.1, fun k' hk' hq => ?_⟩)
            · unfold fX2_measureAll_39
              refine WP.fr1 4 N (fun s T' => Fr maA S1 T' ∧ CbA ab B (b + 1) kp fs ag (Tab ch mt ab n X) T' ∧ (∀ k', k' < k → (ag b ∧ ab k' (kp b) = true) ∨ (¬ ag b ∧ k' = 0) → Cb ag (Gt (Tab ch mt ab n X) fs) b k' T') ∧ ∀ s' c, s' < s → c < 32 → T'.1 30 (rix ag b k s' + c) = eC (Gt (Tab ch mt ab n X) fs b k s' c)) (by omega) ?_ ?_ 0 (by omega) ⟨j1, j2, j3, fun s' c h => absurd h (by omega)⟩
              · rintro s T2 hs ⟨t1, t2, t3, t4⟩
                have hDT2 := hD1.mv t1 (by decide)
                rw [← t1.1] at hDT2
                unfold bfX2_measureAll_39
                refine WP.no (nI_ge (a := s) (b := 4) hs (by omega)) ?_
                have hri := rix_in (ag := ag) (b := b) hk hs
                refine WP.bnd (s_measureBlock hN hK hDT2 (hA1.mv t1 (by decide)) hX (fun x hx => by rw [t1.2 19 (by decide)]; exact hE1 x hx) (show b < B by omega) hk hs hmm t2) (fun T3 g => WP.ret ⟨T3, by rw [nI_1], t1.trans g.1, ?_, ?_, ?_⟩)
                · intro b' hb' hbB' k' hk' hq' s' c hs' hc
                  have hne := rix_b (ag := ag) (b := b') (b' := b) hk' hs' hc (by omega)
                  rw [g.2.2 _ (by omega)]; exact t2 b' hb' hbB' k' hk' hq' s' c hs' hc
                · intro k' hk' hq' s' c hs' hc
                  have hold := t3 k' hk' hq' s' c hs' hc
                  rw [g.2.2 _ ?_]
                  · exact hold
                  · have hne : k' ≠ k := by omega
                    unfold rix
                    by_cases w : ag b
                    · rw [if_pos w, if_pos w]; omega
                    · have w1 := hq'.elim (fun v => absurd v.1 w) (fun v => v.2)
                      have w2 := q.elim (fun v => absurd v.1 w) (fun v => v.2)
                      omega
                · intro s' c hs' hc
                  by_cases w : s' = s
                  · subst w; exact g.2.1 c hc
                  · rw [g.2.2 _ ?_]
                    · exact t4 s' c (by omega) hc
                    · unfold rix
                      by_cases v : ag b
                      · rw [if_pos v]; omega
                      · rw [if_neg v]; omega
              · rintro T2 ⟨t1, t2, t3, t4⟩
                unfold bfX2_measureAll_39
                exact WP.yes (show (4 : Int32) ≤ nI 4 by decide) (WP.ret ⟨_, rfl, t1, t2, t3, fun s c h => t4 s c h⟩)
            · by_cases w : k' = k
              · subst w; exact hy.2.2.2
              · exact hy.2.2.1 k' (by omega) hq
          · refine WP.yes (bP_0 q) (WP.ret ⟨T1, by rw [nI_1], j1, j2, fun k' hk' hq => ?_⟩)
            by_cases w : k' = k
            · subst w; exact absurd hq q
            · exact j3 k' (by omega) hq
        · intro T1 hJ
          unfold bfX2_measureAll_21
          exact WP.yes (show (6 : Int32) ≤ nI 6 by decide) (WP.ret ⟨_, rfl, hJ⟩)
      obtain ⟨T', e1, j1, j2, j3⟩ := hk6
      have hs : bfX2_measureAll_15 N (nI b, T) = some (.inl (nI b - 1, T')) := by
        unfold bfX2_measureAll_15
        rw [if_neg (nI_pos (by omega)), show fX2_measureAll_21 N (nI b) (0, T) = some T' from e1]
        simp only [Option.bind_some]
        rw [hm1]
      rw [whl_s hs]
      refine ih M' T' (by omega) (by omega) j1 (fun b' hb' hbB' k' hk' hq' => ?_)
      by_cases w : b' = b
      · subst w
        by_cases v : ag b'
        · exact j3 k' hk' (Or.inl ⟨v, hq' v⟩)
        · intro s c hs' hc
          have h0 := j3 0 (by omega) (Or.inr ⟨v, rfl⟩) s c hs' hc
          have er : rix ag b' k' s = rix ag b' 0 s := by unfold rix; rw [if_neg v, if_neg v]
          rw [er, h0]
          exact congrArg eC (Tab_na hK X 61 b' (by omega) (by omega) v _ _ s c)
      · exact j2 b' (by omega) hbB' k' hk' hq'
  exact loop B N S1 (Nat.le_refl _) (by omega) (Fr.refl _ _) (fun b h1 h2 => absurd h1 (by omega))
end C7
