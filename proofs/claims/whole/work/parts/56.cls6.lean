/-! ===== the first program: a block is measured ===== -/
section C6
variable {N n B : Nat} {ch mt bn fs kp : Nat → Nat} {ag : Nat → Prop} {S : St} {ab : Nat → Nat → Bool} {X : Nat → Nat}
def mbA : List Nat := [31, 32, 33, 34, 35]
/-- all rows of blocks from lo on -/
def CbA (ab : Nat → Nat → Bool) (B lo : Nat) (kp fs : Nat → Nat) (ag : Nat → Prop) (τ : Nat → Nat → Nat → Nat → Nat) (S : St) : Prop := ∀ b, lo ≤ b → b < B → ∀ k, k < 6 → (ag b → ab k (kp b) = true) → Cb ag (Gt τ fs) b k S
theorem CbA.mv {lo : Nat} {τ : Nat → Nat → Nat → Nat → Nat} {T : St} (h : CbA ab B lo kp fs ag τ S) {A : List Nat} (f : Fr A S T) (hA : 30 ∉ A) : CbA ab B lo kp fs ag τ T := fun b h1 h2 k h3 h4 => (h b h1 h2 k h3 h4).mv f hA
theorem s_reached (hN : 60 < N) {h : Nat → Nat} (h4 : R4 31 eC h S) : fX2_isReached N S = some (bP (∃ s, s < 4 ∧ h s < 1000), S) := by
  have key : ∀ (m k M : Nat), k + m = 4 → m < M → (∀ s, s < k → ¬ h s < 1000) → whl M (bfX2_isReached_2 N) (nI k, S) = some (bP (∃ s, s < 4 ∧ h s < 1000), S) := by
    intro m
    induction m with
    | zero =>
      intro k M hk hM hno
      obtain ⟨M', rfl⟩ : ∃ M', M = M' + 1 := ⟨M - 1, by omega⟩
      obtain rfl : k = 4 := by omega
      refine whl_e ?_
      unfold bfX2_isReached_2
      rw [if_pos (show (4 : Int32) ≤ nI 4 by decide), bP_0 (fun ⟨s, h1, h2⟩ => hno s h1 h2)]
    | succ m ih =>
      intro k M hk hM hno
      obtain ⟨M', rfl⟩ : ∃ M', M = M' + 1 := ⟨M - 1, by omega⟩
      by_cases q : h k < 1000
      · refine whl_e ?_
        unfold bfX2_isReached_2
        rw [if_neg (show ¬ (4 : Int32) ≤ nI k from nI_ge (b := 4) (by omega) (by omega)), if_neg (nI_in (by omega) (by omega))]
        try dsimp only
        rw [nI_cl (by omega), h4 k (by omega), if_neg (fun z => by have := eC_ge.mp z; omega), bP_1 ⟨k, by omega, q⟩]
      · have e : bfX2_isReached_2 N (nI k, S) = some (.inl (nI (k + 1), S)) := by
          unfold bfX2_isReached_2
          rw [if_neg (show ¬ (4 : Int32) ≤ nI k from nI_ge (b := 4) (by omega) (by omega)), if_neg (nI_in (by omega) (by omega))]
          try dsimp only
          rw [nI_cl (by omega), h4 k (by omega), if_pos (eC_ge.mpr (by omega)), nI_1]
        rw [whl_s e]
        refine ih (k + 1) M' (by omega) (by omega) (fun s hs => ?_)
        by_cases w : s = k
        · rw [w]; exact q
        · exact hno s (by omega)
  unfold fX2_isReached fX2_isReached_2
  rw [show (((0 : Int32), S) : Int32 × St) = (nI 0, S) from rfl, key 4 0 N (by omega) (by omega) (fun s hs => absurd hs (by omega))]
  rfl
set_option maxHeartbeats 4000000 in
/-- one statement -/
theorem s_stm (hN : 60 < N) (hK : TK n B ch mt bn fs kp ag) (hD : TD (S.2 10) n B ch mt bn fs kp ag S) (hA : Ab ab S) (hX : ∀ x, X x ≤ 1000) (hE : ∀ x, x < 896 → S.1 19 x = eC (X x)) {b k j e : Nat} (hb : b < B) (hk : k < 6) (hm : ag b → ab k (kp b) = true) (hC : CbA ab B (b + 1) kp fs ag (Tab ch mt ab n X) S) (he : e = enp n mt (fs b)) (hj : ∀ a, a ≤ j → itn ch mt a (fs b) < e) {z : (Nat → Nat) × (Nat → Nat)} (hz : zle z) (h4 : R4 31 eC z.1 S) (hG : Gn z.2 S) (hr : ∃ s, s < 4 ∧ z.1 s < 1000) {l1 l3 : Int32} :
    WP (bfX2_measureBlock_28 N l1 (nI k) l3 (nI e) (nI (itn ch mt j (fs b)), nI j, S)) (fun y => ∃ S', y = .inl (nI (itn ch mt (j + 1) (fs b)), nI (j + 1), S') ∧ Fr mbA S S' ∧ R4 31 eC (wst (un ch mt ab X (Tab ch mt ab n X) (k + 1) (itn ch mt j (fs b))) z).1 S' ∧ Gn (wst (un ch mt ab X (Tab ch mt ab n X) (k + 1) (itn ch mt j (fs b))) z).2 S') := by
  have hK' := hK
  obtain ⟨⟨hW, hc⟩, ⟨hB0, hB, hf0⟩, hsp, hmo, hbn, hkp, hag⟩ := hK
  have h60 := hW.1
  have hspb := hsp b hb
  obtain ⟨hw, hen⟩ := hW.sp hspb
  rw [← he] at hw hen
  obtain ⟨hge, hw2, hs⟩ := itn_ge hW j (fs b) hw hj
  have hag' := hag b j hb (by rw [← he]; exact hj)
  have hie := hj j (Nat.le_refl _)
  rw [itn_s]
  generalize hie2 : itn ch mt j (fs b) = i at *
  have hτ : ∀ sp tk s c, Tab ch mt ab n X sp tk s c ≤ 1000 := Tab_le X
  generalize hτe : Tab ch mt ab n X = τ at *
  -- rows of the blocks within
  have cn : ∀ q, sbn ch mt i q → Cb ag (Gt τ fs) (bn q) k S := fun q hq => by
    have h1 := sbr_ok hW hs (sbn_sbr hq)
    have h2 := hag'.2.1 q hq
    refine hC (bn q) (hK'.lt hb h1.1 (by omega)) (hbn q h1.1).1 k hk (fun z => ?_)
    rw [h2.2]; exact hm (h2.1 z)
  unfold bfX2_measureBlock_28 fX2_measureBlock_295
  refine WP.no (nI_ge (a := j) (b := 60) (by omega) (by omega)) (WP.no (nI_ge hie (by omega)) ?_)
  refine WP.beq (s_reached hN h4) (WP.no (fun v => bP_eq0.mp v hr) ?_)
  try dsimp only
  rw [nI_1]
  refine WP.beq (s_at hW hD (i := i + 1) (by omega)) (WP.beq (s_at hW hD (i := i) (by omega)) ?_)
  try dsimp only
  have hyes : ∀ v, 0 < v → v < 256 → ch i = v → cA n ch i = nI v := fun v h1 h2 h3 => (cA_is hW hc h1 h2).mpr h3
  have hno : ∀ v, 0 < v → v < 256 → ch i ≠ v → ¬ cA n ch i = nI v := fun v h1 h2 h3 h4 => h3 ((cA_is hW hc h1 h2).mp h4)
  have hn1 : i + 1 < n → cA n ch (i + 1) = nI (ch (i + 1)) := fun h => if_pos h
  let U := un ch mt ab X τ (k + 1) i
  -- a way out
  have lv : ∀ (w nx : Nat), 1 ≤ w → w ≤ 7 → nx = nxt ch mt i → (∀ t c, U t c = if c = w * 4 + t then 1 else 1000) → WP ((fX2_leaveBy N (nI w) S).bind (fun q6 => (some (Sum.inl (nI nx, nI j + 1, q6)) : Option ((Int32 × Int32 × St) ⊕ St)))) (fun y => ∃ S', y = .inl (nI (nxt ch mt i), nI (j + 1), S') ∧ Fr mbA S S' ∧ R4 31 eC (wst U z).1 S' ∧ Gn (wst U z).2 S') := by
    intro w nx hw1 hw7 hnx hU
    have hUe : U = fun t c => if c = w * 4 + t then 1 else 1000 := by funext t c; exact hU t c
    refine WP.bnd (s_leaveBy hN hw1 hw7 hz.1 hz.2 h4 hG) (fun S1 g1 => WP.ret ⟨S1, by rw [nI_1, hnx], g1.1.mono (by decide), fun v hv => ?_, ⟨fun c h4' hc' => ?_, g1.2.2.2⟩⟩)
    · rw [g1.2.1 v hv]
      refine congrArg eC ?_
      show 1000 = vm 4 z.1 U v
      rw [hUe, vm_pt, if_neg (by omega)]
    · rw [g1.2.2.1 c h4' hc']
      refine congrArg eC ?_
      show (if c / 4 = w then min (z.2 c) (sat (z.1 (c % 4)) 1) else z.2 c) = min (z.2 c) (vm 4 z.1 U c)
      rw [hUe, vm_pt]
      by_cases q : c / 4 = w
      · rw [if_pos q, if_pos q]
      · rw [if_neg q, if_neg q, Nat.min_eq_left (hz.2 c)]
  have hs2 := hs
  rcases hs with h1 | h1 | h1 | h1 | h1 | h1 | h1
  · obtain ⟨h1, h2, h3⟩ := h1
    refine WP.yes (hyes 33 (by omega) (by omega) h1) ?_
    rw [hn1 (by omega)]
    have e1 : (1 + nI (ch (i + 1))) - 65 = nI (ch (i + 1) - 64) := by
      rw [show (1 : Int32) = nI 1 from rfl, nI_add, show (65 : Int32) = nI 65 from rfl, pk_sub (by omega), show 1 + ch (i + 1) - 65 = ch (i + 1) - 64 by omega]
    rw [e1, nI_2]
    refine lv _ _ (by omega) (by omega) ?_ (fun t c => un_33 h1)
    unfold nxt; rw [if_neg (by omega), if_neg (by omega), if_neg (by omega), if_neg (by omega)]
  · obtain ⟨h1, h2, h3, h5⟩ := h1
    refine WP.no (hno 33 (by omega) (by omega) (by omega)) (WP.no (hno 42 (by omega) (by omega) (by omega)) (WP.no (hno 43 (by omega) (by omega) (by omega)) (WP.no (hno 45 (by omega) (by omega) (by omega)) (WP.no (hno 46 (by omega) (by omega) (by omega)) (WP.no (hno 63 (by omega) (by omega) (by omega)) (WP.yes (hyes 64 (by omega) (by omega) h1) ?_))))))
    rw [hn1 (by omega)]
    have e1 : nI (ch (i + 1)) - 97 = nI (ch (i + 1) - 97) := pk_sub (b := 97) h2
    rw [e1, nI_2]
    have hUe : U = fun t c => if c < 28 then sat 1 (X (((ch (i + 1) - 97) * 4 + t) * 28 + c)) else 1000 := by funext t c; exact un_64 h1
    refine WP.bnd (s_call hN hX hE (r := ch (i + 1) - 97) (by omega) hz.1 hz.2 h4 hG) (fun S1 g1 => WP.ret ⟨S1, ?_, g1.1.mono (by decide), ?_, ?_⟩)
    · rw [nI_1]; unfold nxt; rw [if_neg (by omega), if_neg (by omega), if_neg (by omega), if_neg (by omega)]
    · show R4 31 eC (fun c => vm 4 z.1 U c) S1
      rw [hUe]; exact g1.2.1
    · show Gn (fun c => min (z.2 c) (vm 4 z.1 U c)) S1
      rw [hUe]; exact g1.2.2
  · obtain ⟨h1, h2, h3⟩ := h1
    have hnx : i + 2 = nxt ch mt i := by unfold nxt; rw [if_neg (by omega), if_neg (by omega), if_neg (by omega), if_neg (by omega)]
    have tn : ∀ (l2 : Int32) (σ : Nat → Nat), ((l2 = 0 ∧ σ = fun s => tof s (ch (i + 1) - 48)) ∨ (l2 = 1 ∧ σ = fun s => ton s (ch (i + 1) - 48))) → (∀ s, s < 4 → σ s < 4) → (∀ t c, U t c = if c = σ t then 1 else 1000) → WP ((fX2_turn N (nI (ch (i + 1) - 48 + 1)) l2 S).bind (fun q1 => (some (Sum.inl (nI i + 2, nI j + 1, q1)) : Option ((Int32 × Int32 × St) ⊕ St)))) (fun y => ∃ S', y = .inl (nI (nxt ch mt i), nI (j + 1), S') ∧ Fr mbA S S' ∧ R4 31 eC (wst U z).1 S' ∧ Gn (wst U z).2 S') := by
      intro l2 σ hl hσ hU
      have hUe : U = fun t c => if c = σ t then 1 else 1000 := by funext t c; exact hU t c
      refine WP.bnd (s_turn hN (b := ch (i + 1) - 48) (by omega) hl hz.1 h4) (fun S1 g1 => WP.ret ⟨S1, by rw [nI_1, nI_2, hnx], g1.1.mono (by decide), ?_, ⟨fun c h4' hc' => ?_, fun c hc' => ?_⟩⟩)
      · show R4 31 eC (fun c => vm 4 z.1 U c) S1
        rw [hUe]; exact g1.2
      · rw [g1.1.2 33 (by decide), hG.1 c h4' hc']
        refine congrArg eC ?_
        show z.2 c = min (z.2 c) (vm 4 z.1 U c)
        have : vm 4 z.1 U c = 1000 := mn_top (fun s hs => by
          rw [hU s c, if_neg (by have := hσ s hs; omega), sat_top']; exact Nat.le_refl _)
        rw [this, Nat.min_eq_left (hz.2 c)]
      · rw [g1.1.2 33 (by decide)]; exact hG.2 c hc'
    have hsel : ∀ (F : Int32 → Option ((Int32 × Int32 × St) ⊕ St)), (if cA n ch (i + 1) = 49 then F 2 else F 1) = F (nI (ch (i + 1) - 48 + 1)) := by
      intro F
      rw [hn1 (by omega)]
      rcases h2 with h2 | h2
      · rw [h2, if_neg (show ¬ nI 48 = 49 by decide)]; rfl
      · rw [h2, if_pos (show nI 49 = 49 from rfl)]; rfl
    have ha2 : ∀ (s1 : Int32), fX2_measureBlock_207 N l1 (nI k) l3 (nI i) (nI e) (nI j) s1 S = fX2_measureBlock_226 N l1 (nI k) l3 (nI i) (nI e) (nI j) s1 (if ch i = 43 then 1 else 0) S := by
      intro s1
      unfold fX2_measureBlock_207
      rw [s_at hW hD (i := i) (by omega)]
      simp only [Option.bind_some]
      by_cases q : ch i = 43
      · rw [if_pos (show cA n ch i = 43 from hyes 43 (by omega) (by omega) q), if_pos q]
      · rw [if_neg (show ¬ cA n ch i = 43 from hno 43 (by omega) (by omega) q), if_neg q]
    rcases h1 with h1 | h1
    · refine WP.no (hno 33 (by omega) (by omega) (by omega)) (WP.no (hno 42 (by omega) (by omega) (by omega)) (WP.yes (hyes 43 (by omega) (by omega) h1) ?_))
      rw [hsel (fun s1 => fX2_measureBlock_207 N l1 (nI k) l3 (nI i) (nI e) (nI j) s1 S), ha2, if_pos h1]
      unfold fX2_measureBlock_226 fX2_measureBlock_295
      exact tn 1 (fun s => ton s (ch (i + 1) - 48)) (Or.inr ⟨rfl, rfl⟩) (fun s hs => (c_on s hs _ (by omega)).2) (fun t c => un_43 h1)
    · refine WP.no (hno 33 (by omega) (by omega) (by omega)) (WP.no (hno 42 (by omega) (by omega) (by omega)) (WP.no (hno 43 (by omega) (by omega) (by omega)) (WP.yes (hyes 45 (by omega) (by omega) h1) ?_)))
      rw [hsel (fun s1 => fX2_measureBlock_207 N l1 (nI k) l3 (nI i) (nI e) (nI j) s1 S), ha2, if_neg (by omega)]
      unfold fX2_measureBlock_226 fX2_measureBlock_295
      exact tn 0 (fun s => tof s (ch (i + 1) - 48)) (Or.inl ⟨rfl, rfl⟩) (fun s hs => (c_of s hs _ (by omega)).2) (fun t c => un_45 h1)
  · obtain ⟨h1, h3⟩ := h1
    have hnx : i + 1 = nxt ch mt i := by unfold nxt; rw [if_neg (by omega), if_neg (by omega), if_neg (by omega), if_pos (by omega)]
    rcases h1 with h1 | h1
    · refine WP.no (hno 33 (by omega) (by omega) (by omega)) (WP.no (hno 42 (by omega) (by omega) (by omega)) (WP.no (hno 43 (by omega) (by omega) (by omega)) (WP.no (hno 45 (by omega) (by omega) (by omega)) (WP.yes (hyes 46 (by omega) (by omega) h1) ?_))))
      refine lv 7 _ (by omega) (by omega) hnx (fun t c => ?_)
      show un ch mt ab X τ (k + 1) i t c = _
      rw [un_46 h1]
    · refine WP.no (hno 33 (by omega) (by omega) (by omega)) (WP.no (hno 42 (by omega) (by omega) (by omega)) (WP.no (hno 43 (by omega) (by omega) (by omega)) (WP.no (hno 45 (by omega) (by omega) (by omega)) (WP.no (hno 46 (by omega) (by omega) (by omega)) (WP.no (hno 63 (by omega) (by omega) (by omega)) (WP.no (hno 64 (by omega) (by omega) (by omega)) (WP.no (hno 84 (by omega) (by omega) (by omega)) (WP.yes (hyes 94 (by omega) (by omega) h1) ?_))))))))
      have e1 : 1 + nI k = nI (k + 1) := by rw [show (1 : Int32) = nI 1 from rfl, nI_add, Nat.add_comm]
      rw [e1]
      refine lv (k + 1) _ (by omega) (by omega) hnx (fun t c => ?_)
      show un ch mt ab X τ (k + 1) i t c = _
      rw [un_94 h1]
      by_cases q : c = (k + 1) * 4 + t
      · rw [if_pos ⟨by omega, q⟩, if_pos q]
      · rw [if_neg (fun v => q v.2), if_neg q]
  · obtain ⟨h1, h2, h3, h5⟩ := h1
    have hf1 := (hbn _ h2).2
    have hf2 := (hbn _ h3).2
    refine WP.no (hno 33 (by omega) (by omega) (by omega)) (WP.no (hno 42 (by omega) (by omega) (by omega)) (WP.no (hno 43 (by omega) (by omega) (by omega)) (WP.no (hno 45 (by omega) (by omega) (by omega)) (WP.no (hno 46 (by omega) (by omega) (by omega)) (WP.yes (hyes 63 (by omega) (by omega) h1) ?_)))))
    have hUe : U = fun t c => min (Gt τ fs (bn (i + 1)) k t c) (Gt τ fs (bn (mt (i + 1) + 1)) k t c) := by
      funext t c
      show un ch mt ab X τ (k + 1) i t c = min (τ (fs (bn (i + 1))) (k + 1) t c) (τ (fs (bn (mt (i + 1) + 1))) (k + 1) t c)
      rw [un_63 h1, hf1, hf2]
    refine WP.bnd (s_choose hN hK' hD h2 h3 hk (G := Gt τ fs) (fun b k s c => hτ _ _ _ _) (cn _ (Or.inl ⟨h1, Or.inl rfl⟩)) (cn _ (Or.inl ⟨h1, Or.inr rfl⟩)) hz.1 hz.2 h4 hG) (fun y g1 => WP.ret ⟨y.2, ?_, g1.2.1.mono (by decide), ?_, ?_⟩)
    · rw [g1.1, nI_1]; unfold nxt; rw [if_pos h1]
    · show R4 31 eC (fun c => vm 4 z.1 U c) y.2
      rw [hUe]; exact g1.2.2.1
    · show Gn (fun c => min (z.2 c) (vm 4 z.1 U c)) y.2
      rw [hUe]; exact g1.2.2.2
  · obtain ⟨h1, h2, h3⟩ := h1
    have hf1 := (hbn _ h2).2
    refine WP.no (hno 33 (by omega) (by omega) (by omega)) (WP.yes (hyes 42 (by omega) (by omega) h1) ?_)
    have hGe : Gt τ fs (bn (i + 1)) k = τ (i + 2) (k + 1) := by
      funext t c
      show τ (fs (bn (i + 1))) (k + 1) t c = _
      rw [hf1]
    have hUe : U = fun t c => if c < 4 then clo (Gt τ fs (bn (i + 1)) k) (un1 t) c else vm 4 (clo (Gt τ fs (bn (i + 1)) k) (un1 t)) (Gt τ fs (bn (i + 1)) k) c := by
      funext t c
      show un ch mt ab X τ (k + 1) i t c = _
      rw [un_42 h1, hGe]
    refine WP.bnd (s_repeat hN hK' hD h2 hk (G := Gt τ fs) (fun b k s c => hτ _ _ _ _) (cn _ (Or.inr (Or.inl ⟨h1, rfl⟩))) hz.1 hz.2 h4 hG) (fun y g1 => WP.ret ⟨y.2, ?_, g1.2.1.mono (by decide), ?_, ?_⟩)
    · rw [g1.1, nI_1]; unfold nxt; rw [if_neg (by omega), if_pos h1]
    · show R4 31 eC (fun c => vm 4 z.1 U c) y.2
      rw [hUe]; exact g1.2.2.1
    · show Gn (fun c => min (z.2 c) (vm 4 z.1 U c)) y.2
      rw [hUe]; exact g1.2.2.2
  · have h1' := h1.1
    refine WP.no (hno 33 (by omega) (by omega) (by omega)) (WP.no (hno 42 (by omega) (by omega) (by omega)) (WP.no (hno 43 (by omega) (by omega) (by omega)) (WP.no (hno 45 (by omega) (by omega) (by omega)) (WP.no (hno 46 (by omega) (by omega) (by omega)) (WP.no (hno 63 (by omega) (by omega) (by omega)) (WP.no (hno 64 (by omega) (by omega) (by omega)) (WP.yes (hyes 84 (by omega) (by omega) h1') ?_)))))))
    have hUe : U = tryr ch mt ab τ i (k + 1) := by
      funext t c
      show un ch mt ab X τ (k + 1) i t c = _
      rw [un_84 h1']
    have ct : ∀ w p, tko ch mt ab (mt (i + 1) + 1) w = some p → Cb ag (Gt τ fs) (bn (p + 1)) (w - 1) S := by
      intro w p hp
      obtain ⟨w1, w2, r, hr', p1, p2, p3⟩ := tko_sp hp
      have hst : sbt ch mt i p := ⟨h1', r, hr', by rw [← p1]; exact p2, p1⟩
      have h2 := sbr_ok hW hs2 (sbt_sbr hst)
      refine hC (bn (p + 1)) (hK'.lt hb h2.1 (by omega)) (hbn _ h2.1).1 (w - 1) (by omega) (fun _ => ?_)
      rw [hag'.2.2 p hst]; exact p3
    refine WP.bnd (s_take hN hK' hD hA hs2 h1' hk hτ (cn _ (Or.inr (Or.inr ⟨h1', Or.inl rfl⟩))) ct (fun hz90 => cn _ (Or.inr (Or.inr ⟨h1', Or.inr ⟨hz90, rfl⟩⟩))) hz.1 hz.2 h4 hG) (fun y g1 => WP.ret ⟨y.2, ?_, g1.2.1.mono (by decide), ?_, ?_⟩)
    · rw [g1.1, nI_1]
    · show R4 31 eC (fun c => vm 4 z.1 U c) y.2
      rw [hUe]; exact g1.2.2.1
    · show Gn (fun c => min (z.2 c) (vm 4 z.1 U c)) y.2
      rw [hUe]; exact g1.2.2.2
end C6
