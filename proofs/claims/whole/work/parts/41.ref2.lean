/-! ===== the second program: texts, blocks, calls ===== -/
def RX (r n : Nat) (ch mt : Nat → Nat) (ab : Nat → Nat → Bool) (X : Nat → Nat) (S : St) : Prop :=
  S.1 133 r = nI n ∧ (∀ i, i < n → S.1 132 (60 * r + i) &&& 255 = nI (ch i)) ∧ (∀ q, ch q = 123 → S.1 134 (60 * r + q) = nI (mt q)) ∧ p_ok (S.1 129) ∧ p_ac (S.1 129) ∧ (∀ k f, k < 6 → f < 6 → (ab k f = true ↔ isK (S.1 129) k f)) ∧ (∀ x, x < 896 → S.1 141 x = eR (X x))
/-- what doesn't change -/
def RK (r n : Nat) (ch mt : Nat → Nat) (X : Nat → Nat) : Prop := r < 8 ∧ WF ch mt n ∧ (∀ i, ch i < 256) ∧ ∀ x, X x ≤ 1000
theorem RX.mv {r n : Nat} {ch mt : Nat → Nat} {ab : Nat → Nat → Bool} {X : Nat → Nat} {S T : St} (h : RX r n ch mt ab X S) {A J : List Nat} (f : FrJ J A S T) (hA : 129 ∉ A ∧ 132 ∉ A ∧ 133 ∉ A ∧ 134 ∉ A ∧ 141 ∉ A) : RX r n ch mt ab X T := by
  unfold RX
  rw [f.2.1 129 hA.1 (by decide), f.2.1 132 hA.2.1 (by decide), f.2.1 133 hA.2.2.1 (by decide), f.2.1 134 hA.2.2.2.1 (by decide), f.2.1 141 hA.2.2.2.2 (by decide)]
  exact h
/-- one entry of the tables -/
def ET (r sp tk t : Nat) (τ : Nat → Nat → Nat → Nat → Nat) (μ : Nat → Nat → Nat → Prop) (S : St) : Prop := (∀ x, x < 32 → S.1 139 ((61 * r + sp) * 896 + (tk * 4 + t) * 32 + x) = eR (τ sp tk t (co x))) ∧ S.1 140 ((sp * 7 + tk) * 4 + t) = bP (μ sp tk t)
theorem ET.mv {r sp tk t : Nat} {τ : Nat → Nat → Nat → Nat → Nat} {μ : Nat → Nat → Nat → Prop} {S T : St} (h : ET r sp tk t τ μ S) {A J : List Nat} (f : FrJ J A S T) (hA : 139 ∉ A ∧ 140 ∉ A) : ET r sp tk t τ μ T := by
  unfold ET
  rw [f.2.1 139 hA.1 (by decide), f.2.1 140 hA.2 (by decide)]
  exact h
section R2
variable {N r n : Nat} {ch mt : Nat → Nat} {ab : Nat → Nat → Bool} {X : Nat → Nat} {τ : Nat → Nat → Nat → Nat → Nat} {μ : Nat → Nat → Nat → Prop} {S : St}
theorem s_signOf (hK : RK r n ch mt X) (h : RX r n ch mt ab X S) {i : Nat} (hi : i < 1000) : fX8_signOf N (nI r) (nI i) S = some (nI (ch i), S) := by
  have h60 := hK.2.1.1
  have hr := hK.1
  unfold fX8_signOf fX8_signOf_29
  rw [if_neg (nI_in hr (by omega)), nI_cl (by omega), h.1]
  by_cases q : n ≤ i
  · rw [if_pos (nI_le q (by omega)), hK.2.1.2.1 i q]; rfl
  · rw [if_neg (nI_ge (by omega) (by omega)), nI_x60, nI_add, if_neg (nI_in (by omega) (by omega)), nI_cl (by omega), h.2.1 i (by omega)]
theorem s_shutOf (hK : RK r n ch mt X) (h : RX r n ch mt ab X S) {q : Nat} (hq : ch q = 123) : fX8_shutOf N (nI r) (nI q) S = some (nI (mt q), S) := by
  have h60 := hK.2.1.1
  have hr := hK.1
  have hb := hK.2.1.br hq
  unfold fX8_shutOf
  rw [nI_x60, nI_add, if_neg (nI_in (by omega) (by omega)), nI_cl (by omega), h.2.2.1 q hq]
def oN (o : Option Nat) : Int32 := match o with
  | some p => nI p
  | none => -1
theorem s_isOfb (hN : 60 < N) (h : RX r n ch mt ab X S) {k f : Nat} (hk : k < 6) (hf : f < 6) : fX8_isOf N (nI k) (nI f) S = some (if ab k f = true then 1 else 0, S) := by
  rw [s_isOf N (by omega) hk hf S h.2.2.2.1 h.2.2.2.2.1]
  by_cases q : ab k f = true
  · rw [if_pos q, bK_1 ((h.2.2.2.2.2.1 k f hk hf).mp q)]
  · rw [if_neg q, bK_0 (fun z => q ((h.2.2.2.2.2.1 k f hk hf).mpr z))]
theorem s_tkf (hN : 60 < N) (hK : RK r n ch mt X) (h : RX r n ch mt ab X S) {k : Nat} (hk : k < 6) : ∀ (m M j : Nat), m < M → j < 900 → (∀ a, a < m → ltr (ch (skp ch mt a j)) → ch (skp ch mt a j + 1) = 123) → ¬ ltr (ch (skp ch mt m j)) → whl M (bfX8_takerFor_3 N (nI r) (nI k)) (nI j, S) = some (oN (tkf ch mt ab k m j), S)
  | m, 0, _, hM, _, _, _ => absurd hM (by omega)
  | 0, M + 1, j, _, hj, _, hn => by
    refine whl_e ?_
    unfold bfX8_takerFor_3
    have hn : ¬ ltr (ch j) := hn
    simp only [s_signOf hK h (show j < 1000 by omega), s_letter N S (hK.2.2.1 j), Option.bind_some, if_neg hn, if_pos]
    rfl
  | m + 1, M + 1, j, hM, hj, hb, hn => by
    by_cases h1 : ltr (ch j)
    · have hc : ch j < 256 := hK.2.2.1 j
      have hb0 : ch (j + 1) = 123 := hb 0 (by omega) h1
      have hbr := hK.2.1.br hb0
      have h60 := hK.2.1.1
      have he : bfX8_takerFor_3 N (nI r) (nI k) (nI j, S) = if ab k (ch j - 65) = true then some (.inr (nI j, S)) else some (.inl (nI (mt (j + 1) + 1), S)) := by
        unfold bfX8_takerFor_3
        simp only [s_signOf hK h (show j < 1000 by omega), s_letter N S hc, Option.bind_some, if_pos h1, if_neg z10]
        rw [nI_s65 h1.1, s_isOfb hN h hk (show ch j - 65 < 6 by omega)]
        by_cases q : ab k (ch j - 65) = true
        · simp only [Option.bind_some, if_pos q, if_neg z10]
        · simp only [Option.bind_some, if_neg q, if_pos]
          rw [nI_1, s_shutOf hK h hb0]
          simp only [Option.bind_some, nI_1]
      show _ = some (oN (if ltr (ch j) then (if ab k (ch j - 65) = true then some j else tkf ch mt ab k m (mt (j + 1) + 1)) else none), S)
      rw [if_pos h1]
      by_cases q : ab k (ch j - 65) = true
      · rw [if_pos q] at he ⊢
        exact whl_e he
      · rw [if_neg q] at he ⊢
        rw [whl_s he]
        refine s_tkf hN hK h hk m M _ (by omega) (by omega) (fun a ha hl => ?_) ?_
        · have := hb (a + 1) (by omega)
          rw [show skp ch mt (a + 1) j = skp ch mt a (mt (j + 1) + 1) from if_pos h1] at this
          exact this hl
        · rw [show skp ch mt (m + 1) j = skp ch mt m (mt (j + 1) + 1) from if_pos h1] at hn
          exact hn
    · refine whl_e ?_
      unfold bfX8_takerFor_3
      simp only [s_signOf hK h (show j < 1000 by omega), s_letter N S (hK.2.2.1 j), Option.bind_some, if_neg h1, if_pos]
      rw [show tkf ch mt ab k (m + 1) j = none from if_neg h1]; rfl
/-- a loop that steps over takers -/
theorem s_skp {b : Int32 × St → Option ((Int32 × St) ⊕ (Int32 × St))} (hK : RK r n ch mt X) (h : RX r n ch mt ab X S) (hbd : ∀ x, b x = (fX8_signOf N (nI r) x.1 x.2).bind (fun q1 => (fX8_isLetter N q1.1 q1.2).bind (fun q2 => (if q2.1 = 0 then some (.inr (x.1, q2.2)) else (fX8_shutOf N (nI r) (x.1 + 1) q2.2).bind (fun q3 => some (.inl ((q3.1 + 1), q3.2))))))) : ∀ (m M j : Nat), m < M → j < 900 → (∀ a, a < m → ltr (ch (skp ch mt a j)) → ch (skp ch mt a j + 1) = 123) → ¬ ltr (ch (skp ch mt m j)) → whl M b (nI j, S) = some (nI (skp ch mt m j), S)
  | m, 0, _, hM, _, _, _ => absurd hM (by omega)
  | 0, M + 1, j, _, hj, _, hn => by
    refine whl_e ?_
    rw [hbd]
    have hn : ¬ ltr (ch j) := hn
    simp only [s_signOf hK h (show j < 1000 by omega), s_letter N S (hK.2.2.1 j), Option.bind_some, if_neg hn, if_pos]
    rfl
  | m + 1, M + 1, j, hM, hj, hb, hn => by
    by_cases h1 : ltr (ch j)
    · have hc : ch j < 256 := hK.2.2.1 j
      have hb0 : ch (j + 1) = 123 := hb 0 (by omega) h1
      have hbr := hK.2.1.br hb0
      have h60 := hK.2.1.1
      have he : b (nI j, S) = some (.inl (nI (mt (j + 1) + 1), S)) := by
        rw [hbd]
        simp only [s_signOf hK h (show j < 1000 by omega), s_letter N S hc, Option.bind_some, if_pos h1, if_neg z10]
        rw [nI_1, s_shutOf hK h hb0]
        simp only [Option.bind_some, nI_1]
      rw [whl_s he, show skp ch mt (m + 1) j = skp ch mt m (mt (j + 1) + 1) from if_pos h1]
      refine s_skp hK h hbd m M _ (by omega) (by omega) (fun a ha hl => ?_) ?_
      · have := hb (a + 1) (by omega)
        rw [show skp ch mt (a + 1) j = skp ch mt a (mt (j + 1) + 1) from if_pos h1] at this
        exact this hl
      · rw [show skp ch mt (m + 1) j = skp ch mt m (mt (j + 1) + 1) from if_pos h1] at hn
        exact hn
    · rw [show skp ch mt (m + 1) j = j from if_neg h1]
      refine whl_e ?_
      rw [hbd]
      simp only [s_signOf hK h (show j < 1000 by omega), s_letter N S (hK.2.2.1 j), Option.bind_some, if_neg h1, if_pos]
/-- a state while a row is lowered -/
def Jl (a : Nat) (S0 : St) (f g : Nat → Nat) (v : Int32) (m : Nat) (S : St) : Prop := FrR [a] S0 S ∧ Rp a f g m S ∧ S.1 128 23 = v
theorem s_block26 (hN : 60 < N) (hr : r < 8) (hτ : ∀ sp tk s c, τ sp tk s c ≤ 1000) {b tk t : Nat} (hb : b + 1 ≤ 60) (hk : tk ≤ 6) (ht : t < 4) (h : ET r (b + 1) tk t τ μ S) {f : Nat → Nat} (hf : ∀ c, f c ≤ 1000) (hR : Rr 142 f S) (Q : Prop) : WP (fX8_block_26 N (nI r) (nI b) (nI tk) (nI t) (bP Q) S) (fun S' => FrR [142] S S' ∧ Rr 142 (fun c => min (f c) (τ (b + 1) tk t c)) S' ∧ S'.1 128 23 = bP Q) := by
  unfold fX8_block_26
  refine WP.yes (bP_01 Q) ?_
  refine WP.bnd (P := fun S' => Jl 142 S f (τ (b + 1) tk t) (bP Q) 32 S') ?_ (fun y hy => WP.ret ⟨hy.1, Rp_32 hy.2.1, hy.2.2⟩)
  unfold fX8_block_32
  refine dbl (A := 8) (B := 4) (bi := fun o => bfX8_block_42 N (nI r) (nI b) (nI tk) (nI t) o) (Jl 142 S f (τ (b + 1) tk t) (bP Q)) (by omega) (by omega) (by omega) (by omega) (fun _ => rfl) (fun o T => ?_) (fun o u T ho hu hT => ?_) 0 (by omega) ?_
  · exact if_pos (show (4 : Int32) ≤ nI 4 by decide)
  · show WP (bfX8_block_42 N (nI r) (nI b) (nI tk) (nI t) (nI o) (nI u, T)) _
    unfold bfX8_block_42
    refine WP.no (nI_ge (a := u) (b := 4) hu (by omega)) ?_
    rw [nI_1]
    refine WP.beq (s_allOf N T hr hb hk ht ho hu) ?_
    have e1 : T.1 139 ((61 * r + (b + 1)) * 896 + (tk * 4 + t) * 32 + (o * 4 + u)) = eR (τ (b + 1) tk t (co (o * 4 + u))) := by
      rw [hT.1.2.1 139 (by decide) (by decide)]; exact h.1 _ (by omega)
    dsimp only
    rw [e1]
    refine WP.beq (s_puts N T ho hu (hτ _ _ _ _) (hf _) (Rp_m hT.2.1 (by omega))) ?_
    exact WP.ret ⟨_, by rw [nI_1], hT.1.i (by decide) (by decide), Rp_s hT.2.1, by rw [si_nx _ _ (by decide)]; exact hT.2.2⟩
  · refine ⟨(FrR.refl _ _).m (by decide), fun x hx => ?_, si_at _ _ _ _⟩
    rw [si_nx _ _ (by decide)]; exact Rp_0 hR x hx
theorem s_block (hN : 60 < N) (hr : r < 8) (hτ : ∀ sp tk s c, τ sp tk s c ≤ 1000) {b tk t : Nat} (hb : b + 1 ≤ 60) (hk : tk ≤ 6) (ht : t < 4) (h : ET r (b + 1) tk t τ μ S) {f : Nat → Nat} (hf : ∀ c, f c ≤ 1000) (hR : Rr 142 f S) {P : Prop} (hP : S.1 128 23 = bP P) : WP (fX8_block N (nI r) (nI b) (nI tk) (nI t) S) (fun S' => FrR [142] S S' ∧ Rr 142 (fun c => min (f c) (τ (b + 1) tk t c)) S' ∧ S'.1 128 23 = bP (P ∨ μ (b + 1) tk t)) := by
  unfold fX8_block fX8_block_21
  rw [hP]
  by_cases hp : P
  · refine WP.no (fun q => (bP_eq0.mp q) hp) ?_
    rw [← bP_1 (P := P ∨ μ (b + 1) tk t) (Or.inl hp)]
    exact s_block26 hN hr hτ hb hk ht h hf hR _
  · refine WP.yes (bP_0 hp) ?_
    rw [nI_1]
    refine WP.beq (s_metOf N S hb hk ht h.2) ?_
    dsimp only
    by_cases hm : μ (b + 1) tk t
    · refine WP.no (fun q => (bP_eq0.mp q) hm) ?_
      rw [← bP_1 (P := P ∨ μ (b + 1) tk t) (Or.inr hm)]
      exact s_block26 hN hr hτ hb hk ht h hf hR _
    · refine WP.yes (bP_0 hm) ?_
      rw [← bP_0 (P := P ∨ μ (b + 1) tk t) (fun q => q.elim hp hm)]
      exact s_block26 hN hr hτ hb hk ht h hf hR _
theorem s_calls (hN : 60 < N) (hX : ∀ x, X x ≤ 1000) (hE : ∀ x, x < 896 → S.1 141 x = eR (X x)) {q t : Nat} (hq : q < 8) (ht : t < 4) {f : Nat → Nat} (hf : ∀ c, f c ≤ 1000) (hf7 : ∀ c, 28 ≤ c → f c = 1000) (hR : Rr 142 f S) {v : Int32} (hv : S.1 128 23 = v) : WP (fX8_calls N (nI q) (nI t) S) (fun S' => FrR [142] S S' ∧ Rr 142 (fun c => min (f c) (if c < 28 then sat 1 (X ((q * 4 + t) * 28 + c)) else 1000)) S' ∧ S'.1 128 23 = v) := by
  unfold fX8_calls
  let g : Nat → Nat := fun c => if c < 28 then sat 1 (X ((q * 4 + t) * 28 + c)) else 1000
  have hg : ∀ c, g c ≤ 1000 := fun c => by show (if c < 28 then _ else 1000) ≤ 1000; split; exact sat_le _ _; exact Nat.le_refl _
  let J : Nat → St → Prop := fun m T => FrR [142] S T ∧ (∀ x, x < 32 → T.1 142 x = eR (if co x < m then min (f (co x)) (g (co x)) else f (co x))) ∧ T.1 128 23 = v
  refine WP.bnd (P := J 28) ?_ (fun y hy => WP.ret ⟨hy.1, fun x hx => ?_, hy.2.2⟩)
  · unfold fX8_calls_2
    refine dbl (A := 7) (B := 4) (bi := fun o => bfX8_calls_11 N (nI q) (nI t) o) J (by omega) (by omega) (by omega) (by omega) (fun _ => rfl) (fun o T => ?_) (fun o u T ho hu hT => ?_) 0 (by omega) ?_
    · exact if_pos (show (4 : Int32) ≤ nI 4 by decide)
    · show WP (bfX8_calls_11 N (nI q) (nI t) (nI o) (nI u, T)) _
      obtain ⟨h1, h2, h3⟩ := hT
      have hcm : fX8_calls_31 N (nI q) (nI t) (nI o) (nI u) (if nI o = 0 then 0 else ((2 + nI o) - 1)) T = bfX8_calls_11 N (nI q) (nI t) (nI o) (nI u, T) := by
        unfold bfX8_calls_11
        rw [if_neg (show ¬ (4 : Int32) ≤ nI u from nI_ge (a := u) (b := 4) hu (by omega))]
        split <;> rfl
      rw [← hcm]
      have ho' : (if nI o = 0 then (0 : Int32) else ((2 + nI o) - 1)) = nI (oc (o * 4) / 4) := by
        by_cases z : o = 0
        · subst z; rfl
        · rw [if_neg (nI_ne0 (by omega) (by omega)), show (2 : Int32) = nI 2 from rfl, nI_add, show (1 : Int32) = nI 1 from rfl, pk_sub (by omega)]
          congr 1
          unfold oc
          rw [if_neg (by omega), if_pos (by omega)]; omega
      rw [ho']
      have ho8 : oc (o * 4) / 4 < 8 := by unfold oc; split; omega; split <;> omega
      have hx : co (oc (o * 4) / 4 * 4 + u) = o * 4 + u := by
        have : oc (o * 4) / 4 * 4 + u = oc (o * 4 + u) := by
          unfold oc
          by_cases z : o = 0
          · subst z; rw [if_pos (by omega), if_pos (by omega)]; try omega
          · rw [if_neg (by omega), if_pos (by omega), if_neg (by omega), if_pos (by omega)]; omega
        rw [this]; exact co_oc (by omega)
      unfold fX8_calls_31
      rw [nI_x4, nI_add, nI_x7, nI_add, nI_x4, nI_add]
      refine WP.ix (by omega) (by omega) ?_
      rw [nI_cl (by omega), h1.2.1 141 (by decide) (by decide), hE _ (by omega), show (1 : Int32) = eR 1 from rfl]
      refine WP.beq (s_sum N T (by omega) (hX _)) ?_
      have hold : T.1 142 (oc (o * 4) / 4 * 4 + u) = eR (f (o * 4 + u)) := by
        rw [h2 _ (by omega), hx, if_neg (by omega)]
      refine WP.beq (s_puts N T ho8 hu (sat_le _ _) (hf _) hold) ?_
      refine WP.ret ⟨_, by rw [show eR 1 = (1 : Int32) from rfl, nI_1], h1.i (by decide) (by decide), fun x hx2 => ?_, by rw [si_nx _ _ (by decide)]; exact h3⟩
      rw [si_if]
      by_cases z : x = oc (o * 4) / 4 * 4 + u
      · rw [if_pos z, z, hx, if_pos (by omega)]
        have : g (o * 4 + u) = sat 1 (X (((q * 4 + t) * 7 + o) * 4 + u)) := by
          show (if o * 4 + u < 28 then _ else _) = _
          rw [if_pos (by omega), show (q * 4 + t) * 28 + (o * 4 + u) = ((q * 4 + t) * 7 + o) * 4 + u by omega]
        rw [this]
      · rw [if_neg z, h2 x hx2]
        have hne : co x ≠ o * 4 + u := fun y => z (by rw [← hx] at y; have := congrArg oc y; rw [oc_co hx2, oc_co (by omega)] at this; exact this)
        by_cases w : co x < o * 4 + u
        · rw [if_pos w, if_pos (by omega)]
        · rw [if_neg w, if_neg (by omega)]
    · exact ⟨FrR.refl _ _, fun x hx => by rw [if_neg (by omega)]; exact hR x hx, hv⟩
  · rw [hy.2.1 x hx]
    by_cases w : co x < 28
    · rw [if_pos w]
    · rw [if_neg w]
      show eR (f (co x)) = eR (min (f (co x)) (if co x < 28 then sat 1 (X ((q * 4 + t) * 28 + co x)) else 1000))
      rw [if_neg w, hf7 _ (by omega)]; rfl
end R2
