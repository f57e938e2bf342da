/-! ===== what holds between calls ===== -/
section LO
variable {N : Nat} {nF : Nat → Nat} {cF mF : Nat → Nat → Nat} {ab : Nat → Nat → Bool} {S T U : St}
theorem TX.lo {q : Nat} (h : TX nF cF mF q T) (h2 : U.2 q = T.2 q) (ht : ∀ o, o < 9 → U.1 (TA (T.2 q) + o) = T.1 (TA (T.2 q) + o)) : TX nF cF mF q U := by
  obtain ⟨B, bn, fs, kp, ag, h1, h2', h3⟩ := h
  have h0 : U.1 (TA (T.2 q)) = T.1 (TA (T.2 q)) := ht 0 (by omega)
  refine ⟨B, bn, fs, kp, ag, h1, ?_, ?_⟩
  · rw [h2]
    unfold TD at *
    rw [h0, ht 1 (by omega), ht 2 (by omega), ht 3 (by omega), ht 4 (by omega), ht 5 (by omega), ht 6 (by omega)]
    exact h2'
  · rw [h2, h0]; exact h3
theorem KC.lo (h : KC nF cF mF ab T) (h2 : ∀ j, j < 9 → U.2 j = T.2 j) (ht : ∀ q, q < 8 → ∀ o, o < 9 → U.1 (TA (T.2 q) + o) = T.1 (TA (T.2 q) + o)) (h15 : U.1 15 = T.1 15) (h19 : U.1 19 = T.1 19) (h11 : U.1 0 11 = T.1 0 11) (h12 : U.1 0 12 = T.1 0 12) : KC nF cF mF ab U := by
  obtain ⟨⟨g1, g2, ⟨X, g3, g4⟩, g5⟩, ⟨i1, i2⟩, g6⟩ := h
  refine ⟨⟨fun q hq => (g1 q hq).lo (h2 q (by omega)) (ht q hq), fun k j a b => by rw [h15]; exact g2 k j a b, ⟨X, g3, fun x hx => by rw [h19]; exact g4 x hx⟩, fun q hq hb => ?_⟩, ⟨fun q hq => by rw [h2 q hq]; exact i1 q hq, fun q p hq hp => by rw [h2 q hq, h2 p hp]; exact i2 q p hq hp⟩, fun q hq hb => ?_⟩
  · rw [h11] at hb ⊢
    rw [h19]
    exact g5 q hq hb
  · rw [h12] at hb
    rw [h2 q (by omega)]
    exact (g6 q hq hb).mv (ht q hq 7 (by omega)) (ht q hq 2 (by omega)) (by rw [show U.1 (TA (T.2 q)) = T.1 (TA (T.2 q)) from ht q hq 0 (by omega)])
theorem RC.lo (h : RC nF cF mF ab T) (h19 : U.1 128 19 = T.1 128 19) (h20 : U.1 128 20 = T.1 128 20) (h29 : U.1 128 29 = T.1 128 29) (h129 : U.1 129 = T.1 129) (h132 : U.1 132 = T.1 132) (h133 : U.1 133 = T.1 133) (h134 : U.1 134 = T.1 134) (h141 : U.1 141 = T.1 141) : RC nF cF mF ab U := by
  unfold RC RY at *
  rw [h19, h20, h29, h129, h132, h133, h134, h141]
  exact h
def BI (nF : Nat → Nat) (cF : Nat → Nat → Nat) (ab : Nat → Nat → Bool) (S : St) : Prop := (IK S ∧ ∀ k f, k < 6 → f < 6 → (ab k f = true ↔ isK (S.1 14) k f)) ∧ (∀ r, r < 8 → S.1 17 r = S.1 130 r ∧ ∃ w, w < 64 ∧ S.1 17 r = nI w) ∧ (∃ sz, Tp sz S) ∧ (S.1 0 9 = S.1 128 5 ∧ S.1 0 10 = S.1 128 6) ∧ (∀ q, q < 8 → TkF (S.2 q) (nF q) (cF q) S) ∧ ∀ q, q < 8 → ∀ i, i < nF q → S.1 132 (60 * q + i) = nI (cF q i)
def Inv (S : St) : Prop := ∃ (nF : Nat → Nat) (cF : Nat → Nat → Nat) (ab : Nat → Nat → Bool), BI nF cF ab S ∧ CtX nF cF (fun q => mtp (cF q)) ab S
theorem CtX.W (h : CtX nF cF mF ab S) : ∀ r, r < 8 → WF (cF r) (mF r) (nF r) ∧ ∀ i, cF r i < 256 := fun r hr => by
  obtain ⟨B, bn, fs, kp, ag, h1, _⟩ := h.1.1.1 r hr
  exact h1.1
theorem Inv.ask (hB : BI nF cF ab S) (h : Ask nF cF (fun q => mtp (cF q)) ab S U) : Inv U := by
  obtain ⟨T, f1, k1, f2, k2⟩ := h
  have c1 : ∀ c, c < 128 → U.1 c = T.1 c := fun c hc => f2.2.1 c (fun z => by unfold rnA mkA at z; simp at z; omega) (by omega)
  have d1 : ∀ c, c ∈ [129, 130, 131, 132, 133, 134] → U.1 c = S.1 c := fun c hc => by
    simp only [List.mem_cons, List.not_mem_nil, or_false] at hc
    rw [f2.2.1 c (fun z => by unfold rnA mkA at z; simp at z; omega) (by omega), f1.2.1 c (by omega)]
  have e1 : ∀ c, c ∈ [1, 2, 14, 15, 17] → U.1 c = S.1 c := fun c hc => by
    have h' := f1.2.2.1 c hc
    simp only [List.mem_cons, List.not_mem_nil, or_false] at hc
    rw [c1 c (by omega)]; exact h'
  have j1 : ∀ j, j ∉ [23, 28, 29] → U.1 128 j = S.1 128 j := fun j hj => by rw [f2.2.2 j hj, f1.2.1 128 (by omega)]
  have k0 : ∀ j, j ≠ 11 → j ≠ 12 → U.1 0 j = S.1 0 j := fun j a b => by rw [c1 0 (by omega)]; exact f1.2.2.2.1 j a b
  refine ⟨nF, cF, ab, ?_, ?_, k2⟩
  · obtain ⟨⟨b1, b2⟩, b3, ⟨sz, b4⟩, b5, b6, b7⟩ := hB
    refine ⟨⟨?_, ?_⟩, ?_, ⟨sz, ?_⟩, ?_, fun q hq => ?_, ?_⟩
    · unfold IK at *
      rw [e1 14 (by simp), e1 15 (by simp), d1 129 (by simp)]; exact b1
    · rw [e1 14 (by simp)]; exact b2
    · rw [e1 17 (by simp), d1 130 (by simp)]; exact b3
    · unfold Tp at *
      rw [e1 1 (by simp), e1 2 (by simp), d1 131 (by simp), j1 4 (by decide)]; exact b4
    · rw [k0 9 (by omega) (by omega), k0 10 (by omega) (by omega), j1 5 (by decide), j1 6 (by decide)]; exact b5
    · have := (b6 q hq).cf hq f1
      unfold TkF at *
      rw [show U.2 = T.2 from f2.1, show U.1 (TA (T.2 q)) = T.1 (TA (T.2 q)) from c1 _ (TA_lt _ 0 (by omega)), c1 _ (TA_lt _ 8 (by omega))]
      exact this
    · rw [d1 132 (by simp)]; exact b7
  · exact k1.lo (fun j _ => by rw [f2.1]) (fun q _ o ho => c1 _ (TA_lt _ o ho)) (c1 15 (by omega)) (c1 19 (by omega)) (by rw [c1 0 (by omega)]) (by rw [c1 0 (by omega)])
/-- a call by exits alone, on both sides -/
theorem ask2 {f g : St → Option (Int32 × St)} {V : Int32 → Prop} (hu : ∀ v w, V v → V w → v = w) (h : CtX nF cF mF ab S) (hc : WP (f S) (fun z => CP S z.2 ∧ CC nF cF mF ab z.2 ∧ V z.1)) (hr : ∀ T, RC nF cF mF ab T → CF S T → WP (g T) (fun z => RP T z.2 ∧ RC nF cF mF ab z.2 ∧ V z.1)) : ∃ v S1 S2, f S = some (v, S1) ∧ g S1 = some (v, S2) ∧ Ask nF cF mF ab S S2 := by
  obtain ⟨z, e1, p1, c1, v1⟩ := hc
  have f1 := p1.cf
  obtain ⟨y, e2, p2, c2, v2⟩ := hr z.2 (h.2.cf f1) f1
  exact ⟨z.1, z.2, y.2, e1, by rw [e2, hu _ _ v1 v2], z.2, f1, h.1.cp p1 c1, p2, c2⟩
theorem st_steps (hN : 900000 < N) (h : CtX nF cF mF ab S) (a b c d : Int32) : ∃ v S1 S2, fX7_steps N a b c d S = some (v, S1) ∧ fX8_steps N a b c d S1 = some (v, S2) ∧ Ask nF cF mF ab S S2 :=
  ask2 (V := vSt nF cF mF ab a b c d) (fun _ _ => vSt_uniq) h (c_steps (by omega) h.1.1 a b c d) (fun T hT _ => r_steps hN h.W hT a b c d)
theorem st_leaves (hN : 900000 < N) (h : CtX nF cF mF ab S) (a b : Int32) : ∃ v S1 S2, fX7_leaves N a b S = some (v, S1) ∧ fX8_leaves N a b S1 = some (v, S2) ∧ Ask nF cF mF ab S S2 :=
  ask2 (V := vF 8 4 (fLe nF cF mF ab) a b) (fun _ _ => vF_uniq (by omega) (by omega)) h (c_leaves (by omega) h.1.1 a b) (fun T hT _ => r_leaves hN h.W hT a b)
theorem st_ends (hN : 900000 < N) (h : CtX nF cF mF ab S) (a b : Int32) : ∃ v S1 S2, fX7_ends N a b S = some (v, S1) ∧ fX8_ends N a b S1 = some (v, S2) ∧ Ask nF cF mF ab S S2 :=
  ask2 (V := vF 8 4 (fEn nF cF mF ab) a b) (fun _ _ => vF_uniq (by omega) (by omega)) h (c_ends (by omega) h.1.1 a b) (fun T hT _ => r_ends hN h.W hT a b)
theorem st_due (hN : 900000 < N) (h : CtX nF cF mF ab S) (a b : Int32) : ∃ v S1 S2, fX7_due N a b S = some (v, S1) ∧ fX8_due N a b S1 = some (v, S2) ∧ Ask nF cF mF ab S S2 := by
  rcases nI_cases a 8 (by decide) with ⟨r, hr, rfl⟩ | ha
  · by_cases q : 0 ≤ b
    · exact ask2 (V := vDu (duP nF cF mF ab r) b) (fun _ _ => vDu_uniq) h (c_due (by omega) h.1.1 hr b q) (fun T hT _ => r_due hN h.W hT hr b q)
    · refine ⟨-1, S, S, ?_, ?_, Ask.refl h⟩
      · unfold fX7_due
        rw [s_isRoutine1 N S hr]
        simp only [Option.bind_some, if_neg z10]
        rw [if_neg q]
      · unfold fX8_due
        rw [s_r81 N S hr]
        simp only [Option.bind_some, if_neg z10]
        first
          | rw [if_neg q]
          | rw [if_pos (Int32.not_le.mp q)]
  · refine ⟨-1, S, S, ?_, ?_, Ask.refl h⟩
    · unfold fX7_due
      rw [s_isRoutine0 N S ha]
      simp only [Option.bind_some, if_pos]
    · unfold fX8_due
      rw [s_r80 N S ha]
      simp only [Option.bind_some, if_pos]
theorem bits_u {v w : Int32} {P : Nat → Prop} (h : ∀ i, i < 32 → (bt v i = true ↔ P i)) (k : ∀ i, i < 32 → (bt w i = true ↔ P i)) : v = w := b_ext (fun i hi => by
  have := (h i hi).trans (k i hi).symm
  cases hv : bt v i with
  | true => rw [hv] at this; exact (this.mp rfl).symm
  | false =>
    rw [hv] at this
    cases hw : bt w i with
    | true => rw [hw] at this; exact absurd (this.mpr rfl) (by simp)
    | false => rfl)
theorem b_w6 {w : Nat} (hw : w < 64) : ∀ i, 6 ≤ i → i < 32 → bt (nI w) i = false := by
  have : ∀ w, w < 64 → ∀ i, i < 32 → 6 ≤ i → bt (nI w) i = false := by decide +kernel
  exact fun i h1 h2 => this w hw i h2 h1
theorem IK.ab6 (h : IK S) : Ab6 S := fun k i hk h6 hi => by
  rw [h.2.2.2 k hk]
  refine Bool.eq_false_iff.mpr (fun z => ?_)
  have := ((abv_bt hi 6).mp z).1
  omega
theorem st_broken (hN : 900000 < N) (hB : BI nF cF ab S) (h : CtX nF cF mF ab S) (a : Int32) : ∃ v S1 S2, fX7_broken N a S = some (v, S1) ∧ fX8_broken N a S1 = some (v, S2) ∧ Ask nF cF mF ab S S2 := by
  rcases nI_cases a 8 (by decide) with ⟨r, hr, rfl⟩ | ha
  · exact ask2 (V := vBr nF cF mF ab r (S.1 17 r)) (fun _ _ => bits_u) h (c_broken (by omega) h.1.1 hB.1.1.ab6 hr rfl) (fun T hT f => r_broken hN h.W hT hr (by rw [f.2.1 130 (by omega)]; exact (hB.2.1 r hr).1.symm))
  · refine ⟨-1, S, S, ?_, ?_, Ask.refl h⟩
    · unfold fX7_broken
      rw [s_isRoutine0 N S ha]
      simp only [Option.bind_some, if_pos]
    · unfold fX8_broken
      rw [s_r80 N S ha]
      simp only [Option.bind_some, if_pos]
theorem st_idle (hN : 900000 < N) (hB : BI nF cF ab S) (h : CtX nF cF mF ab S) (a : Int32) : ∃ v S1 S2, fX7_idle N a S = some (v, S1) ∧ fX8_idle N a S1 = some (v, S2) ∧ Ask nF cF mF ab S S2 := by
  rcases nI_cases a 8 (by decide) with ⟨r, hr, rfl⟩ | ha
  · obtain ⟨e1, w, hw, e2⟩ := hB.2.1 r hr
    have h6 : ∀ i, 6 ≤ i → i < 32 → bt (S.1 17 r) i = false := by rw [e2]; exact b_w6 hw
    exact ask2 (V := vId nF cF mF ab r (S.1 17 r)) (fun _ _ => bits_u) h (c_idle (by omega) h.1.1 h6 hr rfl) (fun T hT f => r_idle hN h.W hT h6 hr (by rw [f.2.1 130 (by omega)]; exact e1.symm))
  · refine ⟨-1, S, S, ?_, ?_, Ask.refl h⟩
    · unfold fX7_idle
      rw [s_isRoutine0 N S ha]
      simp only [Option.bind_some, if_pos]
    · unfold fX8_idle
      rw [s_r80 N S ha]
      simp only [Option.bind_some, if_pos]
end LO
