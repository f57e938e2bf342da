/-! ===== the invariant at the start, and from call to call ===== -/
theorem WF0 : WF (fun _ => 0) (mtp (fun _ => 0)) 0 := ⟨by omega, fun _ _ => rfl, ⟨0, rfl⟩, fun q hq => absurd hq (by show ¬ (0 : Nat) = 123; omega)⟩
theorem M0_ok : (∀ q, q < 9 → M0 q < 12) ∧ ∀ q, q < 9 → ∀ p, p < 9 → M0 q = M0 p → q = p := by decide +kernel
theorem p_no {p : Nat → Int32} (h : ∀ k, k < 6 → p k = -1) : p_ok p ∧ p_ac p := by
  refine ⟨fun k hk => Or.inl (h k hk), fun k hk => ?_⟩
  have h6 : ∀ x, pn p x = 6 := fun x => by
    unfold pn
    by_cases w : x < 6
    · rw [if_pos w, h x w, if_pos (by decide)]
    · rw [if_neg w]
  exact h6 _
theorem inv0 : Inv S0 := by
  obtain ⟨a1, a2, a3, a4, a5, a6, a7, a8, a9, a10, a11⟩ := S0_a
  have hik : IK S0 := by
    obtain ⟨h1, h2⟩ := p_no (p := S0.1 14) (fun k hk => (S0_c k hk).1)
    exact ⟨h1, h2, fun k hk => by rw [(S0_c k hk).1, (S0_c k hk).2.1], fun k hk => (S0_c k hk).2.2⟩
  have hab : ∀ k f, k < 6 → f < 6 → ((fun k f => @decide (isK (S0.1 14) k f) (Classical.propDecidable _)) k f = true ↔ isK (S0.1 14) k f) := fun k f _ _ => @decide_eq_true_iff _ (Classical.propDecidable _)
  have hno : ∀ {i k : Nat}, 0 < k → ¬ ((fun _ => 0 : Nat → Nat) i = k) := fun hk z => by
    have : 0 = _ := z
    omega
  refine ⟨fun _ => 0, fun _ _ => 0, fun k f => @decide (isK (S0.1 14) k f) (Classical.propDecidable _), ⟨⟨hik, hab⟩, fun r hr => ⟨by rw [(S0_b r hr).1, (S0_b r hr).2.1], 0, by omega, (S0_b r hr).1⟩, ⟨0, by omega, a1, a2, fun i hi => absurd hi (by omega)⟩, ⟨by rw [a3, a4], by rw [a5, a6]⟩, fun q hq => ⟨(S0_b q hq).2.2.2.2.2.1, fun x hx => absurd hx (Nat.not_lt_zero x), Nat.le_refl 0⟩, fun q hq i hi => absurd hi (Nat.not_lt_zero i)⟩, ⟨⟨fun q hq => ?_, fun k j hk hj => ?_, ⟨fun _ => 0, fun _ => Nat.zero_le 1000, fun x hx => ?_⟩, fun q hq hb => ?_⟩, ⟨M0_ok.1, fun q p hq hp => M0_ok.2 q hq p hp⟩, fun q hq hb => ?_⟩, ⟨fun q hq => ?_, ⟨a9, a10⟩, Or.inl a11⟩⟩
  · obtain ⟨_, _, _, b1, b2, b3, b4, b5, b6, b7, b8⟩ := S0_b q hq
    refine ⟨1, fun _ => 0, fun _ => 0, fun _ => 6, fun _ => False, ⟨⟨WF0, fun _ => by show (0 : Nat) < 256; omega⟩, ⟨by omega, by omega, rfl, rfl⟩, fun b hb => Or.inl rfl, fun b b' h1 h2 => absurd h1 (by omega), fun x hx => absurd hx (hno (i := x) (by omega)), fun b hb => ⟨Nat.le_refl 6, fun z => z.elim⟩, fun b k hb hk => ?_⟩, ⟨b1, fun i hi => absurd hi (by show ¬ i < 0; omega), b2, fun b hb => ?_, fun b hb => ?_, fun x hx => absurd hx (hno (i := x) (by omega)), fun b hb => ?_, fun b hb => ?_⟩, fun p hp => ?_⟩
    · have := hk 0 (by omega)
      have e : enp 0 (mtp fun _ => 0) 0 = 0 := rfl
      exact absurd (show itn (fun _ => 0) (mtp fun _ => 0) 0 0 < enp 0 (mtp fun _ => 0) 0 from this) (by rw [e]; omega)
    · obtain rfl : b = 0 := by omega
      exact b5
    · obtain rfl : b = 0 := by omega
      exact b6
    · obtain rfl : b = 0 := by omega
      exact b7
    · obtain rfl : b = 0 := by omega
      show S0.1 (TA (M0 q) + 6) 0 = bP False
      rw [bP_0 id]; exact b8
    · have e11 : S0.1 (TA (S0.2 q)) 11 = 0 := b4
      rw [e11, b_0]
      constructor
      · intro z; cases z
      · rintro ⟨_, i, z, _⟩; exact absurd z (hno (i := i) (by omega))
  · rw [hik.bt hk hj]; exact (hab k j hk hj).symm
  · have := List.all_eq_true.mp S0_d x (List.mem_range.mpr hx)
    rw [of_decide_eq_true this]
    rfl
  · rw [a7, b_0] at hb; cases hb
  · rw [a8, b_0] at hb; cases hb
  · refine ⟨(S0_b q hq).2.2.1, fun i hi => absurd hi (by show ¬ i < 0; omega), fun x hx => absurd hx (hno (i := x) (by omega)), hik.ok2, hik.ac2, fun k f hk hf => (hab k f hk hf).trans hik.isK2.symm⟩
theorem lstep : LStep Inv := by
  have hN : 900000 < N0 := by decide
  intro S h
  have hI := h
  obtain ⟨nF, cF, ab, hB, hX⟩ := h
  have ak : ∀ {P : Int32 → St → St → Prop}, (∃ v S1 S2, P v S1 S2 ∧ Ask nF cF (fun q => mtp (cF q)) ab S S2) → ∃ v S1 S2, P v S1 S2 ∧ Inv S2 := fun ⟨v, S1, S2, h1, h2⟩ => ⟨v, S1, S2, h1, Inv.ask hB h2⟩
  have hT := hB.2.2.2.2.1
  refine ⟨fun a1 a2 a3 a4 a5 => i_feed hN hI a1 a2 a3 a4 a5, fun a1 a2 => st_text hN hB hX a1 a2, fun a1 a2 => i_under hN hI a1 a2, fun a1 a2 => i_promise hI a1 a2, fun a1 a2 a3 a4 => ?_, fun a1 a2 => ?_, fun a1 a2 => ?_, fun a1 a2 => ?_, fun a1 => ?_, fun a1 a2 a3 => ?_, fun a1 => ?_, fun a1 => ?_, fun a1 => ?_, fun a1 a2 => i_look hN hI a1 a2, fun a1 a2 => i_is hN hI a1 a2, fun a1 => i_fault hI a1⟩
  · obtain ⟨v, S1, S2, e1, e2, h2⟩ := st_steps hN hX a1 a2 a3 a4
    exact ⟨v, S1, S2, e1, e2, Inv.ask hB h2⟩
  · obtain ⟨v, S1, S2, e1, e2, h2⟩ := st_leaves hN hX a1 a2
    exact ⟨v, S1, S2, e1, e2, Inv.ask hB h2⟩
  · obtain ⟨v, S1, S2, e1, e2, h2⟩ := st_ends hN hX a1 a2
    exact ⟨v, S1, S2, e1, e2, Inv.ask hB h2⟩
  · obtain ⟨v, S1, S2, e1, e2, h2⟩ := st_due hN hX a1 a2
    exact ⟨v, S1, S2, e1, e2, Inv.ask hB h2⟩
  · obtain ⟨v, S1, S2, e1, e2, h2⟩ := st_takers hN (fun _ _ => rfl) hX.W hX hT a1
    exact ⟨v, S1, S2, e1, e2, Inv.ask hB h2⟩
  · obtain ⟨v, S1, S2, e1, e2, h2⟩ := st_taker hN (fun _ _ => rfl) hX.W hX hT a1 a2 a3
    exact ⟨v, S1, S2, e1, e2, Inv.ask hB h2⟩
  · obtain ⟨v, S1, S2, e1, e2, h2⟩ := st_lost hN hX.W hX a1
    exact ⟨v, S1, S2, e1, e2, Inv.ask hB h2⟩
  · obtain ⟨v, S1, S2, e1, e2, h2⟩ := st_broken hN hB hX a1
    exact ⟨v, S1, S2, e1, e2, Inv.ask hB h2⟩
  · obtain ⟨v, S1, S2, e1, e2, h2⟩ := st_idle hN hB hX a1
    exact ⟨v, S1, S2, e1, e2, Inv.ask hB h2⟩
theorem m_inv : ∃ Inv : St → Prop, Inv S0 ∧ LStep Inv := ⟨Inv, inv0, lstep⟩
