/-! ===== answers by exits: leaves, ends ===== -/
section A2
variable {N : Nat} {nF : Nat → Nat} {cF mF : Nat → Nat → Nat} {ab : Nat → Nat → Bool} {S : St}
theorem RP.trans {S T U : St} (h : RP S T) (k : RP T U) : RP S U := FrJ.trans h k
theorem vSt_v {r s e t : Nat} (hr : r < 8) (hs : s < 4) (he : e < 7) (ht : t < 4) {v : Int32} (h : vSt nF cF mF ab (nI r) (nI s) (nI e) (nI t) v) : v = stv (xs nF cF mF ab r s e t) :=
  vSt_uniq h (Or.inl ⟨r, s, e, t, hr, hs, he, ht, rfl, rfl, rfl, rfl, rfl⟩)
theorem stv_m1 {v : Nat} : stv v = -1 ↔ ¬ v < 1000 := by
  unfold stv
  by_cases h : v < 1000
  · rw [if_pos h]
    constructor
    · intro z; exact absurd z (by rw [nI_m1 (by omega)]; exact id)
    · intro z; exact absurd h z
  · rw [if_neg h]; exact ⟨fun _ => h, fun _ => rfl⟩
/-- an answer by two arguments within bounds, -1 beyond -/
def vF (n1 n2 : Nat) (F : Nat → Nat → Int32) (a b v : Int32) : Prop := (∃ r s, r < n1 ∧ s < n2 ∧ a = nI r ∧ b = nI s ∧ v = F r s) ∨ (((a < 0 ∨ nI n1 ≤ a) ∨ (b < 0 ∨ nI n2 ≤ b)) ∧ v = -1)
theorem vF_uniq {n1 n2 : Nat} (h1 : n1 < 2147483648) (h2 : n2 < 2147483648) {F : Nat → Nat → Int32} {a b v w : Int32} (h : vF n1 n2 F a b v) (k : vF n1 n2 F a b w) : v = w := by
  rcases h with ⟨r, s, r1, s1, rfl, rfl, h5⟩ | ⟨h3, h4⟩
  · rcases k with ⟨r', s', r2, s2, e1, e2, k5⟩ | ⟨k3, k4⟩
    · have := (nI_eq (by omega) (by omega)).mp e1
      have := (nI_eq (by omega) (by omega)).mp e2
      subst_vars
      rfl
    · rcases k3 with k3 | k3
      · exact absurd k3 (nI_out r1 h1)
      · exact absurd k3 (nI_out s1 h2)
  · rcases k with ⟨r', s', r2, s2, rfl, rfl, k5⟩ | ⟨k3, k4⟩
    · rcases h3 with h3 | h3
      · exact absurd h3 (nI_out r2 h1)
      · exact absurd h3 (nI_out s2 h2)
    · rw [h4, k4]
theorem r_can (hN : 900000 < N) (hW : ∀ r, r < 8 → WF (cF r) (mF r) (nF r) ∧ ∀ i, cF r i < 256) (h : RC nF cF mF ab S) {r s e : Nat} (hr : r < 8) (hs : s < 4) (he : e < 7) : WP (fX8_canLeave N (nI r) (nI s) (nI e) S) (fun z => RP S z.2 ∧ RC nF cF mF ab z.2 ∧ z.1 = bP (lv nF cF mF ab r s e)) := by
  unfold fX8_canLeave
  refine WP.bnd (P := fun z => RP S z.2 ∧ RC nF cF mF ab z.2 ∧ z.1 = bP (lv nF cF mF ab r s e)) ?_ (fun y hy => WP.ret hy)
  unfold fX8_canLeave_6
  refine WP.fr2 4 N (fun t a T => RP S T ∧ RC nF cF mF ab T ∧ a = bP (∃ u, u < t ∧ xs nF cF mF ab r s e u < 1000)) (by omega) ?_ ?_ 0 (by omega) ⟨FrJ.refl _ _ _, h, (bP_0 (fun ⟨u, hu, _⟩ => absurd hu (by omega))).symm⟩
  · rintro t a T ht ⟨t1, t2, t3⟩
    unfold bfX8_canLeave_6 fX8_canLeave_30 fX8_canLeave_35
    refine WP.no (nI_ge (a := t) (b := 4) ht (by omega)) ?_
    try dsimp only
    rw [t3]
    by_cases q : ∃ u, u < t ∧ xs nF cF mF ab r s e u < 1000
    · refine WP.no (fun z => bP_eq0.mp z q) (WP.ret ⟨1, T, by rw [nI_1], t1, t2, ?_⟩)
      obtain ⟨u, u1, u2⟩ := q
      exact (bP_1 ⟨u, by omega, u2⟩).symm
    · refine WP.yes (bP_0 q) ?_
      refine WP.bnd (r_steps hN hW t2 (nI r) (nI s) (nI e) (nI t)) (fun y g => ?_)
      have hv := vSt_v hr hs he ht g.2.2
      by_cases w : xs nF cF mF ab r s e t < 1000
      · refine WP.no (fun z => stv_m1.mp (hv.symm.trans z) w) (WP.ret ⟨1, y.2, by rw [nI_1], t1.trans g.1, g.2.1, (bP_1 ⟨t, by omega, w⟩).symm⟩)
      · refine WP.yes (hv.trans (stv_m1.mpr w)) (WP.ret ⟨0, y.2, by rw [nI_1], t1.trans g.1, g.2.1, (bP_0 ?_).symm⟩)
        rintro ⟨u, u1, u2⟩
        by_cases v : u = t
        · rw [v] at u2; exact w u2
        · exact q ⟨u, by omega, u2⟩
  · rintro a T ⟨t1, t2, t3⟩
    unfold bfX8_canLeave_6
    refine WP.yes (show (4 : Int32) ≤ nI 4 by decide) (WP.yes (by show a = 0 ∨ a = 1; rw [t3]; exact bP_01 _) (WP.ret ⟨_, rfl, t1, t2, t3⟩))
theorem r_leaving (hN : 900000 < N) (hW : ∀ r, r < 8 → WF (cF r) (mF r) (nF r) ∧ ∀ i, cF r i < 256) (h : RC nF cF mF ab S) {r s : Nat} (hr : r < 8) (hs : s < 4) : WP (fX8_leaves N (nI r) (nI s) S) (fun z => RP S z.2 ∧ RC nF cF mF ab z.2 ∧ z.1 = bset (fun k => lv nF cF mF ab r s (k + 1)) 6) := by
  unfold fX8_leaves
  refine WP.beq (s_r81 N S hr) (WP.no z10 (WP.beq (s_s81 N S hs) (WP.no z10 ?_)))
  refine WP.bnd (P := fun z => RP S z.2 ∧ RC nF cF mF ab z.2 ∧ z.1 = bset (fun k => lv nF cF mF ab r s (k + 1)) 6) ?_ (fun y hy => WP.ret hy)
  unfold fX8_leaves_21
  refine WP.fr2 6 N (fun k a T => RP S T ∧ RC nF cF mF ab T ∧ a = bset (fun k => lv nF cF mF ab r s (k + 1)) k) (by omega) ?_ ?_ 0 (by omega) ⟨FrJ.refl _ _ _, h, rfl⟩
  · rintro k a T hk ⟨t1, t2, t3⟩
    unfold bfX8_leaves_21 fX8_leaves_48
    refine WP.no (nI_ge (a := k) (b := 6) hk (by omega)) ?_
    rw [nI_1]
    refine WP.bnd (r_can hN hW t2 hr hs (show k + 1 < 7 by omega)) (fun y g => ?_)
    rw [g.2.2]
    by_cases q : lv nF cF mF ab r s (k + 1)
    · refine WP.no (fun z => bP_eq0.mp z q) (WP.ret ⟨_, y.2, rfl, t1.trans g.1, g.2.1, ?_⟩)
      rw [t3]
      exact (if_pos q).symm
    · refine WP.yes (bP_0 q) (WP.ret ⟨_, y.2, rfl, t1.trans g.1, g.2.1, ?_⟩)
      rw [t3]
      exact (if_neg q).symm
  · rintro a T ⟨t1, t2, t3⟩
    unfold bfX8_leaves_21
    exact WP.yes (show (6 : Int32) ≤ nI 6 by decide) (WP.ret ⟨_, rfl, t1, t2, t3⟩)
noncomputable def fLe (nF : Nat → Nat) (cF mF : Nat → Nat → Nat) (ab : Nat → Nat → Bool) (r s : Nat) : Int32 := bset (fun k => lv nF cF mF ab r s (k + 1)) 6
noncomputable def fEn (nF : Nat → Nat) (cF mF : Nat → Nat → Nat) (ab : Nat → Nat → Bool) (r s : Nat) : Int32 := bP (lv nF cF mF ab r s 0)
theorem r_leaves (hN : 900000 < N) (hW : ∀ r, r < 8 → WF (cF r) (mF r) (nF r) ∧ ∀ i, cF r i < 256) (h : RC nF cF mF ab S) (a b : Int32) : WP (fX8_leaves N a b S) (fun z => RP S z.2 ∧ RC nF cF mF ab z.2 ∧ vF 8 4 (fLe nF cF mF ab) a b z.1) := by
  have hrf : RP S S := FrJ.refl _ _ _
  rcases nI_cases a 8 (by decide) with ⟨r, hr, rfl⟩ | ha
  · rcases nI_cases b 4 (by decide) with ⟨s, hs, rfl⟩ | hb
    · exact (r_leaving hN hW h hr hs).imp (fun z g => ⟨g.1, g.2.1, Or.inl ⟨r, s, hr, hs, rfl, rfl, g.2.2⟩⟩)
    · unfold fX8_leaves
      exact WP.beq (s_r81 N S hr) (WP.no z10 (WP.beq (s_s80 N S hb) (WP.yes rfl (WP.ret ⟨hrf, h, Or.inr ⟨Or.inr hb, rfl⟩⟩))))
  · unfold fX8_leaves
    exact WP.beq (s_r80 N S ha) (WP.yes rfl (WP.ret ⟨hrf, h, Or.inr ⟨Or.inl ha, rfl⟩⟩))
theorem c_leaves (hN : 2000 < N) (h : CC nF cF mF ab S) (a b : Int32) : WP (fX7_leaves N a b S) (fun z => CP S z.2 ∧ CC nF cF mF ab z.2 ∧ vF 8 4 (fLe nF cF mF ab) a b z.1) := by
  unfold fX7_leaves
  rcases nI_cases a 8 (by decide) with ⟨r, hr, rfl⟩ | ha
  · refine WP.beq (s_isRoutine1 N S hr) (WP.no z10 ?_)
    rcases nI_cases b 4 (by decide) with ⟨s, hs, rfl⟩ | hb
    · refine WP.beq (s_isSet1 N S hs) (WP.no z10 ?_)
      refine WP.bnd (s_meas hN h hr) (fun S1 g => ?_)
      exact WP.beq (s_leaving (by omega) hr hs (fun e t he ht => g.2.2 s e t hs he ht)) (WP.ret ⟨g.1, g.2.1, Or.inl ⟨r, s, hr, hs, rfl, rfl, rfl⟩⟩)
    · exact WP.beq (s_isSet0 N S hb) (WP.yes rfl (WP.ret ⟨CP.refl S, h, Or.inr ⟨Or.inr hb, rfl⟩⟩))
  · exact WP.beq (s_isRoutine0 N S ha) (WP.yes rfl (WP.ret ⟨CP.refl S, h, Or.inr ⟨Or.inl ha, rfl⟩⟩))
theorem r_ends (hN : 900000 < N) (hW : ∀ r, r < 8 → WF (cF r) (mF r) (nF r) ∧ ∀ i, cF r i < 256) (h : RC nF cF mF ab S) (a b : Int32) : WP (fX8_ends N a b S) (fun z => RP S z.2 ∧ RC nF cF mF ab z.2 ∧ vF 8 4 (fEn nF cF mF ab) a b z.1) := by
  have hrf : RP S S := FrJ.refl _ _ _
  unfold fX8_ends fX8_ends_31
  rcases nI_cases a 8 (by decide) with ⟨r, hr, rfl⟩ | ha
  · refine WP.beq (s_r81 N S hr) (WP.no z10 ?_)
    rcases nI_cases b 4 (by decide) with ⟨s, hs, rfl⟩ | hb
    · refine WP.beq (s_s81 N S hs) (WP.no z10 ?_)
      refine WP.bnd (r_can hN hW h hr hs (e := 0) (by omega)) (fun y g => ?_)
      rw [g.2.2]
      by_cases q : lv nF cF mF ab r s 0
      · exact WP.no (fun z => bP_eq0.mp z q) (WP.ret ⟨g.1, g.2.1, Or.inl ⟨r, s, hr, hs, rfl, rfl, (bP_1 q).symm⟩⟩)
      · exact WP.yes (bP_0 q) (WP.ret ⟨g.1, g.2.1, Or.inl ⟨r, s, hr, hs, rfl, rfl, (bP_0 q).symm⟩⟩)
    · exact WP.beq (s_s80 N S hb) (WP.yes rfl (WP.ret ⟨hrf, h, Or.inr ⟨Or.inr hb, rfl⟩⟩))
  · exact WP.beq (s_r80 N S ha) (WP.yes rfl (WP.ret ⟨hrf, h, Or.inr ⟨Or.inl ha, rfl⟩⟩))
theorem s_bit (P : Prop) (S : St) : fX7_bit N (bP P) S = some (bP P, S) := by
  unfold fX7_bit fX7_bit_9
  by_cases q : P
  · rw [if_neg (fun z => bP_eq0.mp z q), bP_1 q]
  · rw [if_pos (bP_0 q), bP_0 q]
theorem c_ends (hN : 2000 < N) (h : CC nF cF mF ab S) (a b : Int32) : WP (fX7_ends N a b S) (fun z => CP S z.2 ∧ CC nF cF mF ab z.2 ∧ vF 8 4 (fEn nF cF mF ab) a b z.1) := by
  unfold fX7_ends
  rcases nI_cases a 8 (by decide) with ⟨r, hr, rfl⟩ | ha
  · refine WP.beq (s_isRoutine1 N S hr) (WP.no z10 ?_)
    rcases nI_cases b 4 (by decide) with ⟨s, hs, rfl⟩ | hb
    · refine WP.beq (s_isSet1 N S hs) (WP.no z10 ?_)
      refine WP.bnd (s_meas hN h hr) (fun S1 g => ?_)
      refine WP.beq (s_can (by omega) hr hs (e := 0) (by omega) (fun t ht => g.2.2 s 0 t hs (by omega) ht)) ?_
      exact WP.beq (s_bit _ S1) (WP.ret ⟨g.1, g.2.1, Or.inl ⟨r, s, hr, hs, rfl, rfl, rfl⟩⟩)
    · exact WP.beq (s_isSet0 N S hb) (WP.yes rfl (WP.ret ⟨CP.refl S, h, Or.inr ⟨Or.inr hb, rfl⟩⟩))
  · exact WP.beq (s_isRoutine0 N S ha) (WP.yes rfl (WP.ret ⟨CP.refl S, h, Or.inr ⟨Or.inl ha, rfl⟩⟩))
end A2
