/-! ===== the first program: exits are told, and cleared ===== -/
theorem eC_inj {a b : Nat} (ha : a ≤ 1000) (hb : b ≤ 1000) : eC a = eC b ↔ a = b := by
  have h1 := eCn_b a
  have h2 := eCn_b b
  rw [eC_n, eC_n, nI_eq (by omega) (by omega)]
  omega
theorem bP_or (P Q : Prop) : bP P ||| bP Q = bP (P ∨ Q) := by
  by_cases p : P
  · by_cases q : Q
    · rw [bP_1 p, bP_1 q, bP_1 (Or.inl p)]; decide
    · rw [bP_1 p, bP_0 q, bP_1 (Or.inl p)]; decide
  · by_cases q : Q
    · rw [bP_0 p, bP_1 q, bP_1 (Or.inr q)]; decide
    · rw [bP_0 p, bP_0 q, bP_0 (fun z => z.elim p q)]; decide
section C8
variable {N : Nat} {S : St}
theorem s_put {r s e t v old : Nat} (hr : r < 8) (hs : s < 4) (he : e < 7) (ht : t < 4) (hv : v ≤ 1000) (ho : old ≤ 1000) (h : S.1 19 ((r * 4 + s) * 28 + (e * 4 + t)) = eC old) : ∃ S', fX0_put N (nI r) (nI s) (nI e) (nI t) (eC v) S = some (bP (v ≠ old), S') ∧ Fr [19] S S' ∧ S'.1 19 ((r * 4 + s) * 28 + (e * 4 + t)) = eC v ∧ ∀ y, y ≠ (r * 4 + s) * 28 + (e * 4 + t) → S'.1 19 y = S.1 19 y := by
  unfold fX0_put
  rw [s_ecell N S hr hs he ht]
  simp only [Option.bind_some]
  generalize hx : (r * 4 + s) * 28 + (e * 4 + t) = x at *
  have hx8 : x < 896 := by omega
  rw [if_neg (nI_pos (by omega)), if_neg (show ¬ (896 : Int32) ≤ nI x from nI_ge (b := 896) hx8 (by omega)), if_neg (nI_in hx8 (by omega)), nI_cl (by omega), h]
  by_cases q : v = old
  · rw [if_pos (by rw [q])]
    exact ⟨S, by rw [bP_0 (fun z => z q)], Fr.refl _ _, by rw [h, q], fun _ _ => rfl⟩
  · rw [if_neg (fun z => q ((eC_inj ho hv).mp z).symm), if_neg (by rintro (z | z); exact nI_pos (by omega) z; omega)]
    exact ⟨_, by rw [bP_1 q], (Fr.refl _ _).i (by decide), si_at _ _ _ _, fun y hy => si_ni _ _ hy⟩
theorem s_clear (hN : 60 < N) {r : Nat} (hr : r < 8) {X : Nat → Nat} (hX : ∀ x, X x ≤ 1000) (hE : ∀ x, x < 896 → S.1 19 x = eC (X x)) : WP (fX0_clear N (nI r) S) (fun S' => Fr [19] S S' ∧ ∀ x, x < 896 → S'.1 19 x = eC (if r * 112 ≤ x ∧ x < r * 112 + 112 then 1000 else X x)) := by
  unfold fX0_clear
  let J : Nat → St → Prop := fun k T => Fr [19] S T ∧ ∀ x, x < 896 → T.1 19 x = eC (if r * 112 ≤ x ∧ x < r * 112 + k then 1000 else X x)
  refine WP.bnd (P := J 112) ?_ (fun y hy => WP.ret hy)
  unfold fX0_clear_2
  refine WP.fr1 4 N (fun s T => J (s * 28) T) (by omega) ?_ ?_ 0 (by omega) ⟨Fr.refl _ _, fun x hx => by rw [if_neg (by omega)]; exact hE x hx⟩
  · intro s T hs hJ
    unfold bfX0_clear_2
    refine WP.no (nI_ge (a := s) (b := 4) hs (by omega)) ?_
    refine WP.bnd (P := J ((s + 1) * 28)) ?_ (fun y hy => WP.ret ⟨y, by rw [nI_1], hy⟩)
    unfold fX0_clear_9
    refine WP.fr1 7 N (fun e T => J (s * 28 + e * 4) T) (by omega) ?_ ?_ 0 (by omega) hJ
    · intro e T he hJ
      unfold bfX0_clear_9
      refine WP.no (nI_ge (a := e) (b := 7) he (by omega)) ?_
      refine WP.bnd (P := J (s * 28 + (e + 1) * 4)) ?_ (fun y hy => WP.ret ⟨y, by rw [nI_1], hy⟩)
      unfold fX0_clear_18
      refine WP.fr1 4 N (fun t T => J (s * 28 + e * 4 + t) T) (by omega) ?_ ?_ 0 (by omega) hJ
      · rintro t T ht ⟨j1, j2⟩
        have hix : (r * 4 + s) * 28 + (e * 4 + t) = r * 112 + (s * 28 + e * 4 + t) := by omega
        obtain ⟨S', e1, f1, p1, p2⟩ := s_put (N := N) (S := T) (v := 1000) (old := X ((r * 4 + s) * 28 + (e * 4 + t))) hr hs he ht (Nat.le_refl _) (hX _) (by rw [j2 _ (by omega), if_neg (by omega)])
        unfold bfX0_clear_18
        refine WP.no (nI_ge (a := t) (b := 4) ht (by omega)) (WP.beq e1 (WP.ret ⟨S', by rw [nI_1], j1.trans f1, fun x hx => ?_⟩))
        by_cases q : x = (r * 4 + s) * 28 + (e * 4 + t)
        · rw [q, p1, if_pos (by omega)]
        · rw [p2 x q, j2 x hx]
          by_cases w : r * 112 ≤ x ∧ x < r * 112 + (s * 28 + e * 4 + t)
          · rw [if_pos w, if_pos (by omega)]
          · rw [if_neg w, if_neg (by omega)]
      · intro T hJ
        unfold bfX0_clear_18
        refine WP.yes (show (4 : Int32) ≤ nI 4 by decide) (WP.ret ⟨_, rfl, ?_⟩)
        rw [show s * 28 + (e + 1) * 4 = s * 28 + e * 4 + 4 by omega]; exact hJ
    · intro T hJ
      unfold bfX0_clear_9
      refine WP.yes (show (7 : Int32) ≤ nI 7 by decide) (WP.ret ⟨_, rfl, ?_⟩)
      rw [show (s + 1) * 28 = s * 28 + 7 * 4 by omega]; exact hJ
  · intro T hJ
    unfold bfX0_clear_2
    exact WP.yes (show (4 : Int32) ≤ nI 4 by decide) (WP.ret ⟨_, rfl, hJ⟩)
variable {B : Nat} {nF : Nat → Nat} {cF mF : Nat → Nat → Nat} {bn fs kp : Nat → Nat} {ag : Nat → Prop} {ab : Nat → Nat → Bool} {X : Nat → Nat}
theorem s_tell (hN : 60 < N) {r : Nat} (hr : r < 8) (hK : TK (nF r) B (cF r) (mF r) bn fs kp ag) (hD : TD (S.2 10) (nF r) B (cF r) (mF r) bn fs kp ag S) (hC : CbA ab B 0 kp fs ag (Tab (cF r) (mF r) ab (nF r) X) S) (hX : ∀ x, X x ≤ 1000) (hE : ∀ x, x < 896 → S.1 19 x = eC (X x)) :
    WP (fX2_tellExits N (nI r) S) (fun z => Fr [19] S z.2 ∧ z.1 = bP (∃ x, r * 112 ≤ x ∧ x < r * 112 + 112 ∧ Fx nF cF mF ab X x ≠ X x) ∧ ∀ x, x < 896 → z.2.1 19 x = eC (if r * 112 ≤ x ∧ x < r * 112 + 112 then Fx nF cF mF ab X x else X x)) := by
  have hB := hK.2.1.2.1
  have hB0 := hK.2.1.1
  have hna : ¬ ag 0 := fun z => by
    have := (hK.2.2.2.2.2.1 0 hB0).2 z
    have h6 := hK.2.1.2.2.2
    omega
  have hrow : ∀ s c, s < 4 → c < 32 → S.1 30 (rix ag 0 0 s + c) = eC (Tab (cF r) (mF r) ab (nF r) X 0 0 s c) := fun s c hs hc => by
    rw [hC 0 (Nat.zero_le _) hB0 0 (by omega) (fun z => absurd z hna) s c hs hc]
    refine congrArg eC ?_
    have := Tab_na (ab := ab) hK X 61 0 hB0 (by omega) hna (0 + 1) 0 s c
    rw [hK.2.1.2.2.1] at this
    show Tab (cF r) (mF r) ab (nF r) X (fs 0) (0 + 1) s c = _
    rw [hK.2.1.2.2.1]
    exact this
  let J : Nat → Int32 → St → Prop := fun k a T => Fr [19] S T ∧ a = bP (∃ x, r * 112 ≤ x ∧ x < r * 112 + k ∧ Fx nF cF mF ab X x ≠ X x) ∧ ∀ x, x < 896 → T.1 19 x = eC (if r * 112 ≤ x ∧ x < r * 112 + k then Fx nF cF mF ab X x else X x)
  unfold fX2_tellExits
  refine WP.bnd (P := fun y => J 112 y.1 y.2) ?_ (fun y hy => WP.ret hy)
  unfold fX2_tellExits_4
  refine WP.fr2 4 N (fun s a T => J (s * 28) a T) (by omega) ?_ ?_ 0 (by omega) ⟨Fr.refl _ _, (bP_0 (fun ⟨_, w1, w2, _⟩ => absurd w2 (by omega))).symm, fun x hx => by rw [if_neg (by omega)]; exact hE x hx⟩
  · intro s a T hs hJ
    have hDT := hD.mv hJ.1 (by decide)
    rw [← hJ.1.1] at hDT
    unfold bfX2_tellExits_4
    refine WP.no (nI_ge (a := s) (b := 4) hs (by omega)) ?_
    refine WP.beq (s_rowOf hB hDT (b := 0) (k := 0) hB0 (by omega) hs) ?_
    refine WP.bnd (P := fun y => J ((s + 1) * 28) y.1 y.2) ?_ (fun y hy => WP.ret ⟨y.1, y.2, by rw [nI_1], hy⟩)
    have hri := rix_lt (ag := ag) (b := 0) (k := 0) (s := s) (by omega) (by omega) hs
    unfold fX2_tellExits_21
    refine WP.fr2 7 N (fun e a T => J (s * 28 + e * 4) a T) (by omega) ?_ ?_ 0 (by omega) hJ
    · intro e a T he hJ
      unfold bfX2_tellExits_21
      refine WP.no (nI_ge (a := e) (b := 7) he (by omega)) ?_
      refine WP.bnd (P := fun y => J (s * 28 + (e + 1) * 4) y.1 y.2) ?_ (fun y hy => WP.ret ⟨y.1, y.2, by rw [nI_1], hy⟩)
      unfold fX2_tellExits_31
      refine WP.fr2 4 N (fun t a T => J (s * 28 + e * 4 + t) a T) (by omega) ?_ ?_ 0 (by omega) hJ
      · rintro t a T ht ⟨j1, j2, j3⟩
        have hix : (r * 4 + s) * 28 + (e * 4 + t) = r * 112 + (s * 28 + e * 4 + t) := by omega
        have hx896 : r * 112 + (s * 28 + e * 4 + t) < 896 := by omega
        have d1 : (r * 112 + (s * 28 + e * 4 + t)) / 112 = r := by omega
        have d2 : (r * 112 + (s * 28 + e * 4 + t)) / 28 % 4 = s := by omega
        have d3 : (r * 112 + (s * 28 + e * 4 + t)) % 28 = e * 4 + t := by omega
        have key : WP (fX2_tellExits_71 N (nI r) a (nI s) (nI (rix ag 0 0 s)) (nI e) (nI t) (eC (Fx nF cF mF ab X (r * 112 + (s * 28 + e * 4 + t)))) T) (fun z => ∃ a' S', z = .inl (a', nI (t + 1), S') ∧ J (s * 28 + e * 4 + (t + 1)) a' S') := by
          obtain ⟨S', e1, f1, p1, p2⟩ := s_put (N := N) (S := T) (v := Fx nF cF mF ab X (r * 112 + (s * 28 + e * 4 + t))) (old := X (r * 112 + (s * 28 + e * 4 + t))) hr hs he ht (Fx_le _ _ _ _ _ _) (hX _) (by rw [hix, j3 _ hx896, if_neg (by omega)])
          rw [hix] at p1 p2
          unfold fX2_tellExits_71
          refine WP.beq e1 (WP.ret ⟨_, S', by rw [nI_1], j1.trans f1, ?_, fun x hx => ?_⟩)
          · rw [j2, bP_or]
            refine bP_congr ⟨fun z => ?_, fun z => ?_⟩
            · rcases z with ⟨x, x1, x2, x3⟩ | z
              · exact ⟨x, x1, by omega, x3⟩
              · exact ⟨_, by omega, by omega, z⟩
            · obtain ⟨x, x1, x2, x3⟩ := z
              by_cases w : x = r * 112 + (s * 28 + e * 4 + t)
              · rw [w] at x3; exact Or.inr x3
              · exact Or.inl ⟨x, x1, by omega, x3⟩
          · by_cases q : x = r * 112 + (s * 28 + e * 4 + t)
            · rw [q, p1, if_pos (by omega)]
            · rw [p2 x q, j3 x hx]
              by_cases w : r * 112 ≤ x ∧ x < r * 112 + (s * 28 + e * 4 + t)
              · rw [if_pos w, if_pos (by omega)]
              · rw [if_neg w, if_neg (by omega)]
        have e30 : ∀ c, c < 32 → T.1 30 (rix ag 0 0 s + c) = eC (Tab (cF r) (mF r) ab (nF r) X 0 0 s c) := fun c hc => by rw [j1.2 30 (by decide)]; exact hrow s c hs hc
        unfold bfX2_tellExits_31
        refine WP.no (nI_ge (a := t) (b := 4) ht (by omega)) ?_
        refine WP.beq (s_cell (R := rix ag 0 0 s) (w := e) (t := t) (by omega)) ?_
        try dsimp only
        rw [e30 (e * 4 + t) (by omega)]
        by_cases e0 : e = 0
        · subst e0
          refine WP.yes rfl ?_
          refine WP.beq (s_cell (R := rix ag 0 0 s) (w := 7) (t := t) (by omega)) ?_
          try dsimp only
          rw [e30 (7 * 4 + t) (by omega)]
          have hv : Fx nF cF mF ab X (r * 112 + (s * 28 + 0 * 4 + t)) = min (Tab (cF r) (mF r) ab (nF r) X 0 0 s (0 * 4 + t)) (Tab (cF r) (mF r) ab (nF r) X 0 0 s (7 * 4 + t)) := by
            unfold Fx
            rw [if_pos hx896, d1, d2, d3, if_pos (by omega), show 28 + (0 * 4 + t) = 7 * 4 + t by omega]
          have hmin : (if eC (Tab (cF r) (mF r) ab (nF r) X 0 0 s (7 * 4 + t)) < eC (Tab (cF r) (mF r) ab (nF r) X 0 0 s (0 * 4 + t)) then eC (Tab (cF r) (mF r) ab (nF r) X 0 0 s (7 * 4 + t)) else eC (Tab (cF r) (mF r) ab (nF r) X 0 0 s (0 * 4 + t))) = eC (Fx nF cF mF ab X (r * 112 + (s * 28 + 0 * 4 + t))) := by
            rw [hv]
            have l1 := Tab_le (ch := cF r) (mt := mF r) (ab := ab) (n := nF r) X 0 0 s (7 * 4 + t)
            have l2 := Tab_le (ch := cF r) (mt := mF r) (ab := ab) (n := nF r) X 0 0 s (0 * 4 + t)
            generalize Tab (cF r) (mF r) ab (nF r) X 0 0 s (7 * 4 + t) = u at *
            generalize Tab (cF r) (mF r) ab (nF r) X 0 0 s (0 * 4 + t) = v at *
            have b1 := eCn_b u
            have b2 := eCn_b v
            have hi : eC u < eC v ↔ eCn u < eCn v := by rw [eC_n, eC_n]; exact nI_ltI (by omega) (by omega)
            by_cases q : eCn u < eCn v
            · rw [if_pos (hi.mpr q), Nat.min_eq_right (by omega)]
            · rw [if_neg (fun z => q (hi.mp z)), Nat.min_eq_left (by omega)]
          rw [hmin]
          exact key
        · refine WP.no (nI_ne0 (by omega) (by omega)) ?_
          have hv : Fx nF cF mF ab X (r * 112 + (s * 28 + e * 4 + t)) = Tab (cF r) (mF r) ab (nF r) X 0 0 s (e * 4 + t) := by
            unfold Fx
            rw [if_pos hx896, d1, d2, d3, if_neg (by omega)]
          rw [← hv]
          exact key
      · intro a T hJ
        unfold bfX2_tellExits_31
        refine WP.yes (show (4 : Int32) ≤ nI 4 by decide) (WP.ret ⟨_, rfl, ?_⟩)
        rw [show s * 28 + (e + 1) * 4 = s * 28 + e * 4 + 4 by omega]; exact hJ
    · intro a T hJ
      unfold bfX2_tellExits_21
      refine WP.yes (show (7 : Int32) ≤ nI 7 by decide) (WP.ret ⟨_, rfl, ?_⟩)
      rw [show (s + 1) * 28 = s * 28 + 7 * 4 by omega]; exact hJ
  · intro a T hJ
    unfold bfX2_tellExits_4
    refine WP.yes (show (4 : Int32) ≤ nI 4 by decide) (WP.yes ?_ (WP.ret ⟨_, rfl, hJ⟩))
    rw [hJ.2.1]; exact bP_01 _
end C8
