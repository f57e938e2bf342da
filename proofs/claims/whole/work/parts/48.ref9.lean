/-! ===== the second program: all texts, until nothing gets lower ===== -/
def Fx (nF : Nat → Nat) (cF mF : Nat → Nat → Nat) (ab : Nat → Nat → Bool) (X : Nat → Nat) (x : Nat) : Nat := if x < 896 then (if x % 28 < 4 then min (Tab (cF (x / 112)) (mF (x / 112)) ab (nF (x / 112)) X 0 0 (x / 28 % 4) (x % 28)) (Tab (cF (x / 112)) (mF (x / 112)) ab (nF (x / 112)) X 0 0 (x / 28 % 4) (28 + x % 28)) else Tab (cF (x / 112)) (mF (x / 112)) ab (nF (x / 112)) X 0 0 (x / 28 % 4) (x % 28)) else 1000
theorem Fx_gd (nF : Nat → Nat) (cF mF : Nat → Nat → Nat) (ab : Nat → Nat → Bool) (x : Nat) : Gd (fun X => Fx nF cF mF ab X x) := gd_ite (gd_ite (gd_min (gd_Tab _ _ _ _ _ _ _ _) (gd_Tab _ _ _ _ _ _ _ _)) (gd_Tab _ _ _ _ _ _ _ _)) (gd_k _)
theorem Fx_top (nF : Nat → Nat) (cF mF : Nat → Nat → Nat) (ab : Nat → Nat → Bool) (X : Nat → Nat) (x : Nat) (h : 896 ≤ x) : Fx nF cF mF ab X x = 1000 := if_neg (by omega)
theorem Fx_le (nF : Nat → Nat) (cF mF : Nat → Nat → Nat) (ab : Nat → Nat → Bool) (X : Nat → Nat) (x : Nat) : Fx nF cF mF ab X x ≤ 1000 := by
  unfold Fx
  split
  · split
    · exact Nat.le_trans (Nat.min_le_left _ _) (Tab_le _ _ _ _ _)
    · exact Tab_le _ _ _ _ _
  · exact Nat.le_refl _
/-- a text and the kinds, as the second program has them -/
def RY (r n : Nat) (ch mt : Nat → Nat) (ab : Nat → Nat → Bool) (S : St) : Prop :=
  S.1 133 r = nI n ∧ (∀ i, i < n → S.1 132 (60 * r + i) &&& 255 = nI (ch i)) ∧ (∀ q, ch q = 123 → S.1 134 (60 * r + q) = nI (mt q)) ∧ p_ok (S.1 129) ∧ p_ac (S.1 129) ∧ (∀ k f, k < 6 → f < 6 → (ab k f = true ↔ isK (S.1 129) k f))
theorem RY.X {r n : Nat} {ch mt : Nat → Nat} {ab : Nat → Nat → Bool} {S : St} (h : RY r n ch mt ab S) {X : Nat → Nat} (hX : ∀ x, x < 896 → S.1 141 x = eR (X x)) : RX r n ch mt ab X S := ⟨h.1, h.2.1, h.2.2.1, h.2.2.2.1, h.2.2.2.2.1, h.2.2.2.2.2, hX⟩
theorem RY.mv {r n : Nat} {ch mt : Nat → Nat} {ab : Nat → Nat → Bool} {S T : St} (h : RY r n ch mt ab S) {A J : List Nat} (f : FrJ J A S T) (hA : 129 ∉ A ∧ 132 ∉ A ∧ 133 ∉ A ∧ 134 ∉ A) : RY r n ch mt ab T := by
  unfold RY
  rw [f.2.1 129 hA.1 (by decide), f.2.1 132 hA.2.1 (by decide), f.2.1 133 hA.2.2.1 (by decide), f.2.1 134 hA.2.2.2 (by decide)]
  exact h
theorem eR_ltR {a b : Nat} (ha : a ≤ 1000) (hb : b ≤ 1000) : eR a < eR b ↔ a < b := by
  have h1 := eRn_b a
  have h2 := eRn_b b
  rw [eR_n a, eR_n b, nI_ltI (by omega) (by omega)]
  omega
section R9
variable {N : Nat} {nF : Nat → Nat} {cF mF : Nat → Nat → Nat} {ab : Nat → Nat → Bool} {S : St}
def rnA : List Nat := 139 :: 140 :: 141 :: mkA
/-- the rows of one routine, taken over -/
theorem s_runs69 (hN : 100 < N) {r : Nat} (hr : r < 8) {L : Nat → Nat} (hL : ∀ x, L x ≤ 1000) (hE : ∀ x, x < 896 → S.1 141 x = eR (L x)) (hT : ∀ s x, s < 4 → x < 32 → S.1 139 ((61 * r + 0) * 896 + (0 * 4 + s) * 32 + x) = eR (Tab (cF r) (mF r) ab (nF r) L 0 0 s (co x))) {a : Int32} {Q : Prop} (ha : a = bP Q) :
    WP (fX8_runs_69 N (nI r) (a, nI 0, S)) (fun z => FrJ [23, 28] [141] S z.2 ∧ z.1 = bP (Q ∨ ∃ x, r * 112 ≤ x ∧ x < r * 112 + 112 ∧ Fx nF cF mF ab L x < L x) ∧ ∀ x, x < 896 → z.2.1 141 x = eR (if r * 112 ≤ x ∧ x < r * 112 + 112 then min (L x) (Fx nF cF mF ab L x) else L x)) := by
  let J : Nat → Int32 → St → Prop := fun k a T => FrJ [23, 28] [141] S T ∧ a = bP (Q ∨ ∃ x, r * 112 ≤ x ∧ x < r * 112 + k ∧ Fx nF cF mF ab L x < L x) ∧ ∀ x, x < 896 → T.1 141 x = eR (if r * 112 ≤ x ∧ x < r * 112 + k then min (L x) (Fx nF cF mF ab L x) else L x)
  have fin : ∀ (y : Int32 × St), J 112 y.1 y.2 → FrJ [23, 28] [141] S y.2 ∧ y.1 = bP (Q ∨ ∃ x, r * 112 ≤ x ∧ x < r * 112 + 112 ∧ Fx nF cF mF ab L x < L x) ∧ ∀ x, x < 896 → y.2.1 141 x = eR (if r * 112 ≤ x ∧ x < r * 112 + 112 then min (L x) (Fx nF cF mF ab L x) else L x) := fun y h => h
  unfold fX8_runs_69
  refine WP.imp (P := fun y => J 112 y.1 y.2) ?_ fin
  refine WP.fr2 4 N (fun s a T => J (s * 28) a T) (by omega) ?_ ?_ 0 (by omega) ⟨FrJ.refl _ _ _, by rw [ha]; exact bP_congr ⟨Or.inl, fun v => v.elim id (fun ⟨_, w1, w2, _⟩ => absurd w2 (by omega))⟩, fun x hx => by rw [if_neg (by omega)]; exact hE x hx⟩
  · intro s a T hs hJ
    unfold bfX8_runs_69
    refine WP.no (nI_ge (a := s) (b := 4) hs (by omega)) ?_
    refine WP.bnd (P := fun y => J ((s + 1) * 28) y.1 y.2) ?_ (fun y hy => WP.ret ⟨y.1, y.2, by rw [nI_1], hy⟩)
    unfold fX8_runs_77
    refine WP.fr2 7 N (fun e a T => J (s * 28 + e * 4) a T) (by omega) ?_ ?_ 0 (by omega) hJ
    · intro e a T he hJ
      unfold bfX8_runs_77
      refine WP.no (nI_ge (a := e) (b := 7) he (by omega)) ?_
      refine WP.bnd (P := fun y => J (s * 28 + (e + 1) * 4) y.1 y.2) ?_ (fun y hy => WP.ret ⟨y.1, y.2, by rw [nI_1], hy⟩)
      unfold fX8_runs_87
      refine WP.fr2 4 N (fun t a T => J (s * 28 + e * 4 + t) a T) (by omega) ?_ ?_ 0 (by omega) hJ
      · rintro t a T ht ⟨j1, j2, j3⟩
        have hx896 : r * 112 + (s * 28 + e * 4 + t) < 896 := by omega
        have key : WP (fX8_runs_142 N a (nI r) (nI s) (nI e) (nI t) (eR (Fx nF cF mF ab L (r * 112 + (s * 28 + e * 4 + t)))) T) (fun z => ∃ a' S', z = .inl (a', nI (t + 1), S') ∧ J (s * 28 + e * 4 + (t + 1)) a' S') := by
          unfold fX8_runs_142 fX8_runs_188
          simp only [nI_x4, nI_x7, nI_add]
          have hix : ((r * 4 + s) * 7 + e) * 4 + t = r * 112 + (s * 28 + e * 4 + t) := by omega
          rw [hix]
          generalize hxe : r * 112 + (s * 28 + e * 4 + t) = x0 at *
          refine WP.ix hx896 (by omega) ?_
          rw [nI_cl (by omega), j3 x0 hx896, if_neg (show ¬ (r * 112 ≤ x0 ∧ x0 < x0) by omega)]
          by_cases q : Fx nF cF mF ab L x0 < L x0
          · refine WP.yes ((eR_ltR (Fx_le _ _ _ _ _ _) (hL _)).mpr q) (WP.no ?_ (WP.ret ⟨1, _, by rw [nI_1], j1.i (by decide) (by decide), ?_, fun x hx => ?_⟩))
            · rintro (z | z)
              · exact nI_pos (by omega) z
              · omega
            · exact (bP_1 (Or.inr ⟨x0, by omega, by omega, q⟩)).symm
            · rw [si_if]
              by_cases w : x = x0
              · rw [if_pos w, if_pos (by omega), w, Nat.min_eq_right (by omega)]
              · rw [if_neg w, j3 x hx]
                by_cases v : r * 112 ≤ x ∧ x < x0
                · rw [if_pos v, if_pos (by omega)]
                · rw [if_neg v, if_neg (by omega)]
          · refine WP.no (fun z => q ((eR_ltR (Fx_le _ _ _ _ _ _) (hL _)).mp z)) (WP.ret ⟨a, T, by rw [nI_1], j1, ?_, fun x hx => ?_⟩)
            · rw [j2]
              refine bP_congr ⟨fun v => v.imp id (fun ⟨x, v1, v2, v3⟩ => ⟨x, v1, by omega, v3⟩), fun v => v.imp id (fun ⟨x, v1, v2, v3⟩ => ⟨x, v1, ?_, v3⟩)⟩
              by_cases w : x = x0
              · subst w; exact absurd v3 q
              · omega
            · rw [j3 x hx]
              by_cases w : x = x0
              · rw [if_neg (by omega), if_pos (by omega), w, Nat.min_eq_left (by omega)]
              · by_cases v : r * 112 ≤ x ∧ x < x0
                · rw [if_pos v, if_pos (by omega)]
                · rw [if_neg v, if_neg (by omega)]
        have eT : ∀ x, x < 32 → T.1 139 ((61 * r + 0) * 896 + (0 * 4 + s) * 32 + x) = eR (Tab (cF r) (mF r) ab (nF r) L 0 0 s (co x)) := fun x hx => by rw [j1.2.1 139 (by decide) (by decide)]; exact hT s x hs hx
        have d1 : (r * 112 + (s * 28 + e * 4 + t)) / 112 = r := by omega
        have d2 : (r * 112 + (s * 28 + e * 4 + t)) / 28 % 4 = s := by omega
        have d3 : (r * 112 + (s * 28 + e * 4 + t)) % 28 = e * 4 + t := by omega
        unfold bfX8_runs_87
        refine WP.no (nI_ge (a := t) (b := 4) ht (by omega)) ?_
        try dsimp only
        by_cases e0 : e = 0
        · subst e0
          refine WP.yes rfl ?_
          refine WP.beq (s_allOf N T (sp := 0) (tk := 0) (o := 0) hr (by omega) (by omega) hs (by omega) ht) ?_
          refine WP.beq (s_allOf N T (sp := 0) (tk := 0) (o := 1) hr (by omega) (by omega) hs (by omega) ht) ?_
          try dsimp only
          rw [eT (0 * 4 + t) (by omega), eT (1 * 4 + t) (by omega)]
          refine WP.beq (s_less N T (Tab_le _ _ _ _ _) (Tab_le _ _ _ _ _)) ?_
          try dsimp only
          have hv : Fx nF cF mF ab L (r * 112 + (s * 28 + 0 * 4 + t)) = min (Tab (cF r) (mF r) ab (nF r) L 0 0 s (co (0 * 4 + t))) (Tab (cF r) (mF r) ab (nF r) L 0 0 s (co (1 * 4 + t))) := by
            unfold Fx
            rw [if_pos hx896, d1, d2, d3, if_pos (by omega)]
            have c1 : co (0 * 4 + t) = 0 * 4 + t := by unfold co; rw [if_pos (by omega)]
            have c2 : co (1 * 4 + t) = 28 + (0 * 4 + t) := by unfold co; rw [if_neg (by omega), if_pos (by omega)]; omega
            rw [c1, c2]
          rw [← hv]
          exact key
        · refine WP.no (nI_ne0 (by omega) (by omega)) ?_
          have e1 : (2 + nI e) - 1 = nI (e + 1) := by
            rw [show (2 : Int32) = nI 2 from rfl, nI_add, show (1 : Int32) = nI 1 from rfl, pk_sub (by omega), show 2 + e - 1 = e + 1 by omega]
          rw [e1]
          refine WP.beq (s_allOf N T (sp := 0) (tk := 0) (o := e + 1) hr (by omega) (by omega) hs (by omega) ht) ?_
          try dsimp only
          rw [eT ((e + 1) * 4 + t) (by omega)]
          have hv : Fx nF cF mF ab L (r * 112 + (s * 28 + e * 4 + t)) = Tab (cF r) (mF r) ab (nF r) L 0 0 s (co ((e + 1) * 4 + t)) := by
            unfold Fx
            rw [if_pos hx896, d1, d2, d3, if_neg (by omega)]
            have c1 : co ((e + 1) * 4 + t) = e * 4 + t := by unfold co; rw [if_neg (by omega), if_neg (by omega)]; omega
            rw [c1]
          rw [← hv]
          exact key
      · intro a T hJ
        unfold bfX8_runs_87
        refine WP.yes (show (4 : Int32) ≤ nI 4 by decide) (WP.ret ⟨_, rfl, ?_⟩)
        rw [show s * 28 + (e + 1) * 4 = s * 28 + e * 4 + 4 by omega]; exact hJ
    · intro a T hJ
      unfold bfX8_runs_77
      refine WP.yes (show (7 : Int32) ≤ nI 7 by decide) (WP.ret ⟨_, rfl, ?_⟩)
      rw [show (s + 1) * 28 = s * 28 + 7 * 4 by omega]; exact hJ
  · intro a T hJ
    unfold bfX8_runs_69
    exact WP.yes (show (4 : Int32) ≤ nI 4 by decide) (WP.ret ⟨_, rfl, hJ⟩)
/-- one round over all routines -/
theorem s_runs56 (hN : 100 < N) (hW : ∀ r, r < 8 → WF (cF r) (mF r) (nF r) ∧ ∀ i, cF r i < 256) (hY : ∀ r, r < 8 → RY r (nF r) (cF r) (mF r) ab S) (hm : S.1 128 19 = -1 ∧ S.1 128 20 = -1) {L : Nat → Nat} (hL : ∀ x, L x ≤ 1000) (hLt : ∀ x, 896 ≤ x → L x = 1000) (hLX : ∀ x, Xs (Fx nF cF mF ab) x ≤ L x) (hE : ∀ x, x < 896 → S.1 141 x = eR (L x)) :
    WP (fX8_runs_56 N (0, 0, S)) (fun z => FrJ [23, 28] rnA S z.2 ∧ ∃ L' : Nat → Nat, (∀ x, L' x ≤ 1000) ∧ (∀ x, 896 ≤ x → L' x = 1000) ∧ (∀ x, Xs (Fx nF cF mF ab) x ≤ L' x) ∧ (∀ x, x < 896 → z.2.1 141 x = eR (L' x)) ∧ ((z.1 = 1 ∧ sm 896 L' < sm 896 L) ∨ (z.1 = 0 ∧ ∀ x, L' x ≤ Fx nF cF mF ab L' x))) := by
  let G : (Nat → Nat) → Nat → Nat := Fx nF cF mF ab
  have hG : ∀ x, Gd (fun X => G X x) := Fx_gd nF cF mF ab
  let J : Nat → Int32 → St → Prop := fun r a T => FrJ [23, 28] rnA S T ∧ ∃ L' : Nat → Nat, (∀ x, L' x ≤ L x) ∧ (∀ x, 896 ≤ x → L' x = 1000) ∧ (∀ x, Xs G x ≤ L' x) ∧ (∀ x, x < 896 → T.1 141 x = eR (L' x)) ∧ ((a = 1 ∧ sm 896 L' < sm 896 L) ∨ (a = 0 ∧ L' = L ∧ ∀ x, x < r * 112 → L' x ≤ G L' x))
  unfold fX8_runs_56
  refine WP.imp (P := fun z => J 8 z.1 z.2) ?_ (fun z hz => ?_)
  · refine WP.fr2 8 N J (by omega) ?_ ?_ 0 (by omega) ⟨FrJ.refl _ _ _, L, fun _ => Nat.le_refl _, hLt, hLX, hE, Or.inr ⟨rfl, rfl, fun x hx => absurd hx (by omega)⟩⟩
    · rintro r a T hr ⟨j1, L1, l1, l2, l3, l4, l5⟩
      unfold bfX8_runs_56
      refine WP.no (nI_ge (a := r) (b := 8) hr (by omega)) ?_
      have hL1 : ∀ x, L1 x ≤ 1000 := fun x => Nat.le_trans (l1 x) (hL x)
      have hYT := (hY r hr).mv j1 ⟨by decide, by decide, by decide, by decide⟩
      have hM : RM (fun _ _ => False) (fun _ => False) T := by
        refine ⟨fun p k hp hk => ⟨False.elim, fun v => ?_⟩, fun k hk => ⟨False.elim, fun v => ?_⟩⟩
        · rw [j1.2.2 19 (by decide), hm.1] at v
          exact absurd v.1.symm (by rw [nI_m1 (by omega)]; exact id)
        · rw [j1.2.2 20 (by decide), hm.2] at v
          exact absurd v.2.symm (by rw [nI_m1 (by omega)]; exact id)
      refine WP.bnd (s_goes hN (X := L1) ⟨hr, (hW r hr).1, (hW r hr).2, hL1⟩ (hYT.X l4) hM) (fun T1 g1 => ?_)
      have f1 : FrJ [23, 28] rnA S T1 := j1.trans (g1.1.mono (by decide))
      have ha : ∃ Q : Prop, a = bP Q ∧ ((Q ∧ sm 896 L1 < sm 896 L) ∨ (¬ Q ∧ L1 = L ∧ ∀ x, x < r * 112 → L1 x ≤ G L1 x)) := by
        rcases l5 with ⟨h1, h2⟩ | ⟨h1, h2, h3⟩
        · exact ⟨True, by rw [h1, bP_1 trivial], Or.inl ⟨trivial, h2⟩⟩
        · exact ⟨False, by rw [h1, bP_0 id], Or.inr ⟨id, h2, h3⟩⟩
      obtain ⟨Q, ha, hQ⟩ := ha
      refine WP.bnd (s_runs69 (nF := nF) (cF := cF) (mF := mF) (ab := ab) hN hr hL1 (S := T1) (fun x hx => by rw [g1.1.2.1 141 (by decide) (by decide)]; exact l4 x hx) (fun s x hs hx => (g1.2 0 0 s (Or.inl rfl) (by omega) hs).1 x hx) ha) (fun z gz => WP.ret ⟨z.1, z.2, by rw [nI_1], f1.trans (gz.1.mono (by decide)), fun x => if r * 112 ≤ x ∧ x < r * 112 + 112 then min (L1 x) (G L1 x) else L1 x, fun x => ?_, fun x hx => ?_, fun x => ?_, gz.2.2, ?_⟩)
      · dsimp only
        split
        · exact Nat.le_trans (Nat.min_le_left _ _) (l1 x)
        · exact l1 x
      · dsimp only
        rw [if_neg (by omega)]; exact l2 x hx
      · dsimp only
        split
        · refine Nat.le_min.mpr ⟨l3 x, ?_⟩
          rw [← Xs_fix hG (Fx_top nF cF mF ab) (Fx_le nF cF mF ab) x]
          exact (hG x).1 _ _ l3
        · exact l3 x
      · rw [gz.2.1]
        by_cases q : ∃ x, r * 112 ≤ x ∧ x < r * 112 + 112 ∧ G L1 x < L1 x
        · left
          obtain ⟨x, q1, q2, q3⟩ := q
          refine ⟨bP_1 (Or.inr ⟨x, q1, q2, q3⟩), ?_⟩
          have h1 : sm 896 (fun x => if r * 112 ≤ x ∧ x < r * 112 + 112 then min (L1 x) (G L1 x) else L1 x) < sm 896 L1 := by
            refine sm_lt (fun i _ => ?_) (k := x) (by omega) ?_
            · split
              · exact Nat.min_le_left _ _
              · exact Nat.le_refl _
            · rw [if_pos ⟨q1, q2⟩, Nat.min_eq_right (by omega)]; exact q3
          have h2 : sm 896 L1 ≤ sm 896 L := sm_le (fun i _ => l1 i)
          omega
        · have hno : ∀ x, r * 112 ≤ x → x < r * 112 + 112 → L1 x ≤ G L1 x := fun x h1 h2 => Nat.le_of_not_lt (fun h3 => q ⟨x, h1, h2, h3⟩)
          have hsame : (fun x => if r * 112 ≤ x ∧ x < r * 112 + 112 then min (L1 x) (G L1 x) else L1 x) = L1 := by
            funext x
            by_cases v : r * 112 ≤ x ∧ x < r * 112 + 112
            · rw [if_pos v, Nat.min_eq_left (hno x v.1 v.2)]
            · rw [if_neg v]
          rw [hsame]
          rcases hQ with ⟨h1, h2⟩ | ⟨h1, h2, h3⟩
          · exact Or.inl ⟨bP_1 (Or.inl h1), h2⟩
          · refine Or.inr ⟨bP_0 (fun v => v.elim h1 q), h2, fun x hx => ?_⟩
            rcases Nat.lt_or_ge x (r * 112) with w | w
            · exact h3 x w
            · exact hno x w (by omega)
    · intro a T hJ
      unfold bfX8_runs_56
      exact WP.yes (show (8 : Int32) ≤ nI 8 by decide) (WP.ret ⟨_, rfl, hJ⟩)
  · obtain ⟨j1, L1, l1, l2, l3, l4, l5⟩ := hz
    refine ⟨j1, L1, fun x => Nat.le_trans (l1 x) (hL x), l2, l3, l4, ?_⟩
    rcases l5 with h | ⟨h1, h2, h3⟩
    · exact Or.inl h
    · refine Or.inr ⟨h1, fun x => ?_⟩
      rcases Nat.lt_or_ge x 896 with w | w
      · exact h3 x (by omega)
      · rw [l2 x w, Fx_top _ _ _ _ _ x w]; exact Nat.le_refl _
theorem s_runs (hN : 900000 < N) (hW : ∀ r, r < 8 → WF (cF r) (mF r) (nF r) ∧ ∀ i, cF r i < 256) (hY : ∀ r, r < 8 → RY r (nF r) (cF r) (mF r) ab S) (hm : S.1 128 19 = -1 ∧ S.1 128 20 = -1) (hc : S.1 128 29 = 0 ∨ (S.1 128 29 = 1 ∧ ∀ x, x < 896 → S.1 141 x = eR (Xs (Fx nF cF mF ab) x))) :
    WP (fX8_runs N S) (fun S' => FrJ [23, 28, 29] rnA S S' ∧ S'.1 128 29 = 1 ∧ ∀ x, x < 896 → S'.1 141 x = eR (Xs (Fx nF cF mF ab) x)) := by
  unfold fX8_runs
  rcases hc with h29 | ⟨h29, hX⟩
  · refine WP.yes h29 ?_
    generalize hS1 : st_i (st_i (st_i S 128 29 1) 128 19 (-1)) 128 20 (-1) = S1
    have f1 : FrJ [23, 28, 29] rnA S S1 := by
      refine ⟨by rw [← hS1]; rfl, fun c hc hc8 => by rw [← hS1, si_nx _ _ hc8, si_nx _ _ hc8, si_nx _ _ hc8], fun j hj => ?_⟩
      rw [← hS1]
      by_cases q20 : j = 20
      · subst q20; rw [si_at, hm.2]
      · rw [si_ni _ _ q20]
        by_cases q19 : j = 19
        · subst q19; rw [si_at, hm.1]
        · rw [si_ni _ _ q19, si_ni _ _ (fun q => hj (by rw [q]; decide))]
    have h29' : S1.1 128 29 = 1 := by rw [← hS1, si_ni _ _ (by decide), si_ni _ _ (by decide), si_at]
    have hm1 : S1.1 128 19 = -1 ∧ S1.1 128 20 = -1 := ⟨by rw [f1.2.2 19 (by decide)]; exact hm.1, by rw [f1.2.2 20 (by decide)]; exact hm.2⟩
    refine WP.bnd (P := fun S2 => FrJ [23, 28] rnA S1 S2 ∧ ∀ x, x < 896 → S2.1 141 x = eR 1000) ?_ (fun S2 g2 => ?_)
    · unfold fX8_runs_25
      refine WP.fr1 896 N (fun i T => FrJ [23, 28] rnA S1 T ∧ ∀ x, x < i → T.1 141 x = eR 1000) (by omega) ?_ ?_ 0 (by omega) ⟨FrJ.refl _ _ _, fun x hx => absurd hx (by omega)⟩
      · rintro i T hi ⟨t1, t2⟩
        unfold bfX8_runs_25
        refine WP.no (nI_ge (a := i) (b := 896) hi (by omega)) (WP.ix hi (by omega) (WP.ret ⟨_, by rw [nI_1, nI_cl (by omega)], t1.i (by decide) (by decide), fun x hx => ?_⟩))
        rw [si_if]
        by_cases q : x = i
        · rw [if_pos q]; rfl
        · rw [if_neg q]; exact t2 x (by omega)
      · rintro T ⟨t1, t2⟩
        unfold bfX8_runs_25
        exact WP.yes (show (896 : Int32) ≤ nI 896 by decide) (WP.ret ⟨_, rfl, t1, t2⟩)
    have loop : ∀ (k M : Nat) (T : St) (L : Nat → Nat), sm 896 L ≤ k → k + 1 < M → FrJ [23, 28] rnA S1 T → (∀ x, L x ≤ 1000) → (∀ x, 896 ≤ x → L x = 1000) → (∀ x, Xs (Fx nF cF mF ab) x ≤ L x) → (∀ x, x < 896 → T.1 141 x = eR (L x)) → WP (whl M (bfX8_runs_48 N) (1, T)) (fun T' => FrJ [23, 28] rnA S1 T' ∧ ∀ x, x < 896 → T'.1 141 x = eR (Xs (Fx nF cF mF ab) x)) := by
      intro k
      induction k with
      | zero =>
        intro M T L hk hM t1 l1 l2 l3 l4
        obtain ⟨M', rfl⟩ : ∃ M', M = M' + 2 := ⟨M - 2, by omega⟩
        have f01 : FrJ [23, 28, 29] rnA S T := f1.trans (t1.wid (by decide))
        obtain ⟨z, e1, z1, L', a1, a2, a3, a4, a5⟩ := s_runs56 (N := N) (by omega) hW (fun r hr => (hY r hr).mv f01 ⟨by decide, by decide, by decide, by decide⟩) ⟨by rw [t1.2.2 19 (by decide)]; exact hm1.1, by rw [t1.2.2 20 (by decide)]; exact hm1.2⟩ l1 l2 l3 l4
        rcases a5 with ⟨_, b2⟩ | ⟨b1, b2⟩
        · omega
        · have hs : bfX8_runs_48 N ((1 : Int32), T) = some (.inl (0, z.2)) := by
            unfold bfX8_runs_48
            rw [if_neg (show ¬ ((1 : Int32) = 0) by decide), e1]
            simp only [Option.bind_some]
            rw [b1]
          have hs2 : bfX8_runs_48 N ((0 : Int32), z.2) = some (.inr z.2) := if_pos rfl
          rw [whl_s hs]
          refine WP.eq (whl_e hs2) ⟨t1.trans z1, fun x hx => ?_⟩
          rw [a4 x hx, Nat.le_antisymm (Xs_ge (Fx_gd nF cF mF ab) b2 a1 x) (a3 x)]
      | succ k ih =>
        intro M T L hk hM t1 l1 l2 l3 l4
        obtain ⟨M', rfl⟩ : ∃ M', M = M' + 2 := ⟨M - 2, by omega⟩
        have f01 : FrJ [23, 28, 29] rnA S T := f1.trans (t1.wid (by decide))
        obtain ⟨z, e1, z1, L', a1, a2, a3, a4, a5⟩ := s_runs56 (N := N) (by omega) hW (fun r hr => (hY r hr).mv f01 ⟨by decide, by decide, by decide, by decide⟩) ⟨by rw [t1.2.2 19 (by decide)]; exact hm1.1, by rw [t1.2.2 20 (by decide)]; exact hm1.2⟩ l1 l2 l3 l4
        have hs : bfX8_runs_48 N ((1 : Int32), T) = some (.inl (z.1, z.2)) := by
          unfold bfX8_runs_48
          rw [if_neg (show ¬ ((1 : Int32) = 0) by decide), e1]
          rfl
        rcases a5 with ⟨b1, b2⟩ | ⟨b1, b2⟩
        · rw [whl_s hs, b1]
          exact ih (M' + 1) z.2 L' (by omega) (by omega) (t1.trans z1) a1 a2 a3 a4
        · have hs2 : bfX8_runs_48 N ((0 : Int32), z.2) = some (.inr z.2) := if_pos rfl
          rw [whl_s hs, b1]
          refine WP.eq (whl_e hs2) ⟨t1.trans z1, fun x hx => ?_⟩
          rw [a4 x hx, Nat.le_antisymm (Xs_ge (Fx_gd nF cF mF ab) b2 a1 x) (a3 x)]
    refine WP.bnd (P := fun T' => FrJ [23, 28] rnA S1 T' ∧ ∀ x, x < 896 → T'.1 141 x = eR (Xs (Fx nF cF mF ab) x)) ?_ (fun T' g => WP.ret ⟨f1.trans (g.1.wid (by decide)), by rw [g.1.2.2 29 (by decide)]; exact h29', g.2⟩)
    unfold fX8_runs_48
    refine loop 896000 N S2 (fun _ => 1000) ?_ (by omega) g2.1 (fun _ => Nat.le_refl _) (fun _ _ => rfl) (fun x => itr_le (Fx_le nF cF mF ab) 896 x) g2.2
    have h := sm_bd (n := 896) (b := 1000) (f := fun _ => 1000) (fun _ _ => Nat.le_refl _)
    omega
  · refine WP.no (by rw [h29]; decide) (WP.ret ⟨FrJ.refl _ _ _, h29, hX⟩)
end R9
