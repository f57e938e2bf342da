/-! ===== tracing a routine; lost and takers in the first program ===== -/
theorem TA_dis : ∀ a, a < 12 → ∀ b, b < 12 → a ≠ b → ∀ o, o < 9 → ∀ p, p < 9 → TA a + o ≠ TA b + p := by decide +kernel
/-- what asking changes in the first program -/
def CF (S T : St) : Prop := (∀ j, j ≠ 10 → j ≠ 11 → T.2 j = S.2 j) ∧ (∀ c, 128 ≤ c → T.1 c = S.1 c) ∧ (∀ c, c ∈ [1, 2, 14, 15, 17] → T.1 c = S.1 c) ∧ (∀ j, j ≠ 11 → j ≠ 12 → T.1 0 j = S.1 0 j) ∧ (∀ m o, o < 9 → o ≠ 0 → o ≠ 7 → T.1 (TA m + o) = S.1 (TA m + o)) ∧ ∀ m j, j ≠ 12 → T.1 (TA m) j = S.1 (TA m) j
theorem CF.refl (S : St) : CF S S := ⟨fun _ _ _ => rfl, fun _ _ => rfl, fun _ _ => rfl, fun _ _ _ => rfl, fun _ _ _ _ _ => rfl, fun _ _ _ => rfl⟩
theorem CF.trans {S T U : St} (h : CF S T) (k : CF T U) : CF S U := ⟨fun j a b => (k.1 j a b).trans (h.1 j a b), fun c a => (k.2.1 c a).trans (h.2.1 c a), fun c a => (k.2.2.1 c a).trans (h.2.2.1 c a), fun j a b => (k.2.2.2.1 j a b).trans (h.2.2.2.1 j a b), fun m o a b c => (k.2.2.2.2.1 m o a b c).trans (h.2.2.2.2.1 m o a b c), fun m j a => (k.2.2.2.2.2 m j a).trans (h.2.2.2.2.2 m j a)⟩
theorem ta_me (m : Nat) {o : Nat} (ho : o < 9) : TA m + o ∉ 0 :: meA := fun q => by
  have : ∀ c, c ∈ 0 :: meA → c ∈ nT := by decide
  exact TA_ne m o ho (this _ q) rfl
theorem CP.cf {S T : St} (h : CP S T) : CF S T := by
  refine ⟨h.1.1, fun c hc => h.1.2 c (fun q => ?_), fun c hc => h.1.2 c (fun q => ?_), fun j h1 _ => h.2 j h1, fun m o ho _ _ => h.1.2 _ (ta_me m ho), fun m j _ => by rw [show T.1 (TA m) = S.1 (TA m) from h.1.2 _ (ta_me m (o := 0) (by omega))]⟩
  · unfold meA at q; simp at q; omega
  · unfold meA at q; simp at q hc; omega
theorem trf_row' (m : Nat) {o : Nat} (h0 : 0 < o) (h9 : o < 9) (h7 : o ≠ 7) : TA m + o ∉ [36, 46, TA m, TA m + 7] := fun q => by
  have h1 : TA m + o ≠ 36 := TA_ne m o h9 (by simp)
  have h2 : TA m + o ≠ 46 := TA_ne m o h9 (by simp)
  simp only [List.mem_cons, List.not_mem_nil, or_false] at q
  omega
section KCS
variable {N : Nat} {nF : Nat → Nat} {cF mF : Nat → Nat → Nat} {ab : Nat → Nat → Bool} {S : St}
theorem TrOK.mv {m n : Nat} {ch mt : Nat → Nat} {X : Nat → Nat} {T : St} (h : TrOK m n ch mt ab X S) (h7 : T.1 (TA m + 7) = S.1 (TA m + 7)) (h2 : T.1 (TA m + 2) = S.1 (TA m + 2)) (h0 : T.1 (TA m) 12 = S.1 (TA m) 12) : TrOK m n ch mt ab X T := by
  unfold TrOK tkb at *
  rw [h7, h2, h0]
  exact h
def KC (nF : Nat → Nat) (cF mF : Nat → Nat → Nat) (ab : Nat → Nat → Bool) (S : St) : Prop := CC nF cF mF ab S ∧ ((∀ q, q < 9 → S.2 q < 12) ∧ ∀ q p, q < 9 → p < 9 → S.2 q = S.2 p → q = p) ∧ ∀ q, q < 8 → bt (S.1 0 12) q = true → TrOK (S.2 q) (nF q) (cF q) (mF q) ab (Xs (Fx nF cF mF ab)) S
theorem KC.cp {T : St} (h : KC nF cF mF ab S) (f : CP S T) (hc : CC nF cF mF ab T) : KC nF cF mF ab T := by
  obtain ⟨h1, ⟨h2, h3⟩, h4⟩ := h
  have e : ∀ q, q < 9 → T.2 q = S.2 q := fun q hq => f.1.1 q (by omega) (by omega)
  refine ⟨hc, ⟨fun q hq => by rw [e q hq]; exact h2 q hq, fun q p hq hp => by rw [e q hq, e p hp]; exact h3 q p hq hp⟩, fun q hq hb => ?_⟩
  rw [f.2 12 (by omega)] at hb
  rw [e q (by omega)]
  exact (h4 q hq hb).mv (f.1.2 _ (ta_me _ (by omega))) (f.1.2 _ (ta_me _ (by omega))) (by rw [show T.1 (TA (S.2 q)) = S.1 (TA (S.2 q)) from f.1.2 _ (ta_me _ (o := 0) (by omega))])
theorem TX.cf {T : St} {q : Nat} (hq : q < 8) (h : TX nF cF mF q S) (f : CF S T) : TX nF cF mF q T := by
  obtain ⟨B, bn, fs, kp, ag, h1, h2, h3⟩ := h
  have e : T.2 q = S.2 q := f.1 q (by omega) (by omega)
  refine ⟨B, bn, fs, kp, ag, h1, ?_, ?_⟩
  · rw [e]
    unfold TD at *
    rw [f.2.2.2.2.2 _ 1 (by omega), f.2.2.2.2.2 _ 8 (by omega), f.2.2.2.2.1 _ 1 (by omega) (by omega) (by omega), f.2.2.2.2.1 _ 2 (by omega) (by omega) (by omega), f.2.2.2.2.1 _ 3 (by omega) (by omega) (by omega), f.2.2.2.2.1 _ 4 (by omega) (by omega) (by omega), f.2.2.2.2.1 _ 5 (by omega) (by omega) (by omega), f.2.2.2.2.1 _ 6 (by omega) (by omega) (by omega)]
    exact h2
  · rw [e, f.2.2.2.2.2 _ 11 (by omega)]; exact h3
theorem s_trace (hN : 2000 < N) (h : KC nF cF mF ab S) {r : Nat} (hr : r < 8) (hmr : bt (S.1 0 11) r = true) : WP (fX7_trace N (nI r) S) (fun T => CF S T ∧ KC nF cF mF ab T ∧ bt (T.1 0 12) r = true) := by
  unfold fX7_trace
  rw [s_has N _ (show r < 32 by omega)]
  simp only [Option.bind_some]
  by_cases q : bt (S.1 0 12) r = true
  · rw [if_pos q, if_neg z10]
    exact WP.ret ⟨CF.refl S, h, q⟩
  · rw [if_neg q, if_pos rfl, if_neg (nI_in hr (by omega)), nI_cl (by omega)]
    have h' := h
    obtain ⟨⟨h1, h2, ⟨Y, h3, h4⟩, h5⟩, ⟨i1, i2⟩, h6⟩ := h'
    have hW : ∀ r, r < 8 → WF (cF r) (mF r) (nF r) := fun q hq => by obtain ⟨B, bn, fs, kp, ag, g1, _, _⟩ := h1 q hq; exact g1.1.1
    obtain ⟨B, bn, fs, kp, ag, hK, hD, _⟩ := h1 r hr
    have hle : ∀ x, Xs (Fx nF cF mF ab) x ≤ 1000 := fun x => itr_le (Fx_le nF cF mF ab) 896 x
    have hcal : ∀ p, p < 8 → clb (cF r) p → ∀ x, x / 112 = p → S.1 19 x = eC (Xs (Fx nF cF mF ab) x) := fun p hp hc x hx => (h5 p hp ((h5 r hr hmr).2 p hp hc)).1 x hx
    generalize hm : S.2 r = m at *
    have hm12 : m < 12 := by rw [← hm]; exact i1 r (by omega)
    refine WP.bnd (s_measureAll (by omega) hK hD h2 h3 h4) (fun S1 ⟨g1, g2⟩ => ?_)
    have e1r : S1.2 r = m := by
      rw [g1.1]
      show va_up S.2 10 m r = m
      unfold va_up
      rw [if_neg (by omega)]; exact hm
    rw [e1r]
    have h46 : TA m + 7 ≠ 46 := TA_ne m 7 (by omega) (by simp)
    have c1 : ∀ c, c ∉ maA → S1.1 c = S.1 c := fun c hc => g1.2 c hc
    have n2 : ∀ j, j ≠ 10 → S1.2 j = S.2 j := fun j hj => by
      rw [g1.1]
      show va_up S.2 10 m j = S.2 j
      unfold va_up
      rw [if_neg hj]
    have hTab : ∀ sp, spt (cF r) sp → Tab (cF r) (mF r) ab (nF r) Y sp = Tab (cF r) (mF r) ab (nF r) (Xs (Fx nF cF mF ab)) sp := fun sp hsp => Tab_X (hW r hr) (fun p hp hc y y1 y2 => by
      have e1 := hcal p hp hc y (by omega)
      rw [h4 y (by omega)] at e1
      exact (eC_inj (h3 y) (hle y)).mp e1) 61 sp (by omega) hsp
    have hCT : CT m (nF r) B (cF r) (mF r) bn fs kp ag ab (Xs (Fx nF cF mF ab)) (st_p S1 11 m) := by
      refine ⟨?_, ⟨?_, ?_⟩, ?_, ?_, ?_⟩
      · exact TD.mvC (T := st_p S1 11 m) hD (A := maA) (fun c hc => c1 c hc) (by decide)
      · show va_up S1.2 11 m 10 = m
        unfold va_up
        rw [if_neg (by omega), g1.1]
        show va_up S.2 10 m 10 = m
        unfold va_up
        rw [if_pos rfl]
      · show va_up S1.2 11 m 11 = m
        unfold va_up
        rw [if_pos rfl]
      · intro k j hk hj
        show (bt (S1.1 15 k) j = true ↔ _)
        rw [c1 15 (by decide)]; exact h2 k j hk hj
      · intro b b1 b2 k b3 b4 s c s1 c1'
        have := g2 b b1 b2 k b3 b4 s c s1 c1'
        show S1.1 30 (rix ag b k s + c) = _
        rw [this]
        show eC (Tab (cF r) (mF r) ab (nF r) Y (fs b) (k + 1) s c) = eC (Tab (cF r) (mF r) ab (nF r) (Xs (Fx nF cF mF ab)) (fs b) (k + 1) s c)
        rw [hTab (fs b) (hK.2.2.1 b b2)]
      · intro p hp hc x hx
        show S1.1 19 x = _
        rw [c1 19 (by decide)]; exact hcal p hp hc x hx
    rw [if_neg (show ¬ (nI r < 0 ∨ 8 ≤ r) from fun z => z.elim (nI_pos (by omega)) (by omega))]
    refine WP.bnd (s_traceAll (by omega) hK (SI_Xs hW) hCT) (fun T ⟨t1, t2⟩ => WP.ret ?_)
    have u0 : ∀ c, c ≠ 0 → (st_i T 0 12 (T.1 0 12 ||| (1 <<< (nI r &&& 31)))).1 c = T.1 c := fun c hc => si_nx _ _ hc
    have u0j : ∀ j, j ≠ 12 → (st_i T 0 12 (T.1 0 12 ||| (1 <<< (nI r &&& 31)))).1 0 j = T.1 0 j := fun j hj => si_ni _ _ hj
    have u12 : (st_i T 0 12 (T.1 0 12 ||| (1 <<< (nI r &&& 31)))).1 0 12 = T.1 0 12 ||| (1 <<< (nI r &&& 31)) := si_at _ _ _ _
    have u2 : (st_i T 0 12 (T.1 0 12 ||| (1 <<< (nI r &&& 31)))).2 = T.2 := rfl
    generalize st_i T 0 12 (T.1 0 12 ||| (1 <<< (nI r &&& 31))) = U at u0 u0j u12 u2 ⊢
    have t0 : ∀ c, c ∉ [36, 46, TA m, TA m + 7] → c ∉ maA → T.1 c = S.1 c := fun c h1 h2 => (t1.2.1 c h1).trans (c1 c h2)
    have T0 : T.1 0 = S.1 0 := t0 0 (trf_ne m (by decide) (by omega) (by omega)) (by decide)
    have ta_ma : ∀ m' o, o < 9 → TA m' + o ∉ maA := fun m' o ho z => by
      have : ∀ c, c ∈ maA → c ∈ nT := by decide
      exact TA_ne m' o ho (this _ z) rfl
    have ta0 : ∀ m' o, o < 9 → TA m' + o ≠ 0 := fun m' o ho => TA_ne m' o ho (by simp)
    have hU2 : ∀ j, j ≠ 10 → j ≠ 11 → U.2 j = S.2 j := fun j a b => by
      rw [u2, t1.1]
      show va_up S1.2 11 m j = S.2 j
      unfold va_up
      rw [if_neg b, n2 j a]
    have inj12 : ∀ m', TA m' = TA m ∨ (∀ o, o < 9 → TA m' + o ∉ [36, 46, TA m, TA m + 7]) := fun m' => by
      have key : ∀ a, a < 12 → TA a = TA m ∨ (∀ o, o < 9 → TA a + o ∉ [36, 46, TA m, TA m + 7]) := fun a ha => by
        by_cases w : a = m
        · exact Or.inl (by rw [w])
        · refine Or.inr (fun o ho z => ?_)
          have h1 := TA_ne a o ho (c := 36) (by simp)
          have h2 := TA_ne a o ho (c := 46) (by simp)
          have h3 := TA_dis a ha m hm12 w o ho 0 (by omega)
          have h4 := TA_dis a ha m hm12 w o ho 7 (by omega)
          simp only [List.mem_cons, List.not_mem_nil, or_false] at z
          omega
      exact TA_cases (P := fun t => t = TA m ∨ ∀ o, o < 9 → t + o ∉ [36, 46, TA m, TA m + 7]) (fun a ha => key a ha) m'
    have hCF : CF S U := by
      refine ⟨hU2, fun c hc => ?_, fun c hc => ?_, fun j h1 h2 => by rw [u0j j h2, T0], fun m' o h1 h2 h3 => ?_, fun m' j hj => ?_⟩
      · have hlt0 := TA_lt m 0 (by omega)
        have hlt := TA_lt m 7 (by omega)
        rw [u0 c (by omega), t0 c (fun z => by simp only [List.mem_cons, List.not_mem_nil, or_false] at z; omega) (fun z => by unfold maA at z; simp at z; omega)]
      · have hc' : c ∈ nT ∧ c ≠ 36 ∧ c ≠ 46 ∧ c ≠ 0 ∧ c ∉ maA := by
          simp only [List.mem_cons, List.not_mem_nil, or_false] at hc
          rcases hc with z | z | z | z | z <;> subst z <;> decide
        rw [u0 c hc'.2.2.2.1, t0 c (trf_ne m hc'.1 hc'.2.1 hc'.2.2.1) hc'.2.2.2.2]
      · rw [u0 _ (ta0 m' o h1)]
        refine t0 _ ?_ (ta_ma m' o h1)
        rcases inj12 m' with w | w
        · rw [w]; exact trf_row' m (by omega) h1 h3
        · exact w o h1
      · rw [show U.1 (TA m') = T.1 (TA m') from u0 _ (ta0 m' 0 (by omega))]
        rcases inj12 m' with w | w
        · rw [w, t1.2.2.1 j hj]
          show S1.1 (TA m) j = S.1 (TA m) j
          rw [show S1.1 (TA m) = S.1 (TA m) from c1 _ (ta_ma m 0 (by omega))]
        · rw [show T.1 (TA m') = S.1 (TA m') from t0 _ (w 0 (by omega)) (ta_ma m' 0 (by omega))]
    refine ⟨hCF, ⟨⟨fun q hq => (h1 q hq).cf hq hCF, fun k j hk hj => by rw [hCF.2.2.1 15 (by simp)]; exact h2 k j hk hj, ⟨Y, h3, fun x hx => ?_⟩, fun q hq hb => ?_⟩, ⟨fun q hq => by rw [hU2 q (by omega) (by omega)]; exact i1 q hq, fun q p hq hp => by rw [hU2 q (by omega) (by omega), hU2 p (by omega) (by omega)]; exact i2 q p hq hp⟩, fun q hq hb => ?_⟩, ?_⟩
    · rw [u0 19 (by omega), t0 19 (trf_ne m (by decide) (by omega) (by omega)) (by decide)]; exact h4 x hx
    · rw [u0j 11 (by omega), T0] at hb ⊢
      rw [u0 19 (by omega), t0 19 (trf_ne m (by decide) (by omega) (by omega)) (by decide)]
      exact h5 q hq hb
    · rw [u12, b_or, b_one (by omega) (by omega), Bool.or_eq_true, decide_eq_true_iff, T0] at hb
      rw [hU2 q (by omega) (by omega)]
      by_cases w : q = r
      · subst w
        rw [hm]
        exact t2.mv (u0 _ (ta0 m 7 (by omega))) (u0 _ (ta0 m 2 (by omega))) (by rw [show U.1 (TA m) = T.1 (TA m) from u0 _ (ta0 m 0 (by omega))])
      · have hb : bt (S.1 0 12) q = true := hb.resolve_right w
        have hne : S.2 q ≠ m := fun z => w (i2 q r (by omega) (by omega) (by rw [z, hm]))
        have hq12 := i1 q (by omega)
        have no : ∀ o, o < 9 → TA (S.2 q) + o ∉ [36, 46, TA m, TA m + 7] := fun o ho z => by
          have h1 := TA_ne (S.2 q) o ho (c := 36) (by simp)
          have h2 := TA_ne (S.2 q) o ho (c := 46) (by simp)
          have h3 := TA_dis (S.2 q) hq12 m hm12 hne o ho 0 (by omega)
          have h4 := TA_dis (S.2 q) hq12 m hm12 hne o ho 7 (by omega)
          simp only [List.mem_cons, List.not_mem_nil, or_false] at z
          omega
        refine (h6 q hq hb).mv ?_ ?_ ?_
        · rw [u0 _ (ta0 _ 7 (by omega)), t0 _ (no 7 (by omega)) (ta_ma _ 7 (by omega))]
        · rw [u0 _ (ta0 _ 2 (by omega)), t0 _ (no 2 (by omega)) (ta_ma _ 2 (by omega))]
        · rw [show U.1 (TA (S.2 q)) = T.1 (TA (S.2 q)) from u0 _ (ta0 _ 0 (by omega)), show T.1 (TA (S.2 q)) = S.1 (TA (S.2 q)) from t0 _ (no 0 (by omega)) (ta_ma _ 0 (by omega))]
    · rw [u12, b_or, b_one (by omega) (by omega), Bool.or_eq_true]
      exact Or.inr (decide_eq_true rfl)
/-- measured and traced -/
theorem s_mtrace (hN : 2000 < N) (h : KC nF cF mF ab S) {r : Nat} (hr : r < 8) : WP ((fX7_measure N (nI r) S).bind (fun q => fX7_trace N (nI r) q)) (fun T => CF S T ∧ KC nF cF mF ab T ∧ bt (T.1 0 12) r = true) := by
  have h' := h
  obtain ⟨⟨h1, h2, ⟨X, h3, h4⟩, h5⟩, _⟩ := h'
  refine WP.bnd (s_measure hN h1 h2 h3 h4 h5 hr) (fun S1 g => ?_)
  have hcp : CP S S1 := ⟨g.1, g.2.1⟩
  have hK1 : KC nF cF mF ab S1 := h.cp hcp ⟨fun q hq => (h1 q hq).mv hq g.1 (by decide), fun k j a b => by rw [g.1.2 15 (by decide)]; exact h2 k j a b, g.2.2.2.2.1, g.2.2.2.2.2⟩
  exact (s_trace hN hK1 hr g.2.2.1).imp (fun T ⟨t1, t2, t3⟩ => ⟨hcp.cf.trans t1, t2, t3⟩)
theorem c_lost (hN : 2000 < N) (h : KC nF cF mF ab S) {r : Nat} (hr : r < 8) : WP (fX7_lost N (nI r) S) (fun z => CF S z.2 ∧ KC nF cF mF ab z.2 ∧ vLo nF cF mF ab r z.1) := by
  obtain ⟨T, e, t1, t2, t3⟩ := s_mtrace hN h hr
  have hok := t2.2.2 r hr t3
  unfold fX7_lost
  rw [s_isRoutine1 N S hr]
  simp only [Option.bind_some, if_neg z10]
  cases hm : fX7_measure N (nI r) S with
  | none => rw [hm] at e; cases e
  | some q =>
    rw [hm] at e
    have e : fX7_trace N (nI r) q = some T := e
    simp only [Option.bind_some]
    rw [e]
    simp only [Option.bind_some]
    rw [if_neg (nI_in hr (by omega)), nI_cl (by omega)]
    unfold fX5_lostKinds
    simp only [Option.bind_some]
    refine WP.ret ⟨t1, t2, fun x hx => ?_⟩
    show bt (T.1 (TA (T.2 r)) 12) x = true ↔ _
    rw [hok.1 (fun _ _ => False) (fun k => k = x)]
    constructor
    · intro z; exact ⟨hok.2.2 x hx z, Or.inr ⟨x, hok.2.2 x hx z, rfl, z⟩⟩
    · rintro ⟨z1, ⟨p, k, _, z, _⟩ | ⟨k, z2, z3, z4⟩⟩
      · exact z.elim
      · rw [z3] at z4; exact z4
end KCS
