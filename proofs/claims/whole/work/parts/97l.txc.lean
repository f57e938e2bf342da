/-! ===== telling a text, in the first program ===== -/
/-- a refusal has a number -/
def rok (r : Rs) : Prop := ∀ x, r = some (.inr x) → 1 ≤ x.1 ∧ x.1 ≤ 3
theorem rok_l (j : Nat) : rok (some (.inl j)) := fun x h => by cases h
theorem rok_n : rok none := fun x h => by cases h
theorem rok_r {a p : Nat} (h : 1 ≤ a ∧ a ≤ 3) : rok (some (.inr (a, p))) := fun x hx => by cases hx; exact h
theorem rok_i {c : Prop} [Decidable c] {a b : Rs} (ha : rok a) (hb : rok b) : rok (if c then a else b) := by
  by_cases w : c
  · rw [if_pos w]; exact ha
  · rw [if_neg w]; exact hb
theorem rok_m' {f : Nat → Rs} (hf : ∀ j, rok (f j)) (a : Rs) : rok a → rok (match a with
    | some (.inl j) => f j
    | some (.inr x) => some (.inr x)
    | none => none) := by
  intro ha
  match a, ha with
  | none, _ => exact rok_n
  | some (.inr x), ha => exact ha
  | some (.inl j), _ => exact hf j
theorem prS_rok {F : Nat → Rs} {n : Nat} {ch : Nat → Nat} (hF : ∀ i, rok (F i)) : ∀ m i, rok (prS F n ch m i)
  | 0, i => rok_l i
  | m + 1, i => rok_i (rok_m' (fun j => prS_rok hF m j) (F i) (hF i)) (rok_l i)
theorem prL_rok {F : Nat → Bool → Rs} {ch : Nat → Nat} {tk : Bool} (hF : ∀ i b, rok (F i b)) : ∀ m i c, rok (prL F ch tk m i c)
  | 0, i, c => rok_n
  | m + 1, i, c => rok_i (rok_i (rok_r (by omega)) (rok_m' (fun j => prL_rok hF m j (c + 1)) (F (i + 1) true) (hF _ _))) (rok_i (hF _ _) (rok_i (rok_r (by omega)) (rok_l i)))
theorem pr_rok {n : Nat} {ch : Nat → Nat} : ∀ (D mode i d : Nat) (tk kd : Bool), rok (pr n ch D mode i d tk kd)
  | 0, _, _, _, _, _ => rok_n
  | D + 1, mode, i, d, tk, kd => by
    match mode with
    | 0 => exact prS_rok (fun j => pr_rok D 1 j d tk false) 60 i
    | 1 =>
      exact rok_i (rok_i (rok_l _) (rok_r (by omega))) (rok_i (pr_rok D 2 (i + 1) d tk false) (rok_i (rok_i (rok_l _) (rok_r (by omega))) (rok_i (rok_l _) (rok_i (rok_m' (fun j => pr_rok D 2 j d tk false) _ (pr_rok D 2 (i + 1) d tk false)) (rok_i (rok_i (rok_l _) (rok_r (by omega))) (rok_i (pr_rok D 3 (i + 1) d tk false) (rok_i (rok_i (rok_l _) (rok_r (by omega))) (rok_r (by omega)))))))))
    | 2 => exact rok_i (rok_i (rok_m' (f := fun e => if ch e = 125 then some (.inl (e + 1)) else some (.inr (1, e))) (fun e => rok_i (rok_l _) (rok_r (by omega))) _ (pr_rok D 0 (i + 1) (d + 1) (kd || tk) false)) (rok_r (by omega))) (rok_r (by omega))
    | k + 3 => exact rok_m' (fun j => prL_rok (fun k b => pr_rok D 2 k d tk b) 8 j 0) _ (pr_rok D 2 i d tk false)
theorem Rdn.mv {m n : Nat} {ch : Nat → Nat} {S T : St} (h : Rdn m n ch S) (f : ∀ o, o < 9 → T.1 (TA m + o) = S.1 (TA m + o)) : Rdn m n ch T := by
  unfold Rdn NB at *
  rw [show T.1 (TA m) = S.1 (TA m) from f 0 (by omega), f 1 (by omega), f 2 (by omega), f 3 (by omega), f 4 (by omega), f 5 (by omega), f 6 (by omega), f 8 (by omega)]
  exact h
/-- the cells that telling a text leaves -/
def txF (m : Nat) (S T : St) : Prop := (∀ c, c ≠ 0 → c ≠ 1 → c ≠ 3 → (∀ o, o < 9 → c ≠ TA m + o) → T.1 c = S.1 c) ∧ (∀ j, j ≠ 9 → j ≠ 10 → j ≠ 11 → j ≠ 12 → T.1 0 j = S.1 0 j)
def TxN (m : Nat) (a p : Nat) (S T : St) : Prop := txF m S T ∧ (∀ j, j ≠ 9 → T.2 j = S.2 j) ∧ T.1 0 9 = nI a ∧ T.1 0 10 = nI p ∧ T.1 0 11 = S.1 0 11 ∧ T.1 0 12 = S.1 0 12 ∧ T.1 1 1 = 0
def TxY (m n r : Nat) (ch : Nat → Nat) (S T : St) : Prop := txF m S T ∧ (T.2 r = m ∧ T.2 8 = S.2 r ∧ ∀ j, j ≠ r → j ≠ 8 → j ≠ 9 → T.2 j = S.2 j) ∧ T.1 0 9 = 0 ∧ T.1 0 10 = -1 ∧ T.1 1 1 = 0 ∧ Rdn m n ch T ∧ (∀ q, q < 8 → (bt (T.1 0 11) q = true ↔ bt (S.1 0 11) q = true ∧ ¬ cTo T r q)) ∧ ∀ q, q < 8 → (bt (T.1 0 12) q = true ↔ bt (S.1 0 12) q = true ∧ ¬ cTo T r q)
theorem c_text {N r n sz : Nat} {ch : Nat → Nat} {S : St} (hN : 200 < N) (hr : r < 8) (hn : n ≤ 60) (hz : ∀ q, n ≤ q → ch q = 0) (hc : ∀ i, ch i < 256) (hsz : sz ≤ 80) (hns : n ≤ sz) (h1 : S.1 1 1 = nI sz) (hch : ∀ i, i < n → S.1 2 i = nI (ch i)) :
    ∃ res, pr n ch 40 0 0 0 false false = some res ∧ ∃ v S1, fX7_text N (nI r) (nI n) S = some (v, S1) ∧ match res with
      | .inl j => (j = n → v = 0 ∧ TxY (S.2 8) n r ch S S1) ∧ (j ≠ n → j < n ∧ ch j = 125 ∧ v = 100 * nI 1 + nI j ∧ TxN (S.2 8) 1 j S S1)
      | .inr x => v = 100 * nI x.1 + nI x.2 ∧ TxN (S.2 8) x.1 x.2 S S1 := by
  generalize hm : S.2 8 = m
  have h0t : ∀ o, o < 9 → TA m + o ≠ 0 := fun o ho => TA_ne m o ho (by simp)
  have h1t : ∀ o, o < 9 → TA m + o ≠ 1 := fun o ho => TA_ne m o ho (by simp)
  obtain ⟨A, eA, a1, a2, a3, a4, a5, a6⟩ := s_copy (N := N) (m := m) (S := S) (ch := ch) (by omega) hn hsz hns h1 hch
  have ro : ∀ o, o < 9 → (st_i A 1 1 0).1 (TA m + o) = A.1 (TA m + o) := fun o ho => si_nx _ _ (h1t o ho)
  have ro0 : (st_i A 1 1 0).1 (TA m) = A.1 (TA m) := ro 0 (by omega)
  obtain ⟨res, hres, T, eT, t1, t2⟩ := rd_top (N := N) (m := m) (S := st_i A 1 1 0) (by omega) hn hz hc (by rw [ro0]; exact a2) (fun i hi => by rw [ro 1 (by omega)]; exact a3 i hi) (by rw [ro0]; exact a4) (by rw [ro0]; exact a5) (by rw [ro0]; exact a6)
  refine ⟨res, hres, ?_⟩
  -- the frame up to here
  have hT2 : ∀ j, j ≠ 9 → T.2 j = S.2 j := fun j hj => by
    rw [t1.1]
    show va_up (st_i A 1 1 0).2 9 m j = S.2 j
    unfold va_up
    rw [if_neg hj]
    show A.2 j = S.2 j
    rw [a1.1]
  have hT1 : ∀ c, c ≠ 1 → c ≠ 3 → (∀ o, o < 9 → c ≠ TA m + o) → T.1 c = S.1 c := fun c c1 c3 ct => by
    rw [t1.2 c (fun z => ?_)]
    · show (st_i A 1 1 0).1 c = S.1 c
      rw [si_nx _ _ c1, a1.2 c (fun z => ?_)]
      have h0 := ct 0 (by omega)
      have h1 := ct 1 (by omega)
      simp at z
      omega
    · have h0 := ct 0 (by omega)
      have h2 := ct 2 (by omega)
      have h3 := ct 3 (by omega)
      have h4 := ct 4 (by omega)
      have h5 := ct 5 (by omega)
      have h6 := ct 6 (by omega)
      have h8 := ct 8 (by omega)
      unfold rdF at z
      simp only [List.mem_cons, List.not_mem_nil, or_false] at z
      omega
  have hT11 : T.1 1 1 = 0 := by
    rw [t1.2 1 (fun z => ?_)]
    · exact si_at A 1 1 0
    · have h0 := h1t 0 (by omega)
      have h2 := h1t 2 (by omega)
      have h3 := h1t 3 (by omega)
      have h4 := h1t 4 (by omega)
      have h5 := h1t 5 (by omega)
      have h6 := h1t 6 (by omega)
      have h8 := h1t 8 (by omega)
      unfold rdF at z
      simp only [List.mem_cons, List.not_mem_nil, or_false] at z
      omega
  have hT0 : T.1 0 = S.1 0 := hT1 0 (by omega) (by omega) (fun o ho => Ne.symm (h0t o ho))
  -- the told number and place
  have u9 : (st_i (st_i T 0 9 (T.1 3 1)) 0 10 (T.1 3 2)).1 0 9 = T.1 3 1 := by rw [si_ni _ _ (by omega), si_at]
  have u10 : (st_i (st_i T 0 9 (T.1 3 1)) 0 10 (T.1 3 2)).1 0 10 = T.1 3 2 := si_at _ _ _ _
  have uj : ∀ j, j ≠ 9 → j ≠ 10 → (st_i (st_i T 0 9 (T.1 3 1)) 0 10 (T.1 3 2)).1 0 j = S.1 0 j := fun j b1 b2 => by rw [si_ni _ _ b2, si_ni _ _ b1, hT0]
  have uc : ∀ c, c ≠ 0 → (st_i (st_i T 0 9 (T.1 3 1)) 0 10 (T.1 3 2)).1 c = T.1 c := fun c c0 => by rw [si_nx _ _ c0, si_nx _ _ c0]
  have u2 : ∀ j, j ≠ 9 → (st_i (st_i T 0 9 (T.1 3 1)) 0 10 (T.1 3 2)).2 j = S.2 j := hT2
  have ehead : fX7_text N (nI r) (nI n) S = (if T.1 3 1 = 0 then (if nI r < 0 ∨ 8 ≤ Int32.toNatClampNeg (nI r) then none else (if nI r < 0 ∨ 8 ≤ Int32.toNatClampNeg (nI r) then none else (fX7_forget N (nI r) (st_p (st_p (st_i (st_i T 0 9 (T.1 3 1)) 0 10 (T.1 3 2)) (Int32.toNatClampNeg (nI r)) ((st_i (st_i T 0 9 (T.1 3 1)) 0 10 (T.1 3 2)).2 8)) 8 ((st_i (st_i T 0 9 (T.1 3 1)) 0 10 (T.1 3 2)).2 (Int32.toNatClampNeg (nI r))))).bind (fun q10 => some (0, q10)))) else some (((100 * (T.1 3 1)) + (T.1 3 2)), (st_i (st_i T 0 9 (T.1 3 1)) 0 10 (T.1 3 2)))) := by
    unfold fX7_text fX4_size fX4_clear fX3_number fX3_place
    rw [s_isRoutine1 N S hr]
    simp only [Option.bind_some, if_neg z10]
    rw [if_neg (nI_pos (by omega)), if_neg (show ¬ (60 : Int32) < nI n from fun z => by have := (nI_ltI (a := 60) (b := n) (by omega) (by omega)).mp z; omega), h1, if_pos (nI_le hns (by omega)), hm, eA]
    simp only [Option.bind_some]
    rw [show (st_i A 1 1 0).2 8 = m from by show A.2 8 = m; rw [a1.1]; exact hm, eT]
    simp only [Option.bind_some]
    rw [show (st_i T 0 9 (T.1 3 1)).1 3 2 = T.1 3 2 from by rw [si_nx _ _ (by omega)], u9, u10]
  have neg : ∀ a p, T.1 3 1 = nI a → T.1 3 2 = nI p → 1 ≤ a → a ≤ 3 → ∃ v S1, fX7_text N (nI r) (nI n) S = some (v, S1) ∧ v = 100 * nI a + nI p ∧ TxN m a p S S1 := fun a p b1 b2 b3 b4 => by
    rw [ehead, if_neg (by rw [b1]; exact fun z => by have := (nI_eq (a := a) (b := 0) (by omega) (by omega)).mp z; omega)]
    refine ⟨_, _, rfl, by rw [b1, b2], ⟨fun c c0 c1 c3 ct => by rw [uc c c0]; exact hT1 c c1 c3 ct, fun j b1 b2 _ _ => uj j b1 b2⟩, u2, by rw [u9, b1], by rw [u10, b2], uj 11 (by omega) (by omega), uj 12 (by omega) (by omega), by rw [uc 1 (by omega)]; exact hT11⟩
  cases res with
  | inr x =>
    obtain ⟨b3, b4⟩ := pr_rok 40 0 0 0 false false x hres
    exact neg x.1 x.2 t2.1 t2.2 b3 b4
  | inl j =>
    obtain ⟨t3, t4⟩ := t2
    by_cases w : j = n
    · obtain ⟨c1, c2, c3⟩ := t3 w
      rw [ehead, if_pos c1, if_neg (nI_in hr (by omega)), if_neg (nI_in hr (by omega)), nI_cl (by omega)]
      generalize hU : st_i (st_i T 0 9 (T.1 3 1)) 0 10 (T.1 3 2) = U at *
      have eU8 : U.2 8 = m := by rw [u2 8 (by omega), hm]
      have eUr : U.2 r = S.2 r := u2 r (by omega)
      rw [eU8, eUr]
      obtain ⟨V, eV, f1, f2, f3, f4⟩ := s_forget (N := N) (S := st_p (st_p U r m) 8 (S.2 r)) (by omega) hr
      rw [eV]
      have hV2 : V.2 = va_up (va_up U.2 r m) 8 (S.2 r) := f1.1
      have hVc : ∀ c, c ≠ 0 → V.1 c = U.1 c := fun c c0 => f1.2 c (by simp [c0])
      have hcl : clS V = clS (st_p (st_p U r m) 8 (S.2 r)) := by
        funext q
        unfold clS
        have h00 : ∀ k, TA k ≠ 0 := fun k => TA_ne k 0 (by omega) (by simp)
        rw [hV2, hVc _ (h00 _)]
        rfl
      have hto : ∀ q, cTo V r q ↔ cTo (st_p (st_p U r m) 8 (S.2 r)) r q := fun q => by unfold cTo; rw [hcl]
      refine ⟨0, V, rfl, fun _ => ⟨rfl, ⟨fun c c0 c1 c3 ct => by rw [hVc c c0, uc c c0]; exact hT1 c c1 c3 ct, fun j b1 b2 b3 b4 => by rw [f2 j b3 b4]; exact uj j b1 b2⟩, ⟨?_, ?_, fun j b1 b2 b3 => ?_⟩, ?_, ?_, ?_, c3.mv (fun o ho => by rw [hVc _ (h0t o ho), uc _ (h0t o ho)]), fun q hq => ?_, fun q hq => ?_⟩, fun z => absurd w z⟩
      · rw [hV2]
        unfold va_up
        rw [if_neg (by omega), if_pos rfl]
      · rw [hV2]
        unfold va_up
        rw [if_pos rfl]
      · rw [hV2]
        unfold va_up
        rw [if_neg b2, if_neg b1]
        exact u2 j b3
      · rw [f2 9 (by omega) (by omega)]
        show U.1 0 9 = 0
        rw [u9, c1]
      · rw [f2 10 (by omega) (by omega)]
        show U.1 0 10 = -1
        rw [u10, c2]
      · rw [hVc 1 (by omega), uc 1 (by omega)]; exact hT11
      · rw [f3 q hq, hto q]
        show bt (U.1 0 11) q = true ∧ _ ↔ _
        rw [uj 11 (by omega) (by omega)]
      · rw [f4 q hq, hto q]
        show bt (U.1 0 12) q = true ∧ _ ↔ _
        rw [uj 12 (by omega) (by omega)]
    · obtain ⟨c1, c2, c3, c4⟩ := t4 w
      obtain ⟨v, S1, e1, e2, e3⟩ := neg 1 j c3 c4 (by omega) (by omega)
      exact ⟨v, S1, e1, fun z => absurd z w, fun _ => ⟨c1, c2, e2, e3⟩⟩
