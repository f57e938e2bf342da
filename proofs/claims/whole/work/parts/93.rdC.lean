/-! ===== the first program's reader: a whole text ===== -/
section R0
variable {N m : Nat} {S : St}
theorem r_open0 (hB : S.1 (TA m) 8 = 0) : ∃ T, fX5_openBlock N m 0 (-1) S = some (0, T) ∧ Fr (rdF m) S T ∧ T.1 3 = S.1 3 ∧ T.1 (TA m + 8) = S.1 (TA m + 8) ∧ T.1 (TA m) = upd (S.1 (TA m)) 8 1 ∧ T.1 (TA m + 2) = S.1 (TA m + 2) ∧ T.1 (TA m + 3) 0 = 0 ∧ T.1 (TA m + 5) 0 = -1 ∧ T.1 (TA m + 6) 0 = 0 := by
  have h3' : ∀ o, o < 9 → 3 ≠ TA m + o := fun o ho q => TA_ne m o ho (c := 3) (by simp) q.symm
  have c0 : Int32.toNatClampNeg 0 = 0 := by decide
  have hx : ¬ ((0 : Int32) < 0 ∨ 31 ≤ Int32.toNatClampNeg 0) := by decide
  unfold fX5_openBlock
  rw [hB, if_pos (show (0 : Int32) < 31 by decide), if_neg hx, if_neg hx, if_neg hx, if_neg hx, if_pos (show (0 : Int32) ≤ 0 by decide), c0]
  refine ⟨_, rfl, ?_, ?_, ?_, ?_, ?_, ?_, ?_, ?_⟩
  · exact (((((Fr.refl _ S).i (by unfold rdF; simp)).i (by unfold rdF; simp)).i (by unfold rdF; simp)).i (by unfold rdF; simp)).i (by unfold rdF; simp)
  · rw [si_nx _ _ (h3' 6 (by omega)), si_nx _ _ (h3' 5 (by omega)), si_nx _ _ (h3' 4 (by omega)), si_nx _ _ (h3' 3 (by omega)), si_nx _ _ (show 3 ≠ TA m from h3' 0 (by omega))]
  · rw [si_nx _ _ (by omega), si_nx _ _ (by omega), si_nx _ _ (by omega), si_nx _ _ (by omega), si_nx _ _ (by omega)]
  · rw [si_nx _ _ (by omega), si_nx _ _ (by omega), si_nx _ _ (by omega), si_nx _ _ (by omega), si_c, sc_same]
    rfl
  · rw [si_nx _ _ (by omega), si_nx _ _ (by omega), si_nx _ _ (by omega), si_nx _ _ (by omega), si_nx _ _ (by omega)]
  · rw [si_nx _ _ (by omega), si_nx _ _ (by omega), si_nx _ _ (by omega), si_at]
  · rw [si_nx _ _ (by omega), si_at]
  · rw [si_at]; decide
end R0
/-- a text that was read -/
def Rdn (m n : Nat) (ch : Nat → Nat) (T : St) : Prop :=
  (T.1 (TA m) 1 = nI n ∧ (∀ i, i < n → T.1 (TA m + 1) i = nI (ch i)) ∧ T.1 (TA m) 8 = nI (1 + cb ch n) ∧ T.1 (TA m) 10 = nI (cT ch n) ∧ 2 * cb ch n ≤ n ∧ 3 * cT ch n ≤ n) ∧ (∀ p, p < 32 → (bt (T.1 (TA m) 11) p = true ↔ p < 8 ∧ clb ch p)) ∧
  (T.1 (TA m + 3) 0 = 0 ∧ T.1 (TA m + 4) 0 = nI n ∧ T.1 (TA m + 5) 0 = -1 ∧ T.1 (TA m + 6) 0 = 0 ∧ BOk ch (T.1 (TA m + 5)) (T.1 (TA m + 6)) 0 0 n) ∧ (∀ q, q < n → Tkr ch q → T.1 (TA m + 8) (cT ch q) = nI q) ∧ (∀ q, q < n → ch q = 123 → NB m ch q T)
theorem rd_top {N m n : Nat} {ch : Nat → Nat} {S : St} (hN : 70 ≤ N) (hn : n ≤ 60) (hz : ∀ q, n ≤ q → ch q = 0) (hc : ∀ i, ch i < 256) (h1 : S.1 (TA m) 1 = nI n) (hch : ∀ i, i < n → S.1 (TA m + 1) i = nI (ch i)) (h8 : S.1 (TA m) 8 = 0) (h10 : S.1 (TA m) 10 = 0) (h11 : S.1 (TA m) 11 = 0) :
    ∃ r, pr n ch 40 0 0 0 false false = some r ∧ WP (fX3_read N m S) (fun T => Fr (rdF m) (st_p S 9 m) T ∧ match r with
      | .inl j => (j = n → T.1 3 1 = 0 ∧ T.1 3 2 = -1 ∧ Rdn m n ch T) ∧ (j ≠ n → j < n ∧ ch j = 125 ∧ T.1 3 1 = nI 1 ∧ T.1 3 2 = nI j)
      | .inr x => T.1 3 1 = nI x.1 ∧ T.1 3 2 = nI x.2) := by
  have h3' : ∀ o, o < 9 → 3 ≠ TA m + o := fun o ho q => TA_ne m o ho (c := 3) (by simp) q.symm
  have hr0 : ∀ o, o < 9 → (st_i (st_i (st_p S 9 m) 3 1 0) 3 2 (-1)).1 (TA m + o) = S.1 (TA m + o) := fun o ho => by
    rw [si_nx _ _ (Ne.symm (h3' o ho)), si_nx _ _ (Ne.symm (h3' o ho))]; rfl
  have hr00 : (st_i (st_i (st_p S 9 m) 3 1 0) 3 2 (-1)).1 (TA m) = S.1 (TA m) := hr0 0 (by omega)
  have e31 : (st_i (st_i (st_p S 9 m) 3 1 0) 3 2 (-1)).1 3 1 = 0 := by rw [si_ni _ _ (by omega), si_at]
  have e32 : (st_i (st_i (st_p S 9 m) 3 1 0) 3 2 (-1)).1 3 2 = -1 := si_at _ _ _ _
  have e9 : (st_i (st_i (st_p S 9 m) 3 1 0) 3 2 (-1)).2 9 = m := by
    show va_up S.2 9 m 9 = m
    unfold va_up
    rw [if_pos rfl]
  have f0 : Fr (rdF m) (st_p S 9 m) (st_i (st_i (st_p S 9 m) 3 1 0) 3 2 (-1)) := ((Fr.refl _ _).i (by unfold rdF; simp)).i (by unfold rdF; simp)
  unfold fX3_read
  rw [e9]
  generalize hg0 : st_i (st_i (st_p S 9 m) 3 1 0) 3 2 (-1) = S0' at hr0 hr00 e31 e32 e9 f0 ⊢
  obtain ⟨T0, eo, a1, a2, a3, a4, a5, a6, a7, a8⟩ := r_open0 (N := N) (m := m) (S := S0') (by rw [hr00]; exact h8)
  have hRt : Rt m n ch T0 := by
    refine ⟨by rw [a1.1]; exact e9, ?_, fun i hi => ?_⟩
    · rw [a4, up_ne (by omega), hr00]; exact h1
    · rw [a1.2 (TA m + 1) (fun q => ?_), hr0 1 (by omega)]
      · exact hch i hi
      · unfold rdF at q
        have h3 := h3' 1 (by omega)
        simp only [List.mem_cons, List.not_mem_nil, or_false] at q
        omega
  have hp : Pq m n ch false 0 0 T0 := by
    refine ⟨⟨hRt, Nat.le_refl _, ?_, ?_, ?_⟩, Or.inl a7⟩
    · rw [a4, up_at]; rfl
    · rw [a4, up_ne (by omega), hr00, h10]; rfl
    · rw [a7]; simp
  have hR := rd_all (N := N) hN hn hz hc 40 0 0 0 false false 0 0 T0 hp (fun _ => Nat.zero_le _) (fun w => absurd w (by omega)) (by omega) (by omega) (by omega) (show 2 * cb ch 0 ≤ 0 ∧ 3 * cT ch 0 ≤ 0 from ⟨Nat.le_refl 0, Nat.le_refl 0⟩) (Or.inr ⟨by omega, rfl⟩)
  rw [eo]
  simp only [Option.bind_some]
  have hR : RdQ m ch 0 0 0 0 T0 (pr n ch 40 0 0 0 false false) (f_rd 40 N 0 0 0 0 0 T0) := hR
  cases hpr : pr n ch 40 0 0 0 false false with
  | none => exact absurd hpr (pr_some 40 0 0 0 false false (by omega) (by omega) (by decide))
  | some r =>
    rw [hpr] at hR
    refine ⟨r, rfl, ?_⟩
    have isB : ∀ T, ∃ b, fX5_isBlock N m 0 T = some (b, T) := fun T => by
      by_cases w : T.1 (TA m) 8 ≤ 0
      · refine ⟨0, ?_⟩
        unfold fX5_isBlock fX5_isBlock_23
        rw [if_neg (show ¬ (0 : Int32) < 0 by decide), if_pos w, if_pos (Or.inl rfl)]
      · refine ⟨1, ?_⟩
        unfold fX5_isBlock fX5_isBlock_23
        rw [if_neg (show ¬ (0 : Int32) < 0 by decide), if_neg w, if_neg (show ¬ (31 : Int32) ≤ 0 by decide), if_pos (Or.inr rfl)]
    -- closing the whole
    have cl : ∀ T : St, T.2 9 = m → ∃ U, fX3_read_56 N 0 T = some U ∧ (U = T ∨ U = st_i T (TA m + 4) 0 (T.1 (TA m) 1)) := fun T hT => by
      obtain ⟨b, hb⟩ := isB T
      unfold fX3_read_56 fX5_length fX5_closeBlock
      rw [hT]
      simp only [Option.bind_some]
      rw [hb]
      simp only [Option.bind_some]
      by_cases w : b = 0
      · rw [if_pos w]; exact ⟨T, rfl, Or.inl rfl⟩
      · rw [if_neg w, if_neg (show ¬ ((0 : Int32) < 0 ∨ 31 ≤ Int32.toNatClampNeg 0) by decide)]
        exact ⟨_, rfl, Or.inr rfl⟩
    have cf : ∀ T U : St, (U = T ∨ U = st_i T (TA m + 4) 0 (T.1 (TA m) 1)) → Fr (rdF m) T U ∧ U.1 3 = T.1 3 := fun T U h => by
      rcases h with h | h
      · rw [h]; exact ⟨Fr.refl _ _, rfl⟩
      · rw [h]; exact ⟨(Fr.refl _ _).i (by unfold rdF; simp), si_nx _ _ (h3' 4 (by omega))⟩
    cases r with
    | inr x =>
      obtain ⟨z, ez, hz1, hz2, hz3, hz4⟩ := hR
      rw [ez]
      simp only [Option.bind_some]
      rw [if_pos hz1]
      have fz := (f0.trans a1).trans hz2
      obtain ⟨U, eU, hU⟩ := cl z.2 (by rw [hz2.1, a1.1]; exact e9)
      obtain ⟨c1, c2⟩ := cf _ _ hU
      exact WP.eq eU ⟨fz.trans c1, by rw [c2]; exact hz3, by rw [c2]; exact hz4⟩
    | inl j =>
      obtain ⟨z, ez, hz1, hz2, hz3⟩ := hR
      have hz3 : BOk ch (z.2.1 (TA m + 5)) (z.2.1 (TA m + 6)) 0 0 j := hz3
      obtain ⟨k1, k2, k3, k4⟩ := pr_ok hn hz 40 0 0 0 false false j (fun _ => Nat.zero_le _) (fun w => absurd w (by omega)) hpr
      have fz := (f0.trans a1).trans hz2.1.1
      have hPz := hz2.pre hp.1
      rw [ez]
      simp only [Option.bind_some]
      rw [if_neg (by rw [hz1, nI_m1 (by omega)]; exact id), show z.2.2 9 = m from hPz.1.1]
      unfold fX5_length
      simp only [Option.bind_some]
      rw [hPz.1.2.1, hz1]
      by_cases w : j = n
      · subst w
        rw [if_pos (nI_le (by omega) (by omega))]
        have hc0 : fX5_closeBlock N m 0 (nI j) z.2 = some (st_i z.2 (TA m + 4) 0 (nI j)) := r_close (b := 0) (nI j) hPz.2.2.1 (by have := hz2.2.1.2.2.1; have : cb ch 0 = 0 := rfl; omega) (by omega)
        have eU : fX3_read_56 N 0 z.2 = some (st_i z.2 (TA m + 4) 0 (nI j)) := by
          unfold fX3_read_56 fX5_length
          rw [show z.2.2 9 = m from hPz.1.1]
          simp only [Option.bind_some]
          rw [hPz.1.2.1, hc0]
          rfl
        have hr : ∀ c, c ≠ 4 → (st_i z.2 (TA m + 4) 0 (nI j)).1 (TA m + c) = z.2.1 (TA m + c) := fun c hc => si_nx _ _ (by omega)
        have h0 : (st_i z.2 (TA m + 4) 0 (nI j)).1 (TA m) = z.2.1 (TA m) := hr 0 (by omega)
        have c3 : (st_i z.2 (TA m + 4) 0 (nI j)).1 3 = z.2.1 3 := si_nx _ _ (h3' 4 (by omega))
        have z3 : z.2.1 3 = S0'.1 3 := hz2.1.2.1.trans a2
        obtain ⟨y3, y4, y5, y6⟩ := hz2.2.2.2.1 0 (Nat.zero_le _)
        refine WP.eq eU ⟨fz.i (by unfold rdF; simp), fun _ => ⟨by rw [c3, z3]; exact e31, by rw [c3, z3]; exact e32, ⟨by rw [h0]; exact hPz.1.2.1, fun i hi => ?_, by rw [h0]; exact hPz.2.2.1, by rw [h0]; exact hPz.2.2.2.1, ?_, ?_⟩, fun p hp' => ?_, ⟨?_, si_at _ _ _ _, ?_, ?_, ?_⟩, fun q hq ht => ?_, fun q hq hb => ?_⟩, fun w => absurd rfl w⟩
        · rw [hr 1 (by omega)]; exact hPz.1.2.2 i hi
        · have := hz2.2.1.2.2.1
          have : cb ch 0 = 0 := rfl
          omega
        · have := hz2.2.1.2.2.2
          have : cT ch 0 = 0 := rfl
          omega
        · rw [h0, hz2.2.2.1 p hp', a4, up_ne (by omega), hr00, h11]
          constructor
          · rintro (g | ⟨g, q, g1, g2, g3, g4⟩)
            · rw [b_0] at g; cases g
            · exact ⟨g, q, g3, g4⟩
          · rintro ⟨g, q, g3, g4⟩
            refine Or.inr ⟨g, q, Nat.zero_le _, ?_, g3, g4⟩
            rcases Nat.lt_or_ge q j with u | u
            · exact u
            · rw [hz q u] at g3; omega
        · rw [hr 3 (by omega), y3]; exact a6
        · rw [hr 5 (by omega), y5]; exact a7
        · rw [hr 6 (by omega)]
          rcases hz2.2.2.2.2.1 with g | ⟨_, g⟩
          · rw [g]; exact a8
          · exact absurd a7 g
        · rw [hr 5 (by omega), hr 6 (by omega)]; exact hz3
        · rw [hr 8 (by omega)]; exact hz2.2.2.2.2.2.2.2.1 q (Nat.zero_le _) hq ht
        · obtain ⟨g1, g2, g3, g4⟩ := hz2.2.2.2.2.2.2.2.2 q (Nat.zero_le _) hq hb
          have := cb_y hb
          unfold NB
          rw [hr 2 (by omega), hr 3 (by omega), hr 5 (by omega), hr 6 (by omega), si_ni _ _ (show cb ch (q + 1) ≠ 0 by omega)]
          exact ⟨g1, g2, g3, g4⟩
      · have hjn : j < n := by omega
        rw [if_neg (nI_ge hjn (by omega))]
        obtain ⟨y, ey, hy1, hy2, hy3, hy4⟩ := r_refuse (N := N) (m := m) (S := z.2) 1 j
        have ey : fX3_refuse N 1 (nI j) z.2 = some y := ey
        rw [ey]
        simp only [Option.bind_some]
        obtain ⟨U, eU, hU⟩ := cl y.2 (by rw [hy2.1]; exact hPz.1.1)
        obtain ⟨c1, c2⟩ := cf _ _ hU
        refine WP.eq eU ⟨(fz.trans hy2).trans c1, fun g => absurd g w, fun _ => ⟨hjn, ?_, by rw [c2]; exact hy3, by rw [c2]; exact hy4⟩⟩
        have hps : prS (fun j => pr n ch 39 1 j 0 false false) n ch 60 0 = some (.inl j) := hpr
        rcases prS_end (fun i j' hi h => (pr_ok hn hz 39 1 i 0 false false j' (fun w => absurd w (by omega)) (fun _ => hi) h).2.2.2.1) 60 0 j hps with g | g | g
        · omega
        · exact g
        · omega
