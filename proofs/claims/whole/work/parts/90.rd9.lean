/-! ===== the first program's reader follows the pure one: a statement ===== -/
theorem bind_idp (o : Option (Int32 × St)) : o.bind (fun q => some (q.1, q.2)) = o := by cases o <;> rfl
def SB (m o b : Nat) (T : St) : Prop := (T.1 (TA m + 6) b = 1 → T.1 (TA m + 6) o = 1) ∧ T.1 (TA m + 5) b = T.1 (TA m + 5) o
theorem SB.mv {m : Nat} {ch : Nat → Nat} {o b j k : Nat} {U V : St} (h : SB m o b U) (hb : b ≤ cb ch j) (hbo : b ≠ o) (ho : o ≤ cb ch j) (hP : Pst m ch o j k U V) : SB m o b V := by
  have hK := hP.2.2.2.1
  unfold SB
  rw [(hK b hb).2.2.1, (hK o ho).2.2.1, (hK b hb).2.2.2 hbo]
  refine ⟨fun z => ?_, h.2⟩
  rcases hP.2.2.2.2.1 with w | ⟨w, _⟩
  · rw [w]; exact h.1 z
  · exact w
theorem Ext.sb {m : Nat} {ch : Nat → Nat} {o i j : Nat} {S T : St} (h : Ext m ch 2 o (-1) i j S T) (hP : Pst m ch o i j S T) (ho : o ≤ cb ch i) : SB m o (cb ch (i + 1)) T := by
  obtain ⟨h1, h2, h3⟩ := h
  exact ⟨h2 rfl, by rw [h1, if_pos rfl, (hP.2.2.2.1 o ho).2.2.1]⟩
theorem BO1.lf {ch : Nat → Nat} {r5 r6 : Nat → Int32} {o i j : Nat} (h : ch i ≠ 63 ∧ ch i ≠ 42 ∧ ch i ≠ 84) (h94 : ch i = 94 → r6 o = 1) : BO1 ch r5 r6 o i j := by
  refine ⟨h94, fun q _ _ hs => ?_, fun t _ _ hs => ?_⟩
  · rcases hs with ⟨a, _⟩ | ⟨a, _⟩ | ⟨a, _⟩
    · exact absurd a h.1
    · exact absurd a h.2.1
    · exact absurd a h.2.2
  · exact absurd hs.1 h.2.2
theorem rd_st {N m n d o i : Nat} {ch : Nat → Nat} {tk : Bool} {F : Nat → Int32 → Int32 → Int32 → Int32 → St → Option (Int32 × St)} {G2 G3 : Nat → Rs} {S : St} (hn : n ≤ 60) (hz : ∀ q, n ≤ q → ch q = 0) (hc : ∀ i, ch i < 256) (hi : i < n) (hp : Pq m n ch tk o i S) (hb : Bnd ch 1 i)
    (hF2 : ∀ k T, k ≤ 61 → Pq m n ch tk o k T → Bnd ch 2 k → RdQ m ch 2 o (-1) k T (G2 k) (F 2 (nI k) (nI d) (nI o) (-1) T))
    (hF3 : ∀ k T, k ≤ 61 → Pq m n ch tk o k T → Bnd ch 3 k → RdQ m ch 3 o 0 k T (G3 k) (F 3 (nI k) (nI d) (nI o) 0 T))
    (ok2 : ∀ k j, G2 k = some (.inl j) → pOk n ch 2 k j) :
    RdQ m ch 1 o 0 i S (if ch i = 33 then (if ltr (ch (i + 1)) then some (.inl (i + 2)) else some (.inr (1, i + 1)))
        else if ch i = 42 then G2 (i + 1)
        else if ch i = 43 ∨ ch i = 45 then (if ch (i + 1) = 48 ∨ ch (i + 1) = 49 then some (.inl (i + 2)) else some (.inr (1, i + 1)))
        else if ch i = 46 then some (.inl (i + 1))
        else if ch i = 63 then (match G2 (i + 1) with
          | some (.inl j) => G2 j
          | some (.inr x) => some (.inr x)
          | none => none)
        else if ch i = 64 then (if 97 ≤ ch (i + 1) ∧ ch (i + 1) ≤ 104 then some (.inl (i + 2)) else some (.inr (1, i + 1)))
        else if ch i = 84 then G3 (i + 1)
        else if ch i = 94 then (if tk = true then some (.inl (i + 1)) else some (.inr (1, i)))
        else some (.inr (1, i))) (fX3_readStatement F N (nI i) (nI d) (nI o) S) := by
  have e9 : S.2 9 = m := hp.1.1.1
  obtain ⟨hb1, hb2⟩ : 2 * cb ch i ≤ i ∧ 3 * cT ch i ≤ i := hb
  have ho := hp.1.2.1
  have hB := hp.1.2.2.1
  have eA := r_at (N := N) hn hp.1.1 (i := i) (by omega)
  have eA1 := r_at (N := N) hn hp.1.1 (i := i + 1) (by omega)
  have eK := r_kindAt (N := N) hn hz hc hp.1.1 (i := i + 1) (by omega)
  have ei : nI i + 1 = nI (i + 1) := nI_add i 1
  have one : ch i ≠ 123 → ¬ ltr (ch i) → ch i ≠ 64 → Pst m ch o i (i + 1) S S ∧ GB ch i (i + 1) ∧ cb ch (i + 1) = cb ch i ∧ cT ch (i + 1) = cT ch i := fun h1 h2 h3 =>
    ⟨Pst.lf hp.1 1 (fun q a b => by
      obtain rfl : q = i := by omega
      exact ⟨h1, fun z => h2 z.1, h3⟩), GB.one h1, cb_n h1, cT_n (fun z => h2 z.1)⟩
  have two : ch i ≠ 123 → ¬ ltr (ch i) → ch i ≠ 64 → ch i ≠ 125 → ch (i + 1) ≠ 123 → ch (i + 1) ≠ 64 → Pst m ch o i (i + 2) S S := fun h1 h2 h3 h4 h5 h6 =>
    Pst.lf hp.1 2 (fun q a b => by
      rcases (show q = i ∨ q = i + 1 by omega) with w | w
      · rw [w]; exact ⟨h1, fun z => h2 z.1, h3⟩
      · rw [w]
        refine ⟨h5, fun z => ?_, h6⟩
        have := z.2.2
        rw [Nat.add_sub_cancel] at this
        exact h4 this)
  have bp : WP (fX3_behindPair N (nI i) 0 S) (fun z => Ref m (1, i + 1) S z) := r_pair0
  unfold fX3_readStatement
  rw [ei, e9, eA1]
  simp only [Option.bind_some]
  rw [e9, eA]
  simp only [Option.bind_some]
  by_cases q33 : ch i = 33
  · rw [if_pos q33, if_pos (show cA n ch i = 33 from rA_y hz hc (k := 33) (by omega) (by omega) q33), e9, eK]
    simp only [Option.bind_some]
    by_cases l : ltr (ch (i + 1))
    · simp only [if_pos l]
      rw [if_neg (show ¬ nI (ch (i + 1) - 65) = -1 by rw [nI_m1 (by omega)]; exact id)]
      unfold fX3_readStatement_125
      rw [r_pair1]
      exact WP.ret ⟨rfl, two (by omega) (by omega) (by omega) (by omega) (by omega) (by omega), BO1.lf (by omega) (fun w => by omega)⟩
    · simp only [if_neg l]
      rw [if_pos trivial]
      exact WP.bnd bp (fun y hy => WP.ret hy)
  rw [if_neg q33, if_neg (show ¬ cA n ch i = 33 from rA_n hz hc (k := 33) (by omega) (by omega) q33)]
  by_cases q42 : ch i = 42
  · rw [if_pos q42, if_pos (show cA n ch i = 42 from rA_y hz hc (k := 42) (by omega) (by omega) q42), bind_idp]
    obtain ⟨o1, o2, o3, o4⟩ := one (by omega) (by omega) (by omega)
    refine RdQ.sq o1 ho o2 (hF2 (i + 1) S (by omega) (o1.pq hp) (show 2 * cb ch (i + 1) + 1 ≤ i + 1 ∧ 3 * cT ch (i + 1) ≤ i + 1 from ⟨by omega, by omega⟩)) (fun j V hr hP hE => ?_)
    have hs := hE.sb hP (by omega)
    refine ⟨fun w => by omega, fun q _ _ w => ?_, fun t _ _ w => by have := w.1; omega⟩
    rcases w with ⟨w, _⟩ | ⟨_, w⟩ | ⟨w, _⟩
    · omega
    · rw [w]; exact hs
    · omega
  rw [if_neg q42, if_neg (show ¬ cA n ch i = 42 from rA_n hz hc (k := 42) (by omega) (by omega) q42)]
  have pm : (ch i = 43 ∨ ch i = 45) → RdQ m ch 1 o 0 i S (if ch (i + 1) = 48 ∨ ch (i + 1) = 49 then some (.inl (i + 2)) else some (.inr (1, i + 1))) (if cA n ch (i + 1) = 48 then fX3_readStatement_171 F N (nI i) S else (if cA n ch (i + 1) = 49 then fX3_readStatement_171 F N (nI i) S else fX3_readStatement_176 F N (nI i) 0 S)) := fun w => by
    have good : (ch (i + 1) = 48 ∨ ch (i + 1) = 49) → RdQ m ch 1 o 0 i S (some (.inl (i + 2))) (fX3_readStatement_171 F N (nI i) S) := fun g => by
      unfold fX3_readStatement_171 fX3_readStatement_176
      rw [r_pair1]
      exact WP.ret ⟨rfl, two (by omega) (by omega) (by omega) (by omega) (by omega) (by omega), BO1.lf (by omega) (fun w => by omega)⟩
    by_cases g : ch (i + 1) = 48
    · rw [if_pos (Or.inl g), if_pos (show cA n ch (i + 1) = 48 from rA_y hz hc (k := 48) (by omega) (by omega) g)]
      exact good (Or.inl g)
    · rw [if_neg (show ¬ cA n ch (i + 1) = 48 from rA_n hz hc (k := 48) (by omega) (by omega) g)]
      by_cases g' : ch (i + 1) = 49
      · rw [if_pos (Or.inr g'), if_pos (show cA n ch (i + 1) = 49 from rA_y hz hc (k := 49) (by omega) (by omega) g')]
        exact good (Or.inr g')
      · rw [if_neg (show ¬ (ch (i + 1) = 48 ∨ ch (i + 1) = 49) by omega), if_neg (show ¬ cA n ch (i + 1) = 49 from rA_n hz hc (k := 49) (by omega) (by omega) g')]
        exact WP.bnd bp (fun y hy => WP.ret hy)
  by_cases q43 : ch i = 43
  · rw [if_pos (Or.inl q43), if_pos (show cA n ch i = 43 from rA_y hz hc (k := 43) (by omega) (by omega) q43)]
    exact pm (Or.inl q43)
  rw [if_neg (show ¬ cA n ch i = 43 from rA_n hz hc (k := 43) (by omega) (by omega) q43)]
  by_cases q45 : ch i = 45
  · rw [if_pos (Or.inr q45), if_pos (show cA n ch i = 45 from rA_y hz hc (k := 45) (by omega) (by omega) q45)]
    exact pm (Or.inr q45)
  rw [if_neg (show ¬ (ch i = 43 ∨ ch i = 45) by omega), if_neg (show ¬ cA n ch i = 45 from rA_n hz hc (k := 45) (by omega) (by omega) q45)]
  by_cases q46 : ch i = 46
  · rw [if_pos q46, if_pos (show cA n ch i = 46 from rA_y hz hc (k := 46) (by omega) (by omega) q46)]
    exact WP.ret ⟨rfl, (one (by omega) (by omega) (by omega)).1, BO1.lf (by omega) (fun w => by omega)⟩
  rw [if_neg q46, if_neg (show ¬ cA n ch i = 46 from rA_n hz hc (k := 46) (by omega) (by omega) q46)]
  by_cases q63 : ch i = 63
  · rw [if_pos q63, if_pos (show cA n ch i = 63 from rA_y hz hc (k := 63) (by omega) (by omega) q63)]
    obtain ⟨o1, o2, o3, o4⟩ := one (by omega) (by omega) (by omega)
    have h1 := hF2 (i + 1) S (by omega) (o1.pq hp) (show 2 * cb ch (i + 1) + 1 ≤ i + 1 ∧ 3 * cT ch (i + 1) ≤ i + 1 from ⟨by omega, by omega⟩)
    cases hG : G2 (i + 1) with
    | none => exact trivial
    | some y =>
      rw [hG] at h1
      cases y with
      | inr x =>
        obtain ⟨z, e1, h2⟩ := h1
        show WP _ (fun z => Ref m x S z)
        rw [e1]
        simp only [Option.bind_some]
        rw [if_pos h2.1]
        exact WP.eq rfl ⟨rfl, h2.2⟩
      | inl j =>
        obtain ⟨z, e1, h2, h3, h4⟩ := h1
        obtain ⟨k1, k2, k3, k4, k5, k6⟩ := ok2 _ _ hG
        have hs1 := Ext.sb h4 h3 (by omega)
        have w1 := h3.2.1.2.2.1
        have w2 := h3.2.1.2.2.2
        have hpo := o1.trans h3 ho o2
        have hg := o2.tr k3 (by omega)
        have hcj := cb_mono (ch := ch) (show i + 1 + 1 ≤ j by omega)
        have hcy := cb_y k4
        rw [e1]
        simp only [Option.bind_some]
        rw [if_neg (by rw [h2, nI_m1 (by omega)]; exact id), h2]
        show RdQ m ch 1 o 0 i S (G2 j) ((F 2 (nI j) (nI d) (nI o) (-1) z.2).bind (fun q8 => some (q8.1, q8.2)))
        rw [bind_idp]
        refine RdQ.sq hpo ho hg (hF2 j z.2 (by omega) (hpo.pq hp) (show 2 * cb ch j + 1 ≤ j ∧ 3 * cT ch j ≤ j from ⟨by omega, by omega⟩)) (fun k V hr hP hE => ?_)
        have hs2 := hE.sb hP (by omega)
        have hs1 := hs1.mv hcj (by omega) (by omega) hP
        refine ⟨fun w => by omega, fun q _ _ w => ?_, fun t _ _ w => by have := w.1; omega⟩
        rcases w with ⟨_, w | w⟩ | ⟨w, _⟩ | ⟨w, _⟩
        · rw [w]; exact hs1
        · rw [k5] at w; rw [w]; exact hs2
        · omega
        · omega
  rw [if_neg q63, if_neg (show ¬ cA n ch i = 63 from rA_n hz hc (k := 63) (by omega) (by omega) q63)]
  by_cases q64 : ch i = 64
  · rw [if_pos q64, if_pos (show cA n ch i = 64 from rA_y hz hc (k := 64) (by omega) (by omega) q64), e9]
    by_cases l : 97 ≤ ch (i + 1) ∧ ch (i + 1) ≤ 104
    · rw [if_pos l, cA_97 hz l.1, r_call1 (show ch (i + 1) - 97 < 8 by omega)]
      simp only [Option.bind_some]
      rw [s_isRoutine1 _ _ (show ch (i + 1) - 97 < 8 by omega)]
      simp only [Option.bind_some]
      rw [r_pair1]
      exact WP.ret ⟨rfl, Pst.cl hp.1 q64 (show ch (i + 1) - 97 < 8 by omega) (by omega), BO1.lf (by omega) (fun w => by omega)⟩
    · rw [if_neg l, r_call0 (cA_no hc l)]
      simp only [Option.bind_some]
      rw [s_isRoutine0 _ _ (cA_no hc l)]
      simp only [Option.bind_some]
      refine WP.bnd (r_pair0 (m := m)) (fun y hy => WP.ret ⟨hy.1, Fr.trans ((Fr.refl _ S).i (by unfold rdF; simp)) hy.2.1, hy.2.2⟩)
  rw [if_neg q64, if_neg (show ¬ cA n ch i = 64 from rA_n hz hc (k := 64) (by omega) (by omega) q64)]
  by_cases q84 : ch i = 84
  · rw [if_pos q84, if_pos (show cA n ch i = 84 from rA_y hz hc (k := 84) (by omega) (by omega) q84), bind_idp]
    obtain ⟨o1, o2, o3, o4⟩ := one (by omega) (by omega) (by omega)
    exact RdQ.sq o1 ho o2 (hF3 (i + 1) S (by omega) (o1.pq hp) (show 2 * cb ch (i + 1) + 1 ≤ i + 1 ∧ 3 * cT ch (i + 1) + 1 ≤ i + 1 from ⟨by omega, by omega⟩)) (fun j V hr hP hE => hE i rfl q84)
  rw [if_neg q84, if_neg (show ¬ cA n ch i = 84 from rA_n hz hc (k := 84) (by omega) (by omega) q84)]
  by_cases q94 : ch i = 94
  · rw [if_pos q94, if_pos (show cA n ch i = 94 from rA_y hz hc (k := 94) (by omega) (by omega) q94), e9, r_mark hB (by omega) (by omega)]
    simp only [Option.bind_some]
    have e92 : (st_i S (TA m + 6) o 1).2 9 = m := e9
    have hB2 : (st_i S (TA m + 6) o 1).1 (TA m) 8 = nI (1 + cb ch i) := by rw [si_nx _ _ (by omega)]; exact hB
    rw [e92, r_keeper hB2 (by omega) (by omega), si_nx _ _ (show TA m + 5 ≠ TA m + 6 by omega)]
    simp only [Option.bind_some]
    cases tk with
    | true =>
      have hk : ¬ S.1 (TA m + 5) o = -1 := fun w => absurd (hp.1.2.2.2.2.mp w) (by decide)
      rw [if_pos rfl, if_neg hk]
      exact WP.eq rfl ⟨rfl, Pst.ag hp.1 q94, BO1.lf (by omega) (fun _ => si_at _ _ _ _)⟩
    | false =>
      have hk : S.1 (TA m + 5) o = -1 := hp.1.2.2.2.2.mpr rfl
      rw [if_neg (by decide), if_pos hk]
      exact WP.bnd (r_refuse (m := m) 1 i) (fun y hy => WP.eq rfl ⟨hy.1, Fr.trans ((Fr.refl _ S).i (by unfold rdF; simp)) hy.2.1, hy.2.2⟩)
  rw [if_neg q94, if_neg (show ¬ cA n ch i = 94 from rA_n hz hc (k := 94) (by omega) (by omega) q94)]
  exact WP.bnd (r_refuse (m := m) 1 i) (fun y hy => WP.ret hy)
