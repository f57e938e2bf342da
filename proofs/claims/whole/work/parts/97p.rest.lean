/-! ===== the other calls ===== -/
section RST
variable {N : Nat} {nF : Nat → Nat} {cF : Nat → Nat → Nat} {ab : Nat → Nat → Bool} {S : St}
theorem i_feed (hN : 900000 < N) (h : Inv S) (a b c d e : Int32) : ∃ v S1 S2, fX7_feed N a b c d e S = some (v, S1) ∧ fX8_feed N a b c d e S1 = some (v, S2) ∧ Inv S2 := by
  obtain ⟨nF, cF, ab, ⟨⟨b1, b2⟩, b3, ⟨sz, b4⟩, b5, b6, b7⟩, hK, hR⟩ := h
  obtain ⟨v, S1, S2, e1, e2, ⟨f1, f2, f3, f4⟩, hT⟩ := st_feed (N := N) (by omega) b4 a b c d e
  refine ⟨v, S1, S2, e1, e2, nF, cF, ab, ⟨⟨?_, ?_⟩, ?_, hT, ⟨?_, ?_⟩, fun q hq => ?_, ?_⟩, ?_, ?_⟩
  · unfold IK at *
    rw [f2 14 (by decide), f2 15 (by decide), f2 129 (by decide)]; exact b1
  · rw [f2 14 (by decide)]; exact b2
  · rw [f2 17 (by decide), f2 130 (by decide)]; exact b3
  · rw [f2 0 (by decide), f4 5 (by decide)]; exact b5.1
  · rw [f2 0 (by decide), f4 6 (by decide)]; exact b5.2
  · have hta : ∀ o, o < 9 → S2.1 (TA (S.2 q) + o) = S.1 (TA (S.2 q) + o) := fun o ho => f2 _ (fun z => by
      have h1 := TA_ne (S.2 q) o ho (c := 1) (by simp)
      have h2 := TA_ne (S.2 q) o ho (c := 2) (by simp)
      have h3 := TA_lt (S.2 q) o ho
      simp only [List.mem_cons, List.not_mem_nil, or_false] at z
      omega)
    have := b6 q hq
    unfold TkF at *
    rw [f1, show S2.1 (TA (S.2 q)) = S.1 (TA (S.2 q)) from hta 0 (by omega), hta 8 (by omega)]
    exact this
  · rw [f2 132 (by decide)]; exact b7
  · refine hK.lo (fun j _ => by rw [f1]) (fun q hq o ho => f2 _ (fun z => by
      have h1 := TA_ne (S.2 q) o ho (c := 1) (by simp)
      have h2 := TA_ne (S.2 q) o ho (c := 2) (by simp)
      have h3 := TA_lt (S.2 q) o ho
      simp only [List.mem_cons, List.not_mem_nil, or_false] at z
      omega)) (f2 15 (by decide)) (f2 19 (by decide)) (by rw [f2 0 (by decide)]) (by rw [f2 0 (by decide)])
  · exact hR.lo (f4 19 (by decide)) (f4 20 (by decide)) (f4 29 (by decide)) (f2 129 (by decide)) (f2 132 (by decide)) (f2 133 (by decide)) (f2 134 (by decide)) (f2 141 (by decide))
theorem i_under (hN : 900000 < N) (h : Inv S) (a b : Int32) : ∃ v S1 S2, fX7_under N a b S = some (v, S1) ∧ fX8_under N a b S1 = some (v, S2) ∧ Inv S2 := by
  have h0 := h
  obtain ⟨nF, cF, ab, ⟨⟨b1, b2⟩, b3, ⟨sz, b4⟩, b5, b6, b7⟩, hK, hR⟩ := h
  obtain ⟨v, S1, S2, e1, e2, hik, hc⟩ := st_under (N := N) (by omega) b1 a b
  refine ⟨v, S1, S2, e1, e2, ?_⟩
  rcases hc with ⟨_, w⟩ | ⟨_, f1, f2, f3, f4, f5, f6, f7⟩
  · rw [w]; exact h0
  · have hab : ∀ k f, k < 6 → f < 6 → ((fun k f => @decide (isK (S2.1 14) k f) (Classical.propDecidable _)) k f = true ↔ isK (S2.1 14) k f) := fun k f _ _ => @decide_eq_true_iff _ (Classical.propDecidable _)
    have hta : ∀ q o, o < 9 → S2.1 (TA (S.2 q) + o) = S.1 (TA (S.2 q) + o) := fun q o ho => f2 _ (fun z => by
      have h1 := TA_ne (S.2 q) o ho (c := 0) (by simp)
      have h2 := TA_ne (S.2 q) o ho (c := 14) (by simp)
      have h4 := TA_ne (S.2 q) o ho (c := 15) (by simp)
      have h3 := TA_lt (S.2 q) o ho
      simp only [List.mem_cons, List.not_mem_nil, or_false] at z
      omega)
    obtain ⟨⟨o1, o2, ⟨X, o3, o4⟩, o5⟩, ⟨i1, i2⟩, o6⟩ := hK
    refine ⟨nF, cF, fun k f => @decide (isK (S2.1 14) k f) (Classical.propDecidable _), ⟨⟨hik, hab⟩, ?_, ⟨sz, ?_⟩, ⟨?_, ?_⟩, fun q hq => ?_, ?_⟩, ⟨⟨fun q hq => (o1 q hq).lo (by rw [f1]) (fun o ho => hta q o ho), fun k j hk hj => ?_, ⟨X, o3, fun x hx => by rw [f2 19 (by decide)]; exact o4 x hx⟩, fun q hq hb => ?_⟩, ⟨fun q hq => by rw [f1]; exact i1 q hq, fun q p hq hp => by rw [f1]; exact i2 q p hq hp⟩, fun q hq hb => ?_⟩, ⟨fun q hq => ?_, ⟨?_, ?_⟩, Or.inl f7⟩⟩
    · rw [f2 17 (by decide), f2 130 (by decide)]; exact b3
    · unfold Tp at *
      rw [f2 1 (by decide), f2 2 (by decide), f2 131 (by decide), f6 4 (by decide)]; exact b4
    · rw [f3 9 (by decide) (by decide), f6 5 (by decide)]; exact b5.1
    · rw [f3 10 (by decide) (by decide), f6 6 (by decide)]; exact b5.2
    · have := b6 q hq
      unfold TkF at *
      rw [f1, show S2.1 (TA (S.2 q)) = S.1 (TA (S.2 q)) from hta q 0 (by omega), hta q 8 (by omega)]
      exact this
    · rw [f2 132 (by decide)]; exact b7
    · rw [hik.bt hk hj]; exact (hab k j hk hj).symm
    · rw [f4, b_0] at hb; cases hb
    · rw [f5, b_0] at hb; cases hb
    · obtain ⟨y1, y2, y3, _⟩ := hR.1 q hq
      refine ⟨by rw [f2 133 (by decide)]; exact y1, by rw [f2 132 (by decide)]; exact y2, by rw [f2 134 (by decide)]; exact y3, hik.ok2, hik.ac2, fun k f hk hf => (hab k f hk hf).trans hik.isK2.symm⟩
    · rw [f6 19 (by decide)]; exact hR.2.1.1
    · rw [f6 20 (by decide)]; exact hR.2.1.2
theorem i_promise (h : Inv S) (a b : Int32) : ∃ v S1 S2, fX7_promise N a b S = some (v, S1) ∧ fX8_promise N a b S1 = some (v, S2) ∧ Inv S2 := by
  have h0 := h
  obtain ⟨nF, cF, ab, ⟨⟨b1, b2⟩, b3, ⟨sz, b4⟩, b5, b6, b7⟩, hK, hR⟩ := h
  obtain ⟨v, S1, S2, e1, e2, hc⟩ := st_promise (N := N) (S := S) a b
  refine ⟨v, S1, S2, e1, e2, ?_⟩
  rcases hc with ⟨_, w⟩ | ⟨_, r, w, hr, hw, e⟩
  · rw [w]; exact h0
  · have f : ∀ c, c ≠ 17 → c ≠ 130 → S2.1 c = S.1 c := fun c c1 c2 => by rw [e, si_nx _ _ c2, si_nx _ _ c1]
    have f17 : ∀ x, S2.1 17 x = if x = r then nI w else S.1 17 x := fun x => by rw [e, si_nx _ _ (by omega), si_if]
    have f130 : ∀ x, S2.1 130 x = if x = r then nI w else S.1 130 x := fun x => by rw [e, si_if, si_nx _ _ (by omega)]
    have g : S2.2 = S.2 := by rw [e]; rfl
    have hta : ∀ q o, o < 9 → S2.1 (TA (S.2 q) + o) = S.1 (TA (S.2 q) + o) := fun q o ho => f _ (TA_ne (S.2 q) o ho (by simp)) (by have := TA_lt (S.2 q) o ho; omega)
    refine ⟨nF, cF, ab, ⟨⟨?_, ?_⟩, fun x hx => ?_, ⟨sz, ?_⟩, ?_, fun q hq => ?_, ?_⟩, ?_, ?_⟩
    · unfold IK at *
      rw [f 14 (by omega) (by omega), f 15 (by omega) (by omega), f 129 (by omega) (by omega)]; exact b1
    · rw [f 14 (by omega) (by omega)]; exact b2
    · rw [f17, f130]
      by_cases y : x = r
      · rw [if_pos y, if_pos y]; exact ⟨rfl, w, hw, rfl⟩
      · rw [if_neg y, if_neg y]; exact b3 x hx
    · unfold Tp at *
      rw [f 1 (by omega) (by omega), f 2 (by omega) (by omega), f 131 (by omega) (by omega), f 128 (by omega) (by omega)]; exact b4
    · rw [f 0 (by omega) (by omega), f 128 (by omega) (by omega)]; exact b5
    · have := b6 q hq
      unfold TkF at *
      rw [g, show S2.1 (TA (S.2 q)) = S.1 (TA (S.2 q)) from hta q 0 (by omega), hta q 8 (by omega)]
      exact this
    · rw [f 132 (by omega) (by omega)]; exact b7
    · exact hK.lo (fun j _ => by rw [g]) (fun q hq o ho => hta q o ho) (f 15 (by omega) (by omega)) (f 19 (by omega) (by omega)) (by rw [f 0 (by omega) (by omega)]) (by rw [f 0 (by omega) (by omega)])
    · exact hR.lo (by rw [f 128 (by omega) (by omega)]) (by rw [f 128 (by omega) (by omega)]) (by rw [f 128 (by omega) (by omega)]) (f 129 (by omega) (by omega)) (f 132 (by omega) (by omega)) (f 133 (by omega) (by omega)) (f 134 (by omega) (by omega)) (f 141 (by omega) (by omega))
theorem i_is (hN : 900000 < N) (h : Inv S) (a b : Int32) : ∃ v S1 S2, fX7_is N a b S = some (v, S1) ∧ fX8_is N a b S1 = some (v, S2) ∧ Inv S2 := by
  have h0 := h
  obtain ⟨nF, cF, ab, hB, _⟩ := h
  obtain ⟨r, e1, e2⟩ := st_is N (by omega) S hB.1.1 a b
  exact ⟨r, S, S, e1, e2, h0⟩
theorem i_fault (h : Inv S) (a : Int32) : ∃ v S1 S2, fX7_fault N a S = some (v, S1) ∧ fX8_fault N a S1 = some (v, S2) ∧ Inv S2 := by
  have h0 := h
  obtain ⟨nF, cF, ab, ⟨_, _, ⟨sz, t1, t2, t3, _⟩, ⟨f1, f2⟩, _⟩, _⟩ := h
  unfold fX7_fault fX8_fault fX8_fault_36 fX4_size
  by_cases a0 : a = 0
  · exact ⟨S.1 0 9, S, S, by rw [if_pos a0], by rw [if_pos a0, f1], h0⟩
  · by_cases a1 : a = 1
    · exact ⟨S.1 0 10, S, S, by rw [if_neg a0, if_pos a1], by rw [if_neg a0, if_pos a1, f2], h0⟩
    · by_cases a2 : a = 2
      · exact ⟨S.1 1 1, S, S, by rw [if_neg a0, if_neg a1, if_pos a2]; rfl, by rw [if_neg a0, if_neg a1, if_pos a2, t2, t3], h0⟩
      · exact ⟨-1, S, S, by rw [if_neg a0, if_neg a1, if_neg a2], by rw [if_neg a0, if_neg a1, if_neg a2], h0⟩
/-! look -/
theorem s_calls' {r n : Nat} {ch : Nat → Nat} (hN : 100 < N) (hr : r < 8) (hW : WF ch (mtp ch) n) (hc : ∀ i, ch i < 256) (h : RY r n ch (mtp ch) ab S) {m : Nat} (hm : ∀ p, p < 32 → (bt (S.1 (TA m) 11) p = true ↔ p < 8 ∧ clb ch p)) : fX8_callsOf N (nI r) S = some (S.1 (TA m) 11, S) := by
  have h60 := hW.1
  have key : WP (fX8_callsOf_4 N (nI r) (0, 0, S)) (fun z => z.2 = S ∧ ∀ x, x < 32 → (bt z.1 x = true ↔ x < 8 ∧ clb ch x)) := by
    unfold fX8_callsOf_4
    have kk : ∀ (mm M i : Nat) (a : Int32), n ≤ i + mm → mm < M → i ≤ n → (∀ x, x < 32 → (bt a x = true ↔ ∃ q, q < i ∧ q + 1 < n ∧ ch q = 64 ∧ ch (q + 1) = 97 + x)) → WP (whl M (bfX8_callsOf_4 N (nI r)) (a, nI i, S)) (fun z => z.2 = S ∧ ∀ x, x < 32 → (bt z.1 x = true ↔ x < 8 ∧ clb ch x)) := by
      have fin : ∀ (i : Nat) (a : Int32), n ≤ i + 1 → (∀ x, x < 32 → (bt a x = true ↔ ∃ q, q < i ∧ q + 1 < n ∧ ch q = 64 ∧ ch (q + 1) = 97 + x)) → ∀ x, x < 32 → (bt a x = true ↔ x < 8 ∧ clb ch x) := fun i a hi ha x hx => by
        rw [ha x hx]
        constructor
        · rintro ⟨q, q1, q2, q3, q4⟩
          have := (hW.lq (show q < n by omega)).2.2 q3
          exact ⟨by omega, q, q3, q4⟩
        · rintro ⟨_, q, q3, q4⟩
          have : q + 1 < n := by
            rcases Nat.lt_or_ge (q + 1) n with w | w
            · exact w
            · rw [hW.2.1 _ w] at q4; omega
          exact ⟨q, by omega, this, q3, q4⟩
      intro mm
      induction mm with
      | zero =>
        intro M i a h1 h2 h3 ha
        obtain ⟨M', rfl⟩ : ∃ M', M = M' + 1 := ⟨M - 1, by omega⟩
        refine WP.eq (whl_e (y := (a, S)) ?_) ⟨rfl, fin i a (by omega) ha⟩
        unfold bfX8_callsOf_4
        dsimp only
        rw [if_neg (nI_in hr (by omega)), nI_cl (by omega), h.1, show nI i + 1 = nI (i + 1) from nI_add i 1, if_pos (nI_le (by omega) (by omega))]
      | succ mm ih =>
        intro M i a h1 h2 h3 ha
        obtain ⟨M', rfl⟩ : ∃ M', M = M' + 1 := ⟨M - 1, by omega⟩
        have ei : nI i + 1 = nI (i + 1) := nI_add i 1
        by_cases w : n ≤ i + 1
        · refine WP.eq (whl_e (y := (a, S)) ?_) ⟨rfl, fin i a w ha⟩
          unfold bfX8_callsOf_4
          dsimp only
          rw [if_neg (nI_in hr (by omega)), nI_cl (by omega), h.1, ei, if_pos (nI_le w (by omega))]
        · have lst : ∀ a', (∀ x, x < 32 → (bt a' x = true ↔ bt a x = true ∨ (ch i = 64 ∧ ch (i + 1) = 97 + x))) → ∀ x, x < 32 → (bt a' x = true ↔ ∃ q, q < i + 1 ∧ q + 1 < n ∧ ch q = 64 ∧ ch (q + 1) = 97 + x) := fun a' ha' x hx => by
            rw [ha' x hx, ha x hx]
            constructor
            · rintro (⟨q, q1, q2⟩ | ⟨q1, q2⟩)
              · exact ⟨q, by omega, q2⟩
              · exact ⟨i, by omega, by omega, q1, q2⟩
            · rintro ⟨q, q1, q2, q3, q4⟩
              rcases Nat.lt_or_ge q i with u | u
              · exact Or.inl ⟨q, u, q2, q3, q4⟩
              · obtain rfl : q = i := by omega
                exact Or.inr ⟨q3, q4⟩
          by_cases q64 : ch i = 64
          · obtain ⟨l1, l2⟩ := (hW.lq (show i < n by omega)).2.2 q64
            have eb : bfX8_callsOf_4 N (nI r) (a, nI i, S) = some (.inl (a ||| (1 <<< (nI (ch (i + 1) - 97) &&& 31)), nI (i + 1), S)) := by
              unfold bfX8_callsOf_4 fX8_callsOf_43
              dsimp only
              rw [if_neg (nI_in hr (by omega)), nI_cl (by omega), h.1, ei, if_neg (nI_ge (by omega) (by omega)), s_sgY hr hW h (by omega)]
              simp only [Option.bind_some]
              rw [if_pos (show nI (ch i) = 64 by rw [q64]; rfl), s_sgY hr hW h (by omega)]
              simp only [Option.bind_some]
              rw [show nI (ch (i + 1)) - 97 = nI (ch (i + 1) - 97) from pk_sub (b := 97) l1]
            rw [whl_s eb]
            refine ih M' (i + 1) _ (by omega) (by omega) (by omega) (lst _ (fun x hx => ?_))
            rw [b_or, b_one (by omega) hx, Bool.or_eq_true, decide_eq_true_iff]
            constructor
            · rintro (z | z)
              · exact Or.inl z
              · exact Or.inr ⟨q64, by omega⟩
            · rintro (z | ⟨_, z⟩)
              · exact Or.inl z
              · exact Or.inr (by omega)
          · have eb : bfX8_callsOf_4 N (nI r) (a, nI i, S) = some (.inl (a, nI (i + 1), S)) := by
              unfold bfX8_callsOf_4 fX8_callsOf_43
              dsimp only
              rw [if_neg (nI_in hr (by omega)), nI_cl (by omega), h.1, ei, if_neg (nI_ge (by omega) (by omega)), s_sgY hr hW h (by omega)]
              simp only [Option.bind_some]
              rw [if_neg (show ¬ nI (ch i) = 64 from fun z => q64 ((nI_eq (a := ch i) (b := 64) (by have := hc i; omega) (by omega)).mp z))]
            rw [whl_s eb]
            refine ih M' (i + 1) _ (by omega) (by omega) (by omega) (lst _ (fun x hx => ?_))
            exact ⟨Or.inl, fun z => z.resolve_right (fun y => q64 y.1)⟩
    exact kk n N 0 0 (by omega) (by omega) (by omega) (fun x hx => by rw [b_0]; simp)
  obtain ⟨z, ez, z1, z2⟩ := key
  unfold fX8_callsOf
  rw [ez]
  show some (z.1, z.2) = _
  rw [z1, bits_u z2 hm]
theorem i_look (hN : 900000 < N) (h : Inv S) (a b : Int32) : ∃ v S1 S2, fX7_look N a b S = some (v, S1) ∧ fX8_look N a b S1 = some (v, S2) ∧ Inv S2 := by
  have h0 := h
  obtain ⟨nF, cF, ab, ⟨_, b3, _, _, _, b7⟩, hX⟩ := h
  have hW := hX.W
  have hR := hX.2
  rcases nI_cases a 8 (by decide) with ⟨r, hr, rfl⟩ | ha
  · have tx := hX.1.1.1 r hr
    obtain ⟨B, bn, fs, kp, ag, hK, hD, hcl⟩ := tx
    have hY := hR.1 r hr
    have h60 := (hW r hr).1.1
    have hca : ∀ q, q < 8 → fX8_callsOf N (nI q) S = some (clS S q, S) := fun q hq => by
      obtain ⟨B, bn, fs, kp, ag, _, _, x3⟩ := hX.1.1.1 q hq
      exact s_calls' (by omega) hq (hW q hq).1 (hW q hq).2 (hR.1 q hq) x3
    have hh : ∃ v, fX7_look N (nI r) b S = some (v, S) ∧ fX8_look N (nI r) b S = some (v, S) := by
      unfold fX7_look fX8_look
      rw [s_isRoutine1 N S hr, s_r81 N S hr]
      simp only [Option.bind_some, if_neg z10]
      by_cases l0 : b = 0
      · refine ⟨nI (nF r), ?_, ?_⟩
        · unfold fX5_length
          rw [if_pos l0, if_neg (nI_in hr (by omega)), nI_cl (by omega), hD.1]
          rfl
        · rw [if_pos l0, if_neg (nI_in hr (by omega)), nI_cl (by omega), hY.1]
      by_cases l1 : b = 1
      · refine ⟨clS S r, ?_, ?_⟩
        · unfold fX5_calls
          rw [if_neg l0, if_pos l1, if_neg (nI_in hr (by omega)), nI_cl (by omega)]
          rfl
        · rw [if_neg l0, if_pos l1, hca r hr]
          rfl
      by_cases l2 : b = 2
      · refine ⟨cAll (clS S) 8 (clS S r), ?_, ?_⟩
        · rw [if_neg l0, if_neg l1, if_pos l2, s_comesTo (by omega) hr]
          rfl
        · rw [if_neg l0, if_neg l1, if_pos l2, hca r hr]
          simp only [Option.bind_some]
          have inner : ∀ (A l4 : Int32), fX8_look_72 N l4 (A, 0, S) = some (cRow (clS S) 8 A, S) := fun A l4 => by
            have key : ∀ (mm M q : Nat), q + mm = 8 → mm < M → whl M (bfX8_look_72 N l4) (cRow (clS S) q A, nI q, S) = some (cRow (clS S) 8 A, S) := by
              intro mm
              induction mm with
              | zero =>
                intro M q hq hM
                obtain ⟨M', rfl⟩ : ∃ M', M = M' + 1 := ⟨M - 1, by omega⟩
                obtain rfl : q = 8 := by omega
                refine whl_e ?_
                unfold bfX8_look_72
                dsimp only
                rw [if_pos (show (8 : Int32) ≤ nI 8 by decide)]
              | succ mm ih =>
                intro M q hq hM
                obtain ⟨M', rfl⟩ : ∃ M', M = M' + 1 := ⟨M - 1, by omega⟩
                have eb : bfX8_look_72 N l4 (cRow (clS S) q A, nI q, S) = some (.inl (cRow (clS S) (q + 1) A, nI (q + 1), S)) := by
                  unfold bfX8_look_72 fX8_look_98
                  dsimp only
                  rw [if_neg (show ¬ (8 : Int32) ≤ nI q from nI_ge (b := 8) (by omega) (by omega)), show nI q + 1 = nI (q + 1) from nI_add q 1]
                  by_cases w : bt (cRow (clS S) q A) q = true
                  · rw [if_pos ((b_tst _ (by omega)).mpr w), hca q (by omega)]
                    simp only [Option.bind_some]
                    rw [show cRow (clS S) (q + 1) A = cRow (clS S) q A ||| clS S q from if_pos w]
                  · rw [if_neg (fun z => w ((b_tst _ (by omega)).mp z)), show cRow (clS S) (q + 1) A = cRow (clS S) q A from if_neg w]
                rw [whl_s eb]
                exact ih M' (q + 1) (by omega) (by omega)
            unfold fX8_look_72
            exact key 8 N 0 (by omega) (by omega)
          have outer : fX8_look_62 N (clS S r, 0, S) = some (cAll (clS S) 8 (clS S r), S) := by
            have key : ∀ (mm M j : Nat), j + mm = 8 → mm < M → whl M (bfX8_look_62 N) (cAll (clS S) j (clS S r), nI j, S) = some (cAll (clS S) 8 (clS S r), S) := by
              intro mm
              induction mm with
              | zero =>
                intro M q hq hM
                obtain ⟨M', rfl⟩ : ∃ M', M = M' + 1 := ⟨M - 1, by omega⟩
                obtain rfl : q = 8 := by omega
                refine whl_e ?_
                unfold bfX8_look_62
                dsimp only
                rw [if_pos (show (8 : Int32) ≤ nI 8 by decide)]
              | succ mm ih =>
                intro M q hq hM
                obtain ⟨M', rfl⟩ : ∃ M', M = M' + 1 := ⟨M - 1, by omega⟩
                have eb : bfX8_look_62 N (cAll (clS S) q (clS S r), nI q, S) = some (.inl (cAll (clS S) (q + 1) (clS S r), nI (q + 1), S)) := by
                  unfold bfX8_look_62
                  dsimp only
                  rw [if_neg (show ¬ (8 : Int32) ≤ nI q from nI_ge (b := 8) (by omega) (by omega)), inner, show nI q + 1 = nI (q + 1) from nI_add q 1]
                  rfl
                rw [whl_s eb]
                exact ih M' (q + 1) (by omega) (by omega)
            unfold fX8_look_62
            exact key 8 N 0 (by omega) (by omega)
          rw [outer]
          rfl
      by_cases l3 : b = 3
      · refine ⟨S.1 17 r, ?_, ?_⟩
        · rw [if_neg l0, if_neg l1, if_neg l2, if_pos l3, if_neg (nI_in hr (by omega)), nI_cl (by omega)]
        · rw [if_neg l0, if_neg l1, if_neg l2, if_pos l3, if_neg (nI_in hr (by omega)), nI_cl (by omega), (b3 r hr).1]
      rw [if_neg l0, if_neg l1, if_neg l2, if_neg l3, if_neg l0, if_neg l1, if_neg l2, if_neg l3]
      by_cases l100 : (100 : Int32) ≤ b
      · have b0 : ¬ b < 0 := fun z => by
          have := Int32.lt_of_le_of_lt l100 z
          exact absurd this (by decide)
        obtain ⟨k, hk, rfl⟩ := nI_nn b0
        have k100 : 100 ≤ k := by
          rcases Nat.lt_or_ge k 100 with w | w
          · exact absurd l100 (nI_ge (b := 100) w (by omega))
          · exact w
        rw [if_pos l100, if_neg (show ¬ nI k < 100 from Int32.not_lt.mpr l100), if_neg (nI_in hr (by omega)), if_neg (nI_in hr (by omega)), nI_cl (by omega), hY.1, show (100 : Int32) + nI (nF r) = nI (100 + nF r) from nI_add 100 (nF r), show nI k - 100 = nI (k - 100) from pk_sub (b := 100) k100]
        by_cases w : k < 100 + nF r
        · have eat : fX5_at N (S.2 r) (nI (k - 100)) S = some (nI (cF r (k - 100)), S) := by
            rw [s_at (hW r hr).1 hD (by omega)]
            unfold cA
            rw [if_pos (by omega)]
          rw [eat, if_neg (nI_ge w (by omega)), nI_x60, nI_add, show nI (60 * r + k) - 100 = nI (60 * r + k - 100) from pk_sub (b := 100) (by omega), if_neg (nI_in (show 60 * r + k - 100 < 480 by omega) (by omega)), nI_cl (by omega), show 60 * r + k - 100 = 60 * r + (k - 100) by omega, b7 r hr (k - 100) (by omega)]
          exact ⟨_, rfl, rfl⟩
        · have eat : fX5_at N (S.2 r) (nI (k - 100)) S = some (-1, S) := by
            unfold fX5_at fX5_at_31
            rw [if_neg (nI_pos (by omega)), hD.1, if_pos (nI_le (by omega) (by omega))]
          rw [eat, if_pos (nI_le (by omega) hk)]
          exact ⟨_, rfl, rfl⟩
      · rw [if_neg l100, if_pos (Int32.not_le.mp l100)]
        exact ⟨_, rfl, rfl⟩
    obtain ⟨v, e1, e2⟩ := hh
    exact ⟨v, S, S, e1, e2, h0⟩
  · refine ⟨-1, S, S, ?_, ?_, h0⟩
    · unfold fX7_look
      rw [s_isRoutine0 N S ha]
      simp only [Option.bind_some, if_pos]
    · unfold fX8_look
      rw [s_r80 N S ha]
      simp only [Option.bind_some, if_pos]
end RST
