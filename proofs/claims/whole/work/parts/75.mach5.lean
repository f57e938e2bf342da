section ME2
variable {N n : Nat} {ch : Nat → Nat} {l1 l2 : Int32}
theorem mnR_MP {i d dd : Nat} {R : St} (h : MP n ch i d R) (v : Int32) : MP n ch i d (mnR R dd v) := by
  unfold mnR
  exact ⟨by rw [si_nx _ _ (by decide)]; exact h.1, by rw [si_nx _ _ (by decide)]; exact h.2.1, by rw [si_nx _ _ (by decide)]; exact h.2.2.1, fun q hq => by rw [si_nx _ _ (by decide)]; exact h.2.2.2 q hq⟩
/-- the takers and the ending behind a block -/
theorem go_L (hS : SK n ch) {D d : Nat} {tk : Bool} (hd : d < 8)
    (ih : ∀ D' i d tk R, D' < D → i ≤ n → MP n ch i d R → d ≤ 8 → (tk = true ↔ isT d R) → mR N l1 l2 n ch (pr n ch D' 0 i d tk false) i d R) :
    ∀ (m k c was : Nat) (R2 R3 : St), k ≤ n → ((was = 4 ∧ c = 0) ∨ (was = 5 ∧ 1 ≤ c ∧ c ≤ 6)) → MP n ch k d R3 → (tk = true ↔ isT d R3) →
      (∀ g R', fX8_goesOn N (nI was) (nI c) R3 = some (g, R') → (g = 0 ∨ g = 1) → ∀ M, whl (M + 1) (bT N l1 l2) (1, R2) = whl M (bT N l1 l2) (g, R')) →
      goR N l1 l2 n ch (prL (fun k b => pr n ch D 2 k d tk b) ch tk m k c) k d R2 R3
  | 0, _, _, _, _, _, _, _, _, _, _ => ⟨fun j hj => (by cases hj), fun a p hj => (by cases hj)⟩
  | m + 1, k, c, was, R2, R3, hk, hwas, h, ht, hst => by
    have hn := hS.1
    have w45 : was = 4 ∨ was = 5 := by omega
    have lt_n : ∀ q, ch q ≠ 0 → q < n := fun q hq => by
      rcases Nat.lt_or_ge q n with w | w
      · exact w
      · exact absurd (hS.2.1 q w) hq
    -- a step that refuses
    have bad : ∀ (a p : Nat) (R0 : St), FrJ [7, 15] A4 R3 R0 → fX8_goesOn N (nI was) (nI c) R3 = some (0, wrR R0 (nI a) p) → ∃ cc R', cc ≤ n - k + 2 ∧ FrJ [5, 6, 7, 15] A4 R3 R' ∧ (((∀ M, whl (M + cc + 1) (bT N l1 l2) (1, R2) = some (0, R')) ∧ R'.1 128 5 = nI a ∧ R'.1 128 6 = nI p) ∨ ((∀ M, whl (M + cc + 1) (bT N l1 l2) (1, R2) = some (1, R')) ∧ a = 1 ∧ p = n ∧ R'.1 128 5 = R3.1 128 5 ∧ R'.1 128 6 = R3.1 128 6 ∧ ∃ d', 0 < d' ∧ d' ≤ 8 ∧ R'.1 128 15 = nI d')) := by
      intro a p R0 f0 e
      refine ⟨1, wrR R0 (nI a) p, by omega, ?_, Or.inl ⟨fun M => ?_, ?_, ?_⟩⟩
      · unfold wrR; exact ((f0.wid (by decide)).m (by decide)).m (by decide)
      · rw [hst 0 _ e (Or.inl rfl), t_bad]
      · unfold wrR; rw [si_ni _ _ (by decide), si_at]
      · unfold wrR; rw [si_at]
    by_cases hl : ltr (ch k)
    · by_cases c6 : c = 6
      · have hx : prL (fun k b => pr n ch D 2 k d tk b) ch tk (m + 1) k c = some (.inr (3, k)) := by
          show (if ltr (ch k) then (if c = 6 then _ else _) else _) = _
          rw [if_pos hl, if_pos c6]
        rw [hx]
        refine ⟨fun j hj => (by cases hj), fun a p hj => ?_⟩
        cases hj
        obtain ⟨w1, w2⟩ : was = 5 ∧ True := ⟨by omega, trivial⟩
        refine bad 3 k R3 (FrJ.refl _ _ _) ?_
        rw [w1, c6]
        exact g_full hS h (by omega) hl
      · have hx : prL (fun k b => pr n ch D 2 k d tk b) ch tk (m + 1) k c = (match pr n ch D 2 (k + 1) d tk true with
            | some (.inl j) => prL (fun k b => pr n ch D 2 k d tk b) ch tk m j (c + 1)
            | some (.inr x) => some (.inr x)
            | none => none) := by
          show (if ltr (ch k) then (if c = 6 then _ else _) else _) = _
          rw [if_pos hl, if_neg c6]; rfl
        have hkn := lt_n k (by omega)
        have ha : MP n ch (k + 1) d (atR R3 (k + 1)) := h.at (k + 1)
        obtain ⟨gl1, gl2⟩ := g_ltr (N := N) hS h (by omega) hl w45 (show c < 6 by omega)
        rcases ob (N := N) (l1 := l1) (l2 := l2) (D := D) hS (w := 5) (kd := true) (tk := tk) (by omega) (by omega) (by omega) ⟨fun _ => rfl, fun _ => rfl⟩ ha (ht.trans (isT_ss (atR_SS R3 (k + 1) d)).symm) ih with ⟨a, p, e1, e2⟩ | ⟨hc, hd8, e1, e2⟩
        · rw [hx]
          cases hf : pr n ch D 2 (k + 1) d tk true with
          | none => exact ⟨fun j hj => (by cases hj), fun a p hj => (by cases hj)⟩
          | some y =>
            have := e2 y hf
            subst this
            refine ⟨fun j hj => (by cases hj), fun a' p' hj => ?_⟩
            cases hj
            exact bad a p (atR R3 (k + 1)) (atR_f _ _) (gl1 _ e1)
        · generalize hRo : opR (atR R3 (k + 1)) (nI 5) (k + 1) d = Ro at *
          have mo : MP n ch (k + 2) (d + 1) Ro := by rw [← hRo]; exact opR_MP ha _
          have fo : FrJ [7, 15] A4 R3 Ro := by rw [← hRo]; exact (atR_f _ _).trans (opR_f _ _ _ _)
          have so : SS d R3 Ro := by rw [← hRo]; exact (atR_SS _ _ _).trans (opR_SS _ _ _ _)
          have g2 := gl2 Ro (d + 1) (by omega) mo.2.2.1 e1
          generalize hR1 : mnR Ro (d + 1) (nI (c + 1)) = R1 at *
          have m1 : MP n ch (k + 2) (d + 1) R1 := by rw [← hR1]; exact mnR_MP mo _
          have f1 : FrJ [7, 15] A4 R3 R1 := by rw [← hR1]; unfold mnR; exact fo.i (by decide) (by decide)
          have s1 : SS d R3 R1 := fun q hq => by
            rw [← hR1]; unfold mnR
            exact ⟨by rw [si_nx _ _ (by decide)]; exact (so q hq).1, by rw [si_nx _ _ (by decide)]; exact (so q hq).2.1, by rw [si_ni _ _ (by omega)]; exact (so q hq).2.2⟩
          have h135 : R1.1 135 = R3.1 135 := by rw [← hR1, ← hRo]; unfold mnR; rw [si_nx _ _ (by decide), opR_135, atR_135]
          have h136 : R1.1 136 (d + 1) = nI (k + 1) := by rw [← hR1, ← hRo]; unfold mnR; rw [si_nx _ _ (by decide), opR_136]
          have h137 : R1.1 137 (d + 1) = nI 5 := by rw [← hR1, ← hRo]; unfold mnR; rw [si_nx _ _ (by decide), opR_137]
          have h138 : R1.1 138 (d + 1) = nI (c + 1) := by rw [← hR1]; unfold mnR; rw [si_at]
          have st1 := hst 1 R1 g2 (Or.inr rfl)
          obtain ⟨x1, x2⟩ := e2 R1 m1 h136 h137 (fun q hq => by
            have := s1 q hq
            have t := atR_SS R3 (k + 1) d q hq
            exact ⟨this.1.trans t.1.symm, this.2.1.trans t.2.1.symm, this.2.2.trans t.2.2.symm⟩)
          rw [hx]
          cases hf : pr n ch D 2 (k + 1) d tk true with
          | none => exact ⟨fun j hj => (by cases hj), fun a p hj => (by cases hj)⟩
          | some y =>
            cases y with
            | inr ap =>
              obtain ⟨a, p⟩ := ap
              refine ⟨fun j hj => (by cases hj), fun a' p' hj => ?_⟩
              cases hj
              obtain ⟨cc, R', c1, c2, c3⟩ := x2 a p hf
              refine ⟨cc + 1, R', by omega, (f1.wid (by decide)).trans c2, ?_⟩
              rcases c3 with ⟨c3, c4, c5⟩ | ⟨c3, c4, c5, c6', c7, c8⟩
              · refine Or.inl ⟨fun M => ?_, c4, c5⟩
                rw [show M + (cc + 1) + 1 = M + cc + 1 + 1 by omega, st1]; exact c3 M
              · refine Or.inr ⟨fun M => ?_, c4, c5, by rw [c6', f1.2.2 5 (by decide)], by rw [c7, f1.2.2 6 (by decide)], c8⟩
                rw [show M + (cc + 1) + 1 = M + cc + 1 + 1 by omega, st1]; exact c3 M
            | inl k' =>
              obtain ⟨R3', R2', cc, c1, c2, c3, c4, c5, c6', c7, c8, c9⟩ := x1 k' hf
              have hrec := go_L hS hd ih m k' (c + 1) 5 R2' R3' c2 (Or.inr ⟨rfl, by omega, by omega⟩) c5 (ht.trans ((isT_ss (s1.trans c7)).symm)) (fun g R' hg hg01 M => c9 g R' (by rw [if_pos rfl, h138]; exact hg) hg01 M)
              obtain ⟨r1, r2⟩ := hrec
              have pre : ∀ M, whl (M + (cc + 1)) (bT N l1 l2) (1, R2) = whl M (bT N l1 l2) (1, R2') := fun M => by
                rw [show M + (cc + 1) = M + cc + 1 by omega, st1, c4]
              refine ⟨fun j hj => ?_, fun a p hj => ?_⟩
              · have hj2 : prL (fun k b => pr n ch D 2 k d tk b) ch tk m k' (c + 1) = some (.inl j) := hj
                have hkj := (prL_ok hS.2.1 (F := fun k b => pr n ch D 2 k d tk b) (tk := tk) (fun i b j hF => pr_ok hn hS.2.1 D 2 i d tk b j (fun w => absurd w (by omega)) (fun w => absurd w (by omega)) hF) m k' (c + 1) j c2 (by omega) hj2).2.1.1
                obtain ⟨R', e, e1', e2', e3', e4', e5', e6'⟩ := r1 j hj
                refine ⟨R', e + (cc + 1), by omega, fun M => ?_, e3', (f1.trans c6').trans e4', (s1.trans c7).trans e5', fun b b1 b2 b3 => ?_, fun b hb => ?_⟩
                · rw [← Nat.add_assoc, pre, e2']
                · by_cases v : b < k'
                  · rw [e6'.2 b (Or.inl v)]
                    by_cases v2 : b = k
                    · rw [v2] at b3; omega
                    · exact c8.1 b (by omega) v b3
                  · exact e6'.1 b (by omega) b2 b3
                · rw [e6'.2 b (by omega), c8.2 b (by omega), h135]
              · obtain ⟨e, R', e1', e2', e3'⟩ := r2 a p hj
                refine ⟨e + (cc + 1), R', by omega, ((f1.trans c6').wid (by decide)).trans e2', ?_⟩
                rcases e3' with ⟨e3', e4', e5'⟩ | ⟨e3', e4', e5', e6', e7', e8'⟩
                · refine Or.inl ⟨fun M => ?_, e4', e5'⟩
                  rw [show M + (e + (cc + 1)) + 1 = M + e + 1 + (cc + 1) by omega, pre]; exact e3' M
                · refine Or.inr ⟨fun M => ?_, e4', e5', by rw [e6', (f1.trans c6').2.2 5 (by decide)], by rw [e7', (f1.trans c6').2.2 6 (by decide)], e8'⟩
                  rw [show M + (e + (cc + 1)) + 1 = M + e + 1 + (cc + 1) by omega, pre]; exact e3' M
    · by_cases hz : ch k = 90
      · have hx : prL (fun k b => pr n ch D 2 k d tk b) ch tk (m + 1) k c = pr n ch D 2 (k + 1) d tk false := by
          show (if ltr (ch k) then _ else if ch k = 90 then _ else _) = _
          rw [if_neg hl, if_pos hz]
        rw [hx]
        have hkn := lt_n k (by omega)
        exact go_last hS (w := 6) (q := k + 1) (Ra := atR R3 (k + 1)) (by omega) (by omega) hk (by omega) (by omega) (Or.inr rfl) (h.at (k + 1)) (atR_f _ _) (atR_SS _ _ _) (atR_135 _ _) (fun b b1 b2 b3 => by rw [show b = k by omega] at b3; omega) (ht.trans (isT_ss (atR_SS R3 (k + 1) d)).symm) ih (fun g R' ho hg M => hst g R' (g_z hS h (by omega) hz w45 _ ho hg) hg M)
      · by_cases c0 : c = 0
        · have hx : prL (fun k b => pr n ch D 2 k d tk b) ch tk (m + 1) k c = some (.inr (1, k)) := by
            show (if ltr (ch k) then _ else if ch k = 90 then _ else if c = 0 then _ else _) = _
            rw [if_neg hl, if_neg hz, if_pos c0]
          rw [hx]
          refine ⟨fun j hj => (by cases hj), fun a p hj => ?_⟩
          cases hj
          refine bad 1 k R3 (FrJ.refl _ _ _) ?_
          rw [show was = 4 by omega]
          exact g_4 hS h (by omega) hl hz _
        · have hx : prL (fun k b => pr n ch D 2 k d tk b) ch tk (m + 1) k c = some (.inl k) := by
            show (if ltr (ch k) then _ else if ch k = 90 then _ else if c = 0 then _ else _) = _
            rw [if_neg hl, if_neg hz, if_neg c0]
          rw [hx]
          refine ⟨fun j hj => ?_, fun a p hj => (by cases hj)⟩
          have hjk : k = j := by cases hj; rfl
          subst hjk
          refine ⟨R3, 1, by omega, fun M => ?_, h, FrJ.refl _ _ _, fun _ _ => ⟨rfl, rfl, rfl⟩, fun b b1 b2 => absurd b1 (by omega), fun _ _ => rfl⟩
          refine hst 1 R3 ?_ (Or.inr rfl) M
          rw [show was = 5 by omega]
          exact g_5 hS h (by omega) hl hz _
end ME2
