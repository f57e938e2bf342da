/-! ===== the second program's reader follows pr, all of it ===== -/
section MD
variable {N n : Nat} {ch : Nat → Nat} {l1 l2 : Int32}
theorem RF.pre {i i1 k0 : Nat} {R R1 : St} {a p : Nat} (h : ∀ M, whl (M + k0) (bT N l1 l2) (1, R) = whl M (bT N l1 l2) (1, R1)) (f : FrJ [7, 15] A4 R R1) (hi : i ≤ i1) (hn : i1 ≤ n) (hk : k0 ≤ i1 - i) (h' : RF N l1 l2 n i1 R1 a p) : RF N l1 l2 n i R a p := by
  obtain ⟨k, R'', b1, b2, b3⟩ := h'
  refine ⟨k + k0, R'', by omega, (f.wid (by decide)).trans b2, ?_⟩
  rcases b3 with ⟨b3, b4, b5⟩ | ⟨b3, b4, b5, b6, b7, b8⟩
  · refine Or.inl ⟨fun M => ?_, b4, b5⟩
    rw [show M + (k + k0) + 1 = M + k + 1 + k0 by omega, h]; exact b3 M
  · refine Or.inr ⟨fun M => ?_, b4, b5, by rw [b6, f.2.2 5 (by decide)], by rw [b7, f.2.2 6 (by decide)], b8⟩
    rw [show M + (k + k0) + 1 = M + k + 1 + k0 by omega, h]; exact b3 M
/-- refused by the step that is reached -/
theorem RF.at {i k0 : Nat} {R R2 R0 : St} {a p : Nat} (h : ∀ M, whl (M + k0) (bT N l1 l2) (1, R) = whl M (bT N l1 l2) (0, wrR R0 (nI a) p)) (f : FrJ [7, 15] A4 R R0) (hk : k0 ≤ n - i + 1) : RF N l1 l2 n i R a p := by
  refine ⟨k0, wrR R0 (nI a) p, hk, ?_, Or.inl ⟨fun M => ?_, ?_, ?_⟩⟩
  · unfold wrR; exact ((f.wid (by decide)).m (by decide)).m (by decide)
  · rw [show M + k0 + 1 = M + 1 + k0 by omega, h, t_bad]
  · unfold wrR; rw [si_ni _ _ (by decide), si_at]
  · unfold wrR; rw [si_at]
theorem atR_f (R : St) (i : Nat) : FrJ [7, 15] A4 R (atR R i) := by unfold atR; exact (FrJ.refl _ _ _).m (by decide)
theorem atR_SS (R : St) (i d : Nat) : SS d R (atR R i) := fun k _ => by
  unfold atR
  exact ⟨by rw [si_nx _ _ (by decide)], by rw [si_nx _ _ (by decide)], by rw [si_nx _ _ (by decide)]⟩
theorem atR_135 (R : St) (i : Nat) : (atR R i).1 135 = R.1 135 := by unfold atR; rw [si_nx _ _ (by decide)]
/-- a block is opened, or refused -/
theorem ob (hS : SK n ch) {D q d w : Nat} {tk kd : Bool} {Ra : St} (hq : q < 1000) (hd : d ≤ 8) (hw : w < 7) (hkd : kd = true ↔ w = 5) (h : MP n ch q d Ra) (ht : tk = true ↔ isT d Ra)
    (ih : ∀ D' i d tk R, D' < D → i ≤ n → MP n ch i d R → d ≤ 8 → (tk = true ↔ isT d R) → mR N l1 l2 n ch (pr n ch D' 0 i d tk false) i d R) :
    (∃ a p, fX8_opens N (nI w) Ra = some (0, wrR Ra (nI a) p) ∧ (∀ y, pr n ch D 2 q d tk kd = some y → y = .inr (a, p))) ∨
    (ch q = 123 ∧ d < 8 ∧ fX8_opens N (nI w) Ra = some (1, opR Ra (nI w) q d) ∧ ∀ R1, MP n ch (q + 1) (d + 1) R1 → R1.1 136 (d + 1) = nI q → R1.1 137 (d + 1) = nI w → SS d Ra R1 →
      (∀ j, pr n ch D 2 q d tk kd = some (.inl j) → ∃ R3, sgR N l1 l2 n ch q j d w R1 R3) ∧ (∀ a p, pr n ch D 2 q d tk kd = some (.inr (a, p)) → RF N l1 l2 n (q + 1) R1 a p)) := by
  by_cases hc : ch q = 123
  · have hqn : q < n := by
      rcases Nat.lt_or_ge q n with w | w
      · exact w
      · rw [hS.2.1 q w] at hc; omega
    by_cases hd8 : d < 8
    · refine Or.inr ⟨hc, hd8, o_ok hS h hq hc hd8 _, fun R1 m1 m2 m3 m4 => ?_⟩
      cases D with
      | zero => exact ⟨fun j hj => (by cases hj), fun a p hj => (by cases hj)⟩
      | succ D =>
        refine seg hS hd8 hc hw m1 m2 m3 (ih D (q + 1) (d + 1) (kd || tk) R1 (by omega) (by omega) m1 (by omega) ?_)
        rw [isT_s m4 hw m3, Bool.or_eq_true, hkd, ht]
    · obtain rfl : d = 8 := by omega
      refine Or.inl ⟨2, q, o_deep hS h hq hc _, fun y hy => ?_⟩
      cases D with
      | zero => cases hy
      | succ D =>
        have hy : (if ch q = 123 then (if 8 < 8 then _ else some (.inr (2, q))) else some (.inr (1, q)) : Rs) = some y := hy
        rw [if_pos hc, if_neg (by omega)] at hy
        cases hy; rfl
  · refine Or.inl ⟨1, q, o_bad hS h hq hc _, fun y hy => ?_⟩
    cases D with
    | zero => cases hy
    | succ D =>
      have hy : (if ch q = 123 then _ else some (.inr (1, q)) : Rs) = some y := hy
      rw [if_neg hc] at hy
      cases hy; rfl
/-- behind a block that is shut: what the one step goes on to -/
def goR (N : Nat) (l1 l2 : Int32) (n : Nat) (ch : Nat → Nat) (x : Rs) (k d : Nat) (R2 R3 : St) : Prop :=
  (∀ j, x = some (.inl j) → ∃ R' c, c ≤ j - k + 1 ∧ (∀ M, whl (M + c) (bT N l1 l2) (1, R2) = whl M (bT N l1 l2) (1, R')) ∧ MP n ch j d R' ∧ FrJ [7, 15] A4 R3 R' ∧ SS d R3 R' ∧ SH ch k j R3 R') ∧
  (∀ a p, x = some (.inr (a, p)) → ∃ c R', c ≤ n - k + 2 ∧ FrJ [5, 6, 7, 15] A4 R3 R' ∧ (((∀ M, whl (M + c + 1) (bT N l1 l2) (1, R2) = some (0, R')) ∧ R'.1 128 5 = nI a ∧ R'.1 128 6 = nI p) ∨ ((∀ M, whl (M + c + 1) (bT N l1 l2) (1, R2) = some (1, R')) ∧ a = 1 ∧ p = n ∧ R'.1 128 5 = R3.1 128 5 ∧ R'.1 128 6 = R3.1 128 6 ∧ ∃ d', 0 < d' ∧ d' ≤ 8 ∧ R'.1 128 15 = nI d')))
/-- one more block behind one that is shut, and then the end of it -/
theorem go_last (hS : SK n ch) {D q k d w : Nat} {tk : Bool} {R2 R3 Ra : St} (hk : k ≤ q) (hqk : q ≤ k + 1) (hkn : k ≤ n) (hq : q < 1000) (hd : d ≤ 8) (hw : w = 2 ∨ w = 6) (h : MP n ch q d Ra) (hfa : FrJ [7, 15] A4 R3 Ra) (hss : SS d R3 Ra) (h135 : Ra.1 135 = R3.1 135) (hnb : ∀ b, k ≤ b → b < q → ch b ≠ 123) (ht : tk = true ↔ isT d Ra)
    (ih : ∀ D' i d tk R, D' < D → i ≤ n → MP n ch i d R → d ≤ 8 → (tk = true ↔ isT d R) → mR N l1 l2 n ch (pr n ch D' 0 i d tk false) i d R)
    (hst : ∀ g R', fX8_opens N (nI w) Ra = some (g, R') → (g = 0 ∨ g = 1) → ∀ M, whl (M + 1) (bT N l1 l2) (1, R2) = whl M (bT N l1 l2) (g, R')) : goR N l1 l2 n ch (pr n ch D 2 q d tk false) k d R2 R3 := by
  have hw7 : w < 7 := by omega
  rcases ob hS (kd := false) hq hd hw7 ⟨fun z => (by cases z), fun z => (by omega)⟩ h ht ih with ⟨a, p, e1, e2⟩ | ⟨hc, hd8, e1, e2⟩
  · constructor
    · intro j hj; have := e2 _ hj; cases this
    · intro a' p' hj
      have := e2 _ hj
      cases this
      refine ⟨1, wrR Ra (nI a) p, by omega, ?_, Or.inl ⟨fun M => ?_, ?_, ?_⟩⟩
      · unfold wrR; exact ((hfa.wid (by decide)).m (by decide)).m (by decide)
      · rw [hst 0 _ e1 (Or.inl rfl), t_bad]
      · unfold wrR; rw [si_ni _ _ (by decide), si_at]
      · unfold wrR; rw [si_at]
  · have f1 := opR_f Ra (nI w) q d
    obtain ⟨s1, s2⟩ := e2 (opR Ra (nI w) q d) (opR_MP h _) (opR_136 _ _ _ _) (opR_137 _ _ _ _) (opR_SS _ _ _ _)
    have st1 := hst 1 _ e1 (Or.inr rfl)
    have hqn : q < n := by
      rcases Nat.lt_or_ge q n with w | w
      · exact w
      · rw [hS.2.1 q w] at hc; omega
    constructor
    · intro j hj
      obtain ⟨R3', R2', c, c1, c2, c3, c4, c5, c6, c7, c8, c9⟩ := s1 j hj
      have hge : fX8_goesOn N (nI w) (if w = 5 then (opR Ra (nI w) q d).1 138 (d + 1) else 0) R3' = some (1, R3') := g_end (by omega) _
      refine ⟨R3', c + 2, by omega, fun M => ?_, c5, (hfa.trans f1).trans c6, (hss.trans (opR_SS _ _ _ _)).trans c7, fun b b1 b2 b3 => ?_, fun b hb => ?_⟩
      · rw [show M + (c + 2) = M + 1 + c + 1 by omega, st1, c4, c9 1 R3' hge (Or.inr rfl)]
      · by_cases w' : b < q
        · exact absurd b3 (hnb b b1 w')
        · exact c8.1 b (by omega) b2 b3
      · rw [c8.2 b (by omega), opR_135, h135]
    · intro a p hj
      obtain ⟨c, R', c1, c2, c3⟩ := s2 a p hj
      refine ⟨c + 1, R', by omega, ((hfa.trans f1).wid (by decide)).trans c2, ?_⟩
      rcases c3 with ⟨c3, c4, c5⟩ | ⟨c3, c4, c5, c6, c7, c8⟩
      · refine Or.inl ⟨fun M => ?_, c4, c5⟩
        rw [show M + (c + 1) + 1 = M + c + 1 + 1 by omega, st1]; exact c3 M
      · refine Or.inr ⟨fun M => ?_, c4, c5, by rw [c6, (hfa.trans f1).2.2 5 (by decide)], by rw [c7, (hfa.trans f1).2.2 6 (by decide)], c8⟩
        rw [show M + (c + 1) + 1 = M + c + 1 + 1 by omega, st1]; exact c3 M
end MD
