/-! ===== the second program's reader follows pr ===== -/
def isT (d : Nat) (R : St) : Prop := ∃ k, 1 ≤ k ∧ k ≤ d ∧ R.1 137 k = 5
def A4 : List Nat := [135, 136, 137, 138]
section MB
variable {N n i d : Nat} {ch : Nat → Nat} {R : St}
theorem s_isTaking (hN : 60 < N) (h : MP n ch i d R) (hd : d ≤ 8) : fX8_isTaking N R = some (bP (isT d R), R) := by
  have key : WP (fX8_isTaking N R) (fun z => z.2 = R ∧ z.1 = bP (isT d R)) := by
    unfold fX8_isTaking
    refine WP.bnd (P := fun z => z.2 = R ∧ z.1 = bP (isT d R)) ?_ (fun y hy => WP.ret hy)
    unfold fX8_isTaking_4
    refine WP.fr2 (d + 1) N (fun k a T => T = R ∧ 1 ≤ k ∧ a = bP (∃ k', 1 ≤ k' ∧ k' < k ∧ R.1 137 k' = 5)) (by omega) ?_ ?_ 1 (by omega) ⟨rfl, Nat.le_refl _, (bP_0 (fun ⟨k', h1, h2, _⟩ => absurd h2 (by omega))).symm⟩
    · rintro k a T hk ⟨rfl, k1, ha⟩
      unfold bfX8_isTaking_4 fX8_isTaking_26 fX8_isTaking_31
      try dsimp only
      rw [h.2.2.1]
      refine WP.no (nI_nlt (by omega) (by omega)) ?_
      rw [ha]
      by_cases q : ∃ k', 1 ≤ k' ∧ k' < k ∧ T.1 137 k' = 5
      · refine WP.no (fun z => bP_eq0.mp z q) (WP.ret ⟨1, T, by rw [nI_1], rfl, by omega, ?_⟩)
        obtain ⟨k', w1, w2, w3⟩ := q
        exact (bP_1 ⟨k', w1, by omega, w3⟩).symm
      · refine WP.yes (bP_0 q) (WP.ix (by omega) (by omega) ?_)
        rw [nI_cl (by omega)]
        by_cases q2 : T.1 137 k = 5
        · exact WP.yes q2 (WP.ret ⟨1, T, by rw [nI_1], rfl, by omega, (bP_1 ⟨k, k1, by omega, q2⟩).symm⟩)
        · refine WP.no q2 (WP.ret ⟨0, T, by rw [nI_1], rfl, by omega, (bP_0 ?_).symm⟩)
          rintro ⟨k', w1, w2, w3⟩
          by_cases v : k' = k
          · rw [v] at w3; exact q2 w3
          · exact q ⟨k', w1, by omega, w3⟩
    · rintro a T ⟨rfl, k1, ha⟩
      unfold bfX8_isTaking_4
      try dsimp only
      rw [h.2.2.1]
      refine WP.yes (nI_lt (by omega) (by omega)) (WP.yes (by rw [ha]; exact bP_01 _) (WP.ret ⟨_, rfl, rfl, ?_⟩))
      rw [ha]
      exact bP_congr ⟨fun ⟨k', w1, w2, w3⟩ => ⟨k', w1, by omega, w3⟩, fun ⟨k', w1, w2, w3⟩ => ⟨k', w1, by omega, w3⟩⟩
  obtain ⟨y, e, h1, h2⟩ := key
  rw [e]
  rw [show y = (y.1, y.2) from rfl, h1, h2]
theorem x_94 (hN : 60 < N) (hS : SK n ch) (h : MP n ch i d R) (hi : i < 900) (hd : d ≤ 8) (hc : ch i = 94) : (isT d R → fX8_readsStatement N R = some (1, atR R (i + 1))) ∧ (¬ isT d R → fX8_readsStatement N R = some (0, wrR R 1 i)) := by
  unfold fX8_readsStatement fX8_wrong
  rw [h.1, s_sign hS h (by omega)]
  simp only [Option.bind_some, s_isTaking hN h hd]
  rw [hc, if_neg (by decide), if_neg (by decide), if_neg (by decide), if_neg (by decide), if_neg (by decide), if_neg (by decide), if_neg (by decide), if_neg (by decide), if_pos (by decide), h.1, nI_1]
  constructor
  · intro q
    rw [if_neg (fun z => bP_eq0.mp z q)]; rfl
  · intro q
    rw [if_pos (bP_0 q), if_pos (Or.inl trivial)]; rfl
/-- the reader's loop -/
def bT (N : Nat) (l1 l2 : Int32) : Int32 × St → Option ((Int32 × St) ⊕ (Int32 × St)) := bfX8_text_57 N l1 l2
variable {l1 l2 : Int32}
theorem t_step (h : MP n ch i d R) (hn : n ≤ 60) (hi : i < n) {g : Int32} {R' : St} (e : fX8_readsStatement N R = some (g, R')) (M : Nat) : whl (M + 1) (bT N l1 l2) (1, R) = whl M (bT N l1 l2) (g, R') := by
  refine whl_s ?_
  unfold bT bfX8_text_57
  try dsimp only
  rw [if_neg (show ¬ ((1 : Int32) = 0) by decide), h.1, h.2.1, if_neg (nI_ge hi (by omega)), e]
  rfl
theorem t_bad (M : Nat) (R : St) : whl (M + 1) (bT N l1 l2) (0, R) = some (0, R) := by
  refine whl_e ?_
  unfold bT bfX8_text_57
  exact if_pos rfl
theorem t_end (h : MP n ch n d R) (hn : n ≤ 60) (M : Nat) : whl (M + 1) (bT N l1 l2) (1, R) = some (1, R) := by
  refine whl_e ?_
  unfold bT bfX8_text_57
  try dsimp only
  rw [if_neg (show ¬ ((1 : Int32) = 0) by decide), h.1, h.2.1, if_pos (nI_le (Nat.le_refl _) (by omega))]
def SS (d : Nat) (R R' : St) : Prop := ∀ k, k ≤ d → R'.1 136 k = R.1 136 k ∧ R'.1 137 k = R.1 137 k ∧ R'.1 138 k = R.1 138 k
def SH (ch : Nat → Nat) (i j : Nat) (R R' : St) : Prop := (∀ q, i ≤ q → q < j → ch q = 123 → R'.1 135 q = nI (mtp ch q)) ∧ ∀ q, (q < i ∨ j ≤ q) → R'.1 135 q = R.1 135 q
/-- from place i to place j at one depth -/
def RQ (N : Nat) (l1 l2 : Int32) (n : Nat) (ch : Nat → Nat) (i j d : Nat) (R R' : St) : Prop := (∃ k, k ≤ j - i ∧ ∀ M, whl (M + k) (bT N l1 l2) (1, R) = whl M (bT N l1 l2) (1, R')) ∧ MP n ch j d R' ∧ FrJ [7, 15] A4 R R' ∧ SS d R R' ∧ SH ch i j R R'
/-- a refusal -/
def RF (N : Nat) (l1 l2 : Int32) (n : Nat) (i : Nat) (R : St) (a p : Nat) : Prop := ∃ k R', k ≤ n - i + 1 ∧ FrJ [5, 6, 7, 15] A4 R R' ∧ (((∀ M, whl (M + k + 1) (bT N l1 l2) (1, R) = some (0, R')) ∧ R'.1 128 5 = nI a ∧ R'.1 128 6 = nI p) ∨ ((∀ M, whl (M + k + 1) (bT N l1 l2) (1, R) = some (1, R')) ∧ a = 1 ∧ p = n ∧ R'.1 128 5 = R.1 128 5 ∧ R'.1 128 6 = R.1 128 6 ∧ ∃ d', 0 < d' ∧ d' ≤ 8 ∧ R'.1 128 15 = nI d'))
theorem RQ.refl (h : MP n ch i d R) : RQ N l1 l2 n ch i i d R R := ⟨⟨0, by omega, fun M => rfl⟩, h, FrJ.refl _ _ _, fun _ _ => ⟨rfl, rfl, rfl⟩, fun q h1 h2 => absurd h1 (by omega), fun _ _ => rfl⟩
theorem RQ.trans {i j k d : Nat} {R R' R'' : St} (hij : i ≤ j) (hjk : j ≤ k) (h : RQ N l1 l2 n ch i j d R R') (h' : RQ N l1 l2 n ch j k d R' R'') : RQ N l1 l2 n ch i k d R R'' := by
  obtain ⟨⟨a, a1, a2⟩, a3, a4, a5, a6⟩ := h
  obtain ⟨⟨b, b1, b2⟩, b3, b4, b5, b6⟩ := h'
  refine ⟨⟨b + a, by omega, fun M => ?_⟩, b3, a4.trans b4, fun q hq => ?_, fun q h1 h2 h3 => ?_, fun q hq => ?_⟩
  · rw [← Nat.add_assoc, a2, b2]
  · have h1 := a5 q hq
    have h2 := b5 q hq
    exact ⟨h2.1.trans h1.1, h2.2.1.trans h1.2.1, h2.2.2.trans h1.2.2⟩
  · rcases Nat.lt_or_ge q j with w | w
    · rw [b6.2 q (Or.inl w)]; exact a6.1 q h1 w h3
    · exact b6.1 q w h2 h3
  · rw [b6.2 q (by omega), a6.2 q (by omega)]
theorem RQ.F {i j d : Nat} {R R' : St} {a p : Nat} (hij : i ≤ j) (hjn : j ≤ n) (h : RQ N l1 l2 n ch i j d R R') (h' : RF N l1 l2 n j R' a p) : RF N l1 l2 n i R a p := by
  obtain ⟨⟨c, a1, a2⟩, a3, a4, a5, a6⟩ := h
  obtain ⟨k, R'', b1, b2, b3⟩ := h'
  have f : FrJ [5, 6, 7, 15] A4 R R'' := (a4.wid (by decide)).trans b2
  refine ⟨k + c, R'', by omega, f, ?_⟩
  rcases b3 with ⟨b3, b4, b5⟩ | ⟨b3, b4, b5, b6, b7, b8⟩
  · refine Or.inl ⟨fun M => ?_, b4, b5⟩
    rw [show M + (k + c) + 1 = M + k + 1 + c by omega, a2]; exact b3 M
  · refine Or.inr ⟨fun M => ?_, b4, b5, by rw [b6, a4.2.2 5 (by decide)], by rw [b7, a4.2.2 6 (by decide)], b8⟩
    rw [show M + (k + c) + 1 = M + k + 1 + c by omega, a2]; exact b3 M
/-- one step that refuses -/
theorem RF.one (h : MP n ch i d R) (hn : n ≤ 60) (hi : i < n) {R0 : St} {a p : Nat} (f0 : FrJ [5, 6, 7, 15] A4 R R0) (e : fX8_readsStatement N R = some (0, wrR R0 (nI a) p)) : RF N l1 l2 n i R a p := by
  refine ⟨1, wrR R0 (nI a) p, by omega, ?_, Or.inl ⟨fun M => ?_, ?_, ?_⟩⟩
  · unfold wrR; exact (f0.m (by decide)).m (by decide)
  · rw [show M + 1 + 1 = M + 1 + 1 from rfl, t_step h hn hi e, t_bad]
  · unfold wrR; rw [si_ni _ _ (by decide), si_at]
  · unfold wrR; rw [si_at]
/-- one step that goes on without a brace -/
theorem RQ.one (h : MP n ch i d R) (hn : n ≤ 60) (hi : i < n) {j : Nat} (hij : i < j) (hb : ∀ q, i ≤ q → q < j → ch q ≠ 123) (e : fX8_readsStatement N R = some (1, atR R j)) : RQ N l1 l2 n ch i j d R (atR R j) := by
  refine ⟨⟨1, by omega, fun M => t_step h hn hi e M⟩, h.at j, ?_, fun k _ => ?_, fun q h1 h2 h3 => absurd h3 (hb q h1 h2), fun q _ => ?_⟩
  · unfold atR; exact (FrJ.refl _ _ _).m (by decide)
  · unfold atR
    exact ⟨by rw [si_nx _ _ (by decide)], by rw [si_nx _ _ (by decide)], by rw [si_nx _ _ (by decide)]⟩
  · unfold atR; rw [si_nx _ _ (by decide)]
end MB
