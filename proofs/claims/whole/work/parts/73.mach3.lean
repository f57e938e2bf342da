/-! ===== a block of the second program's reader ===== -/
theorem prS_end {n : Nat} {ch : Nat → Nat} {F : Nat → Rs} (hF : ∀ i j, i < n → F i = some (.inl j) → i < j) : ∀ (m i j : Nat), prS F n ch m i = some (.inl j) → n ≤ j ∨ ch j = 125 ∨ i + m ≤ j
  | 0, i, j, h => by
    have : i = j := by cases h; rfl
    omega
  | m + 1, i, j, h => by
    have h : (if i < n ∧ ch i ≠ 125 then (match F i with
      | some (.inl j) => prS F n ch m j
      | some (.inr x) => some (.inr x)
      | none => none) else some (.inl i)) = some (.inl j) := h
    by_cases q : i < n ∧ ch i ≠ 125
    · rw [if_pos q] at h
      cases hf : F i with
      | none => rw [hf] at h; cases h
      | some y =>
        cases y with
        | inr x => rw [hf] at h; cases h
        | inl k =>
          rw [hf] at h
          have h1 := hF i k q.1 hf
          rcases prS_end hF m k j h with w | w | w
          · exact Or.inl w
          · exact Or.inr (Or.inl w)
          · exact Or.inr (Or.inr (by omega))
    · rw [if_neg q] at h
      have : i = j := by cases h; rfl
      subst this
      by_cases w : i < n
      · exact Or.inr (Or.inl (Classical.byContradiction (fun z => q ⟨w, z⟩)))
      · exact Or.inl (by omega)
theorem pr0_end {n : Nat} {ch : Nat → Nat} (hn : n ≤ 60) (hz : ∀ q, n ≤ q → ch q = 0) {D i d : Nat} {tk : Bool} {j : Nat} (hi : 0 < i) (hin : i ≤ n) (h : pr n ch D 0 i d tk false = some (.inl j)) (hj : ch j ≠ 125) : j = n := by
  have h1 := pr_ok hn hz D 0 i d tk false j (fun _ => hin) (fun w => absurd w (by omega)) h
  cases D with
  | zero => cases h
  | succ D =>
    have h : prS (fun j => pr n ch D 1 j d tk false) n ch 60 i = some (.inl j) := h
    have h2 := prS_end (fun i j hi hF => (pr_ok hn hz D 1 i d tk false j (fun w => absurd w (by omega)) (fun _ => hi) hF).2.2.2.1) 60 i j h
    have h3 := h1.1
    rcases h2 with w | w | w
    · omega
    · exact absurd w hj
    · omega
section MC
variable {N n : Nat} {ch : Nat → Nat} {l1 l2 : Int32}
theorem opR_f (R : St) (l : Int32) (i d : Nat) : FrJ [7, 15] A4 R (opR R l i d) := by
  unfold opR
  exact (((FrJ.refl _ _ R).m (by decide)).i (by decide) (by decide)).i (by decide) (by decide) |>.m (by decide)
theorem opR_135 (R : St) (l : Int32) (i d : Nat) : (opR R l i d).1 135 = R.1 135 := by
  unfold opR
  rw [si_nx _ _ (by decide), si_nx _ _ (by decide), si_nx _ _ (by decide), si_nx _ _ (by decide)]
theorem opR_136 (R : St) (l : Int32) (i d : Nat) : (opR R l i d).1 136 (d + 1) = nI i := by
  unfold opR
  rw [si_nx _ _ (by decide), si_nx _ _ (by decide), si_at]
theorem opR_137 (R : St) (l : Int32) (i d : Nat) : (opR R l i d).1 137 (d + 1) = l := by
  unfold opR
  rw [si_nx _ _ (by decide), si_at]
theorem opR_SS (R : St) (l : Int32) (i d : Nat) : SS d R (opR R l i d) := by
  intro k hk
  unfold opR
  refine ⟨?_, ?_, ?_⟩
  · rw [si_nx _ _ (by decide), si_nx _ _ (by decide), si_ni _ _ (by omega), si_nx _ _ (by decide)]
  · rw [si_nx _ _ (by decide), si_ni _ _ (by omega), si_nx _ _ (by decide), si_nx _ _ (by decide)]
  · rw [si_nx _ _ (by decide), si_nx _ _ (by decide), si_nx _ _ (by decide), si_nx _ _ (by decide)]
theorem isT_s {d : Nat} {R R1 : St} (hs : SS d R R1) {w : Nat} (hw : w < 7) (h : R1.1 137 (d + 1) = nI w) : isT (d + 1) R1 ↔ (w = 5 ∨ isT d R) := by
  constructor
  · rintro ⟨k, k1, k2, k3⟩
    by_cases q : k = d + 1
    · rw [q, h] at k3
      exact Or.inl ((nI_eq (a := w) (b := 5) (by omega) (by omega)).mp k3)
    · exact Or.inr ⟨k, k1, by omega, by rw [← (hs k (by omega)).2.1]; exact k3⟩
  · rintro (q | ⟨k, k1, k2, k3⟩)
    · exact ⟨d + 1, by omega, Nat.le_refl _, by rw [h, q]; rfl⟩
    · exact ⟨k, k1, by omega, by rw [(hs k k2).2.1]; exact k3⟩
theorem isT_ss {d : Nat} {R R1 : St} (hs : SS d R R1) : isT d R1 ↔ isT d R := by
  constructor
  · rintro ⟨k, k1, k2, k3⟩; exact ⟨k, k1, k2, by rw [← (hs k k2).2.1]; exact k3⟩
  · rintro ⟨k, k1, k2, k3⟩; exact ⟨k, k1, k2, by rw [(hs k k2).2.1]; exact k3⟩
theorem SS.trans {d : Nat} {R S T : St} (h : SS d R S) (k : SS d S T) : SS d R T := fun q hq => ⟨(k q hq).1.trans (h q hq).1, (k q hq).2.1.trans (h q hq).2.1, (k q hq).2.2.trans (h q hq).2.2⟩
/-- what each mode gives the second program -/
def mR (N : Nat) (l1 l2 : Int32) (n : Nat) (ch : Nat → Nat) (x : Rs) (i d : Nat) (R : St) : Prop := (∀ j, x = some (.inl j) → ∃ R', RQ N l1 l2 n ch i j d R R') ∧ (∀ a p, x = some (.inr (a, p)) → RF N l1 l2 n i R a p)
/-- a block that has been opened: it is shut at j - 1, and what follows is one step's going on; or it is refused -/
def sgR (N : Nat) (l1 l2 : Int32) (n : Nat) (ch : Nat → Nat) (q j d w : Nat) (R1 R3 : St) : Prop := ∃ (R2 : St) (k : Nat), q + 2 ≤ j ∧ j ≤ n ∧ k ≤ j - 1 - (q + 1) ∧ (∀ M, whl (M + k) (bT N l1 l2) (1, R1) = whl M (bT N l1 l2) (1, R2)) ∧ MP n ch j d R3 ∧ FrJ [7, 15] A4 R1 R3 ∧ SS d R1 R3 ∧ SH ch q j R1 R3 ∧ (∀ g R', fX8_goesOn N (nI w) (if w = 5 then R1.1 138 (d + 1) else 0) R3 = some (g, R') → (g = 0 ∨ g = 1) → ∀ M, whl (M + 1) (bT N l1 l2) (1, R2) = whl M (bT N l1 l2) (g, R'))
theorem seg (hS : SK n ch) {D q d w : Nat} {tk kd : Bool} {R1 : St} (hd : d < 8) (hq : ch q = 123) (hw : w < 7) (h1 : MP n ch (q + 1) (d + 1) R1) (h136 : R1.1 136 (d + 1) = nI q) (h137 : R1.1 137 (d + 1) = nI w) (ih : mR N l1 l2 n ch (pr n ch D 0 (q + 1) (d + 1) (kd || tk) false) (q + 1) (d + 1) R1) :
    (∀ j, pr n ch (D + 1) 2 q d tk kd = some (.inl j) → ∃ R3, sgR N l1 l2 n ch q j d w R1 R3) ∧ (∀ a p, pr n ch (D + 1) 2 q d tk kd = some (.inr (a, p)) → RF N l1 l2 n (q + 1) R1 a p) := by
  have hn := hS.1
  have hqn : q < n := by
    rcases Nat.lt_or_ge q n with w | w
    · exact w
    · rw [hS.2.1 q w] at hq; omega
  have hpr : pr n ch (D + 1) 2 q d tk kd = (match pr n ch D 0 (q + 1) (d + 1) (kd || tk) false with
        | some (.inl e) => if ch e = 125 then some (.inl (e + 1)) else some (.inr (1, e))
        | some (.inr x) => some (.inr x)
        | none => none) := by
    show (if ch q = 123 then (if d < 8 then _ else _) else _) = _
    rw [if_pos hq, if_pos hd]; rfl
  constructor
  · intro j hj
    have hok := pr_ok hn hS.2.1 (D + 1) 2 q d tk kd j (fun w => absurd w (by omega)) (fun w => absurd w (by omega)) hj
    obtain ⟨o1, o2, o3, o4, o5, o6⟩ := hok
    rw [hpr] at hj
    cases hf : pr n ch D 0 (q + 1) (d + 1) (kd || tk) false with
    | none => rw [hf] at hj; cases hj
    | some y =>
      cases y with
      | inr x => rw [hf] at hj; cases hj
      | inl e =>
        rw [hf] at hj
        have hj : (if ch e = 125 then some (.inl (e + 1)) else some (.inr (1, e)) : Rs) = some (.inl j) := hj
        by_cases he : ch e = 125
        · rw [if_pos he] at hj
          have hje : e + 1 = j := by cases hj; rfl
          subst hje
          obtain ⟨R2, ⟨k, k1, k2⟩, k3, k4, k5, k6⟩ := ih.1 e hf
          have hm : mtp ch q = e := by omega
          have hqe : q + 1 ≤ e := by omega
          have s1 := k5 (d + 1) (Nat.le_refl _)
          refine ⟨shR R2 q e (d + 1), R2, k, by omega, o1, by omega, k2, ?_, ?_, ?_, ?_, fun g R' hg hg01 M => ?_⟩
          · have := shR_MP k3 q
            rw [show d + 1 - 1 = d by omega] at this
            exact this
          · unfold shR; exact ((k4.i (by decide) (by decide)).m (by decide)).m (by decide)
          · refine (fun k hk => ?_ : SS d R1 (shR R2 q e (d + 1)))
            have := k5 k (by omega)
            unfold shR
            refine ⟨?_, ?_, ?_⟩
            · rw [si_nx _ _ (by decide), si_nx _ _ (by decide), si_nx _ _ (by decide)]; exact this.1
            · rw [si_nx _ _ (by decide), si_nx _ _ (by decide), si_nx _ _ (by decide)]; exact this.2.1
            · rw [si_nx _ _ (by decide), si_nx _ _ (by decide), si_nx _ _ (by decide)]; exact this.2.2
          · have e135 : ∀ b, (shR R2 q e (d + 1)).1 135 b = if b = q then nI e else R2.1 135 b := fun b => by
              unfold shR
              rw [si_nx _ _ (by decide), si_nx _ _ (by decide), si_if]
            refine ⟨fun b b1 b2 b3 => ?_, fun b hb => ?_⟩
            · rw [e135]
              by_cases w : b = q
              · rw [if_pos w, w, hm]
              · rw [if_neg w]
                by_cases w2 : b = e
                · rw [w2] at b3; omega
                · exact k6.1 b (by omega) (by omega) b3
            · rw [e135, if_neg (by omega), k6.2 b (by omega)]
          · refine t_step k3 hn (by omega) ?_ M
            refine x_125 hS k3 (by omega) he (s_shuts k3 (by omega) (by omega) (q := q) (w := w) (by omega) hw (by rw [s1.1]; exact h136) (by rw [s1.2.1]; exact h137) ?_ hg01) hg01
            rw [s1.2.2]; exact hg
        · rw [if_neg he] at hj; cases hj
  · intro a p hap
    rw [hpr] at hap
    cases hf : pr n ch D 0 (q + 1) (d + 1) (kd || tk) false with
    | none => rw [hf] at hap; cases hap
    | some y =>
      cases y with
      | inr x =>
        rw [hf] at hap
        have : x = (a, p) := by cases hap; rfl
        rw [this] at hf
        exact ih.2 a p hf
      | inl e =>
        rw [hf] at hap
        have hap : (if ch e = 125 then some (.inl (e + 1)) else some (.inr (1, e)) : Rs) = some (.inr (a, p)) := hap
        by_cases he : ch e = 125
        · rw [if_pos he] at hap; cases hap
        · rw [if_neg he] at hap
          have ha : a = 1 ∧ p = e := by cases hap; exact ⟨rfl, rfl⟩
          -- it ends with the text
          obtain ⟨R2, ⟨k, k1, k2⟩, k3, k4, k5, k6⟩ := ih.1 e hf
          have hen : e = n := pr0_end hn hS.2.1 (by omega) (by omega) hf he
          obtain ⟨ha1, ha2⟩ := ha
          rw [hen] at k3 k1
          refine ⟨k, R2, by omega, k4.wid (by decide), Or.inr ⟨fun M => ?_, ha1, by omega, k4.2.2 5 (by decide), k4.2.2 6 (by decide), d + 1, by omega, by omega, k3.2.2.1⟩⟩
          rw [show M + k + 1 = M + 1 + k by omega, k2, t_end k3 hn]
end MC
