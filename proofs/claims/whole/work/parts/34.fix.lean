/-! ===== the least STEPS of all: rounds from the top ===== -/
section FX
variable (F : (Nat → Nat) → Nat → Nat)
def itr : Nat → Nat → Nat
  | 0, _ => 1000
  | m + 1, x => F (itr m) x
end FX
def sm : Nat → (Nat → Nat) → Nat
  | 0, _ => 0
  | n + 1, f => sm n f + f n
theorem sm_le {n : Nat} {f g : Nat → Nat} (h : ∀ i, i < n → f i ≤ g i) : sm n f ≤ sm n g := by
  induction n with
  | zero => exact Nat.le_refl _
  | succ n ih =>
    have h1 := ih (fun i hi => h i (by omega))
    have h2 := h n (by omega)
    show sm n f + f n ≤ sm n g + g n
    omega
theorem sm_lt {n : Nat} {f g : Nat → Nat} (h : ∀ i, i < n → f i ≤ g i) {k : Nat} (hk : k < n) (hl : f k < g k) : sm n f < sm n g := by
  induction n with
  | zero => omega
  | succ n ih =>
    show sm n f + f n < sm n g + g n
    have h2 := h n (by omega)
    rcases Nat.lt_or_ge k n with q | q
    · have := ih (fun i hi => h i (by omega)) q
      omega
    · have e : k = n := by omega
      subst e
      have := sm_le (n := k) (f := f) (g := g) (fun i hi => h i (by omega))
      omega
theorem sm_bd {n b : Nat} {f : Nat → Nat} (h : ∀ i, i < n → f i ≤ b) : sm n f ≤ n * b := by
  induction n with
  | zero => exact Nat.zero_le _
  | succ n ih =>
    have h1 := ih (fun i hi => h i (by omega))
    have h2 := h n (by omega)
    show sm n f + f n ≤ (n + 1) * b
    rw [Nat.succ_mul]; omega
section FX2
variable {F : (Nat → Nat) → Nat → Nat} (hG : ∀ x, Gd (fun X => F X x)) (hT : ∀ X x, 896 ≤ x → F X x = 1000) (hL : ∀ X x, F X x ≤ 1000)
theorem itr_le (hL : ∀ X x, F X x ≤ 1000) : ∀ (m x : Nat), itr F m x ≤ 1000
  | 0, _ => Nat.le_refl _
  | m + 1, x => hL _ x
theorem itr_dn (hG : ∀ x, Gd (fun X => F X x)) (hL : ∀ X x, F X x ≤ 1000) : ∀ (m x : Nat), itr F (m + 1) x ≤ itr F m x
  | 0, x => hL _ x
  | m + 1, x => (hG x).1 _ _ (fun c => itr_dn hG hL m c)
theorem itr_dn' (hG : ∀ x, Gd (fun X => F X x)) (hL : ∀ X x, F X x ≤ 1000) (m : Nat) : ∀ (k x : Nat), itr F (m + k) x ≤ itr F m x
  | 0, _ => Nat.le_refl _
  | k + 1, x => Nat.le_trans (itr_dn hG hL (m + k) x) (itr_dn' hG hL m k x)
theorem itr_eq {m : Nat} (h : ∀ x, itr F (m + 1) x = itr F m x) : ∀ (k x : Nat), itr F (m + k) x = itr F m x
  | 0, _ => rfl
  | k + 1, x => by
    show F (itr F (m + k)) x = _
    rw [show itr F (m + k) = itr F m from funext (itr_eq h k)]
    exact h x
theorem itr_st (hG : ∀ x, Gd (fun X => F X x)) (hT : ∀ X x, 896 ≤ x → F X x = 1000) (hL : ∀ X x, F X x ≤ 1000) : ∃ m, ∀ x, itr F (m + 1) x = itr F m x := by
  refine Classical.byContradiction (fun hc => ?_)
  have hs : ∀ m, sm 896 (itr F (m + 1)) < sm 896 (itr F m) := by
    intro m
    have h1 : ∃ x, itr F (m + 1) x ≠ itr F m x := Classical.byContradiction (fun h => hc ⟨m, fun x => Classical.byContradiction (fun h2 => h ⟨x, h2⟩)⟩)
    obtain ⟨x, hx⟩ := h1
    have hle := itr_dn hG hL m x
    have hx8 : x < 896 := by
      rcases Nat.lt_or_ge x 896 with q | q
      · exact q
      · refine absurd ?_ hx
        have e1 : itr F (m + 1) x = 1000 := hT _ x q
        have e2 := itr_le hL m x
        omega
    exact sm_lt (fun i _ => itr_dn hG hL m i) hx8 (by omega)
  have hb : ∀ m, sm 896 (itr F m) + m ≤ 896000 := by
    intro m
    induction m with
    | zero =>
      have h := sm_bd (n := 896) (b := 1000) (f := itr F 0) (fun i _ => itr_le hL 0 i)
      omega
    | succ m ih => have := hs m; omega
  have := hb 896001
  omega
/-- the last of all -/
theorem itr_lim (hG : ∀ x, Gd (fun X => F X x)) (hT : ∀ X x, 896 ≤ x → F X x = 1000) (hL : ∀ X x, F X x ≤ 1000) : ∀ x, itr F 897 x = itr F 896 x := by
  obtain ⟨M, hM⟩ := itr_st hG hT hL
  let Z := itr F M
  have hZ : ∀ x, F Z x = Z x := hM
  have hZle : ∀ m x, Z x ≤ itr F m x := by
    intro m x
    rcases Nat.le_total m M with q | q
    · have := itr_dn' hG hL m (M - m) x
      rw [show m + (M - m) = M by omega] at this
      exact this
    · have := itr_eq hM (m - M) x
      rw [show M + (m - M) = m by omega] at this
      exact Nat.le_of_eq this.symm
  -- cells that are as at last, counted
  let K : Nat → Nat := fun m => sm 896 (fun x => if itr F m x = Z x then 1 else 0)
  have hK : ∀ m, (∀ x, itr F m x = Z x) ∨ m ≤ K m := by
    intro m
    induction m with
    | zero => exact Or.inr (Nat.zero_le _)
    | succ m ih =>
      rcases ih with ih | ih
      · left
        intro x
        show F (itr F m) x = Z x
        rw [show itr F m = Z from funext ih]
        exact hZ x
      · by_cases ha : ∀ x, itr F m x = Z x
        · left
          intro x
          show F (itr F m) x = Z x
          rw [show itr F m = Z from funext ha]
          exact hZ x
        · right
          -- a cell that gets settled
          have hst : ∃ x, itr F m x ≠ Z x ∧ itr F (m + 1) x = Z x := by
            have hne : ∃ v, ∃ x, itr F m x ≠ Z x ∧ Z x = v := by
              refine Classical.byContradiction (fun h => ha (fun x => Classical.byContradiction (fun h2 => h ⟨Z x, x, h2, rfl⟩)))
            obtain ⟨v, ⟨x, hx, hv⟩, hl⟩ := pk_least (fun v => ∃ x, itr F m x ≠ Z x ∧ Z x = v) hne
            have hl' : ∀ y, itr F m y ≠ Z y → v ≤ Z y := by
              intro y hy
              rcases Nat.lt_or_ge (Z y) v with q | q
              · exact absurd ⟨y, hy, rfl⟩ (hl (Z y) q)
              · exact q
            have h1 := hZle m x
            have h2 := itr_le hL m x
            rcases Nat.lt_or_ge v 999 with q | q
            · refine ⟨x, hx, ?_⟩
              have h3 : F (itr F m) x ≤ F Z x := (hG x).2 Z (itr F m) v (by omega) (fun c hc => by
                by_cases z : itr F m c = Z c
                · omega
                · have := hl' c z; omega) (by show F Z x ≤ v; rw [hZ x]; omega)
              have h4 := hZle (m + 1) x
              have h5 : itr F (m + 1) x = F (itr F m) x := rfl
              rw [hZ x] at h3
              omega
            · refine Classical.byContradiction (fun hn => ha ?_)
              have hsame : ∀ y, itr F (m + 1) y = itr F m y := by
                intro y
                by_cases z : itr F m y = Z y
                · have a1 := hZle (m + 1) y
                  have a2 := itr_dn hG hL m y
                  omega
                · have a0 := hl' y z
                  have a1 := hZle m y
                  have a2 := itr_le hL m y
                  have a3 : itr F (m + 1) y ≠ Z y := fun w => hn ⟨y, z, w⟩
                  have a4 := hZle (m + 1) y
                  have a5 := itr_dn hG hL m y
                  omega
              intro y
              rcases Nat.le_total m M with q2 | q2
              · have := itr_eq hsame (M - m) y
                rw [show m + (M - m) = M by omega] at this
                exact this.symm
              · have := itr_eq hM (m - M) y
                rw [show M + (m - M) = m by omega] at this
                exact this
          obtain ⟨x, hx1, hx2⟩ := hst
          have hx8 : x < 896 := by
            rcases Nat.lt_or_ge x 896 with q | q
            · exact q
            · refine absurd ?_ hx1
              have e1 : Z x = 1000 := by rw [← hZ x]; exact hT _ x q
              have e2 := hZle m x
              have e3 := itr_le hL m x
              omega
          have := sm_lt (n := 896) (f := fun x => if itr F m x = Z x then 1 else 0) (g := fun x => if itr F (m + 1) x = Z x then 1 else 0) (fun y _ => by
            by_cases z : itr F m y = Z y
            · have a1 := hZle (m + 1) y
              have a2 := itr_dn hG hL m y
              rw [if_pos z, if_pos (by omega)]; exact Nat.le_refl _
            · rw [if_neg z]; exact Nat.zero_le _) hx8 (by
            rw [if_neg hx1, if_pos hx2]; exact Nat.one_pos)
          show m + 1 ≤ sm 896 (fun x => if itr F (m + 1) x = Z x then 1 else 0)
          have ih : m ≤ sm 896 (fun x => if itr F m x = Z x then 1 else 0) := ih
          omega
  have hall : ∀ x, itr F 896 x = Z x := by
    rcases hK 896 with h | h
    · exact h
    · intro x
      refine Classical.byContradiction (fun hx => ?_)
      have hx8 : x < 896 := by
        rcases Nat.lt_or_ge x 896 with q | q
        · exact q
        · refine absurd ?_ hx
          have e1 : Z x = 1000 := by rw [← hZ x]; exact hT _ x q
          have e2 := hZle 896 x
          have e3 := itr_le hL 896 x
          omega
      have h1 := sm_lt (n := 896) (f := fun x => if itr F 896 x = Z x then 1 else 0) (g := fun _ => 1) (fun y _ => by
        split
        · exact Nat.le_refl _
        · exact Nat.zero_le _) hx8 (by rw [if_neg hx]; exact Nat.one_pos)
      have h2 := sm_bd (n := 896) (b := 1) (f := fun _ => 1) (fun _ _ => Nat.le_refl _)
      have h : 896 ≤ sm 896 (fun x => if itr F 896 x = Z x then 1 else 0) := h
      omega
  intro x
  show F (itr F 896) x = _
  rw [show itr F 896 = Z from funext hall]
  exact hZ x
/-- what all rows come to -/
def Xs (F : (Nat → Nat) → Nat → Nat) : Nat → Nat := itr F 896
theorem Xs_fix (hG : ∀ x, Gd (fun X => F X x)) (hT : ∀ X x, 896 ≤ x → F X x = 1000) (hL : ∀ X x, F X x ≤ 1000) (x : Nat) : F (Xs F) x = Xs F x := itr_lim hG hT hL x
/-- what isn't above its own rows isn't above -/
theorem Xs_ge (hG : ∀ x, Gd (fun X => F X x)) {L : Nat → Nat} (h : ∀ x, L x ≤ F L x) (hl : ∀ x, L x ≤ 1000) : ∀ x, L x ≤ Xs F x := by
  have : ∀ m x, L x ≤ itr F m x := by
    intro m
    induction m with
    | zero => exact hl
    | succ m ih => intro x; exact Nat.le_trans (h x) ((hG x).1 _ _ ih)
  exact this 896
theorem Xs_it (hG : ∀ x, Gd (fun X => F X x)) (hT : ∀ X x, 896 ≤ x → F X x = 1000) (hL : ∀ X x, F X x ≤ 1000) {m : Nat} (hm : 896 ≤ m) (x : Nat) : itr F m x = Xs F x := by
  have := itr_eq (itr_lim hG hT hL) (m - 896) x
  rw [show 896 + (m - 896) = m by omega] at this
  exact this
end FX2
