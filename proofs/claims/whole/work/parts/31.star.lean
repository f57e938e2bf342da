/-! ===== the closure of a row of four under a table ===== -/
def rl (w : Nat → Nat → Nat) (h : Nat → Nat) (v : Nat) : Nat := min (h v) (vm 4 h w v)
def rln (w : Nat → Nat → Nat) : Nat → (Nat → Nat) → Nat → Nat
  | 0, h => h
  | n + 1, h => rl w (rln w n h)
def wkc (w : Nat → Nat → Nat) (h : Nat → Nat) (a : Nat → Nat) : Nat → Nat
  | 0 => h (a 0)
  | m + 1 => sat (wkc w h a m) (w (a m) (a (m + 1)))
theorem sat_ge {a b : Nat} (h : a ≤ 1000) : a ≤ sat a b := by unfold sat; split; omega; split <;> omega
theorem wkc_le {w : Nat → Nat → Nat} {h a : Nat → Nat} (hh : ∀ v, h v ≤ 1000) : ∀ m, wkc w h a m ≤ 1000
  | 0 => hh _
  | _ + 1 => sat_le _ _
theorem rln_le {w : Nat → Nat → Nat} {h : Nat → Nat} (hh : ∀ v, h v ≤ 1000) : ∀ n v, rln w n h v ≤ 1000
  | 0, v => hh v
  | n + 1, v => Nat.le_trans (Nat.min_le_left _ _) (rln_le hh n v)
theorem rln_anti {w : Nat → Nat → Nat} {h : Nat → Nat} : ∀ (k n : Nat) (v : Nat), rln w (n + k) h v ≤ rln w n h v
  | 0, _, _ => Nat.le_refl _
  | k + 1, n, v => Nat.le_trans (Nat.min_le_left _ _) (rln_anti k n v)
theorem rln_wk {w : Nat → Nat → Nat} {h a : Nat → Nat} (ha : ∀ i, a i < 4) : ∀ (m : Nat), rln w m h (a m) ≤ wkc w h a m
  | 0 => Nat.le_refl _
  | m + 1 => by
    refine Nat.le_trans (Nat.min_le_right _ _) ?_
    refine Nat.le_trans (mn_i _ (ha m)) ?_
    exact sat_mono (rln_wk ha m) (Nat.le_refl _)
theorem rln_at {w : Nat → Nat → Nat} {h : Nat → Nat} (hh : ∀ v, h v ≤ 1000) : ∀ (n v : Nat), v < 4 → rln w n h v = 1000 ∨ ∃ (m : Nat) (a : Nat → Nat), m ≤ n ∧ (∀ i, a i < 4) ∧ a m = v ∧ rln w n h v = wkc w h a m
  | 0, v, hv => Or.inr ⟨0, fun _ => v, Nat.le_refl _, fun _ => hv, rfl, rfl⟩
  | n + 1, v, hv => by
    show min (rln w n h v) (vm 4 (rln w n h) w v) = 1000 ∨ ∃ (m : Nat) (a : Nat → Nat), m ≤ n + 1 ∧ (∀ i, a i < 4) ∧ a m = v ∧ min (rln w n h v) (vm 4 (rln w n h) w v) = wkc w h a m
    rcases Nat.le_total (rln w n h v) (vm 4 (rln w n h) w v) with q | q
    · rw [Nat.min_eq_left q]
      rcases rln_at hh n v hv with e | ⟨m, a, h1, h2, h3, h4⟩
      · exact Or.inl e
      · exact Or.inr ⟨m, a, by omega, h2, h3, h4⟩
    · rw [Nat.min_eq_right q]
      rcases mn_at 4 (fun s => sat (rln w n h s) (w s v)) with e | ⟨s, hs, e⟩
      · exact Or.inl e
      · have e : vm 4 (rln w n h) w v = sat (rln w n h s) (w s v) := e
        rw [e]
        rcases rln_at hh n s hs with e2 | ⟨m, a, h1, h2, h3, h4⟩
        · left; rw [e2, sat_top]
        · right
          refine ⟨m + 1, fun i => if i ≤ m then a i else v, by omega, fun i => ?_, ?_, ?_⟩
          · show (if i ≤ m then a i else v) < 4
            split
            · exact h2 i
            · exact hv
          · show (if m + 1 ≤ m then a (m + 1) else v) = v
            rw [if_neg (by omega)]
          · show _ = sat (wkc w h (fun i => if i ≤ m then a i else v) m) (w (if m ≤ m then a m else v) (if m + 1 ≤ m then a (m + 1) else v))
            rw [if_pos (Nat.le_refl m), if_neg (show ¬ m + 1 ≤ m by omega), h3, h4]
            congr 1
            have : ∀ k, k ≤ m → wkc w h (fun i => if i ≤ m then a i else v) k = wkc w h a k := by
              intro k
              induction k with
              | zero => intro _; show h (if 0 ≤ m then a 0 else v) = h (a 0); rw [if_pos (by omega)]
              | succ k ih =>
                intro hk
                show sat (wkc w h (fun i => if i ≤ m then a i else v) k) (w (if k ≤ m then a k else v) (if k + 1 ≤ m then a (k + 1) else v)) = sat (wkc w h a k) (w (a k) (a (k + 1)))
                rw [ih (by omega), if_pos (by omega), if_pos hk]
            rw [this m (Nat.le_refl m)]
theorem wkc_up {w : Nat → Nat → Nat} {h a : Nat → Nat} (hh : ∀ v, h v ≤ 1000) : ∀ (d i : Nat), wkc w h a i ≤ wkc w h a (i + d)
  | 0, _ => Nat.le_refl _
  | d + 1, i => Nat.le_trans (wkc_up hh d i) (sat_ge (wkc_le hh _))
theorem wkc_cut {w : Nat → Nat → Nat} {h a : Nat → Nat} (hh : ∀ v, h v ≤ 1000) {i d : Nat} (e : a i = a (i + d)) : ∀ r, wkc w h (fun k => if k ≤ i then a k else a (k + d)) (i + r) ≤ wkc w h a (i + d + r)
  | 0 => by
    have : ∀ k, k ≤ i → wkc w h (fun k => if k ≤ i then a k else a (k + d)) k = wkc w h a k := by
      intro k
      induction k with
      | zero => intro _; show h (if 0 ≤ i then a 0 else a (0 + d)) = h (a 0); rw [if_pos (by omega)]
      | succ k ih =>
        intro hk
        show sat (wkc w h (fun k => if k ≤ i then a k else a (k + d)) k) (w (if k ≤ i then a k else a (k + d)) (if k + 1 ≤ i then a (k + 1) else a (k + 1 + d))) = sat (wkc w h a k) (w (a k) (a (k + 1)))
        rw [ih (by omega), if_pos (by omega), if_pos hk]
    rw [Nat.add_zero, Nat.add_zero, this i (Nat.le_refl i)]
    exact wkc_up hh d i
  | r + 1 => by
    show sat (wkc w h (fun k => if k ≤ i then a k else a (k + d)) (i + r)) (w (if i + r ≤ i then a (i + r) else a (i + r + d)) (if i + r + 1 ≤ i then a (i + r + 1) else a (i + r + 1 + d))) ≤ sat (wkc w h a (i + d + r)) (w (a (i + d + r)) (a (i + d + r + 1)))
    have e1 : (if i + r ≤ i then a (i + r) else a (i + r + d)) = a (i + d + r) := by
      by_cases q : r = 0
      · subst q; rw [if_pos (by omega), Nat.add_zero, Nat.add_zero]; exact e
      · rw [if_neg (by omega), show i + r + d = i + d + r by omega]
    have e2 : (if i + r + 1 ≤ i then a (i + r + 1) else a (i + r + 1 + d)) = a (i + d + r + 1) := by
      rw [if_neg (by omega), show i + r + 1 + d = i + d + r + 1 by omega]
    rw [e1, e2]
    exact sat_mono (wkc_cut hh e r) (Nat.le_refl _)
theorem pig4 {a : Nat → Nat} (ha : ∀ i, a i < 4) : ∃ i d, 0 < d ∧ i + d ≤ 4 ∧ a i = a (i + d) := by
  have h : ¬ ((List.range 5).map a).Nodup := by
    intro h
    have := nodup_le 4 _ h (fun x hx => by
      obtain ⟨i, hi, rfl⟩ := List.mem_map.mp hx
      exact ha i)
    rw [List.length_map, List.length_range] at this
    omega
  rw [List.nodup_iff_pairwise_ne, List.pairwise_map] at h
  refine Classical.byContradiction (fun hc => h ?_)
  refine List.Pairwise.imp_of_mem ?_ List.pairwise_lt_range
  intro x y hx hy hxy e
  have := List.mem_range.mp hy
  exact hc ⟨x, y - x, by omega, by omega, by rw [show x + (y - x) = y by omega]; exact e⟩
theorem rln_34 {w : Nat → Nat → Nat} {h : Nat → Nat} (hh : ∀ v, h v ≤ 1000) {v : Nat} (hv : v < 4) : rln w 3 h v ≤ rln w 4 h v := by
  rcases rln_at (w := w) hh 4 v hv with e | ⟨m, a, h1, h2, h3, h4⟩
  · rw [e]; exact rln_le hh 3 v
  · rcases Nat.lt_or_ge m 4 with q | q
    · rw [h4, ← h3]
      refine Nat.le_trans ?_ (rln_wk h2 m)
      have := rln_anti (w := w) (h := h) (3 - m) m (a m)
      rw [show m + (3 - m) = 3 by omega] at this
      exact this
    · obtain rfl : m = 4 := by omega
      obtain ⟨i, d, hd, hi, e⟩ := pig4 h2
      have h5 := wkc_cut (w := w) hh e (4 - i - d)
      rw [show i + d + (4 - i - d) = 4 by omega] at h5
      have h6 := rln_wk (w := w) (h := h) (a := fun k => if k ≤ i then a k else a (k + d)) (fun k => by
        show (if k ≤ i then a k else a (k + d)) < 4
        split <;> exact h2 _) (i + (4 - i - d))
      have e7 : (if i + (4 - i - d) ≤ i then a (i + (4 - i - d)) else a (i + (4 - i - d) + d)) = v := by
        by_cases q : 4 - i - d = 0
        · rw [if_pos (by omega), q, Nat.add_zero, e, show i + d = 4 by omega]; exact h3
        · rw [if_neg (by omega), show i + (4 - i - d) + d = 4 by omega]; exact h3
      have h6 : rln w (i + (4 - i - d)) h (if i + (4 - i - d) ≤ i then a (i + (4 - i - d)) else a (i + (4 - i - d) + d)) ≤ _ := h6
      rw [e7] at h6
      have h8 := rln_anti (w := w) (h := h) (3 - (i + (4 - i - d))) (i + (4 - i - d)) v
      rw [show i + (4 - i - d) + (3 - (i + (4 - i - d))) = 3 by omega] at h8
      rw [h4]
      omega
/-- the closure -/
def clo (w : Nat → Nat → Nat) (h : Nat → Nat) (v : Nat) : Nat := rln w 3 h v
theorem clo_st {w : Nat → Nat → Nat} {h : Nat → Nat} (hh : ∀ v, h v ≤ 1000) {u v : Nat} (hu : u < 4) (hv : v < 4) : clo w h v ≤ sat (clo w h u) (w u v) := by
  refine Nat.le_trans (rln_34 hh hv) ?_
  refine Nat.le_trans (Nat.min_le_right _ _) ?_
  exact mn_i (fun s => sat (rln w 3 h s) (w s v)) hu
theorem clo_le {w : Nat → Nat → Nat} {h : Nat → Nat} (hh : ∀ v, h v ≤ 1000) (v : Nat) : clo w h v ≤ 1000 := rln_le hh 3 v
theorem clo_h {w : Nat → Nat → Nat} {h : Nat → Nat} (v : Nat) : clo w h v ≤ h v := rln_anti 3 0 v
/-- rounds in place: between the closure and n rounds side by side -/
theorem clo_end {w : Nat → Nat → Nat} {h x : Nat → Nat} {n v : Nat} (hn : 3 ≤ n) (h1 : clo w h v ≤ x v) (h2 : x v ≤ rln w n h v) : x v = clo w h v := by
  have := rln_anti (w := w) (h := h) (n - 3) 3 v
  rw [show 3 + (n - 3) = n by omega] at this
  unfold clo at h1 ⊢
  omega
theorem rln_lin {w : Nat → Nat → Nat} {h : Nat → Nat} (hh : ∀ v, h v ≤ 1000) : ∀ (n v : Nat), v < 4 → rln w n h v = vm 4 h (fun t => rln w n (un1 t)) v
  | 0, v, hv => by
    show h v = vm 4 h (fun t => un1 t) v
    rw [vm_one hv h (fun t => un1 t) v (fun s _ hs => by unfold un1; rw [if_neg (fun q => hs q.symm)])]
    unfold un1; rw [if_pos rfl, sat_0' (hh v)]
  | n + 1, v, hv => by
    show min (rln w n h v) (vm 4 (rln w n h) w v) = vm 4 h (fun t v => min (rln w n (un1 t) v) (vm 4 (rln w n (un1 t)) w v)) v
    rw [vm_min, ← rln_lin hh n v hv]
    congr 1
    rw [← vm_assoc]
    exact vm_congr (fun s hs => rln_lin hh n s hs) (fun _ _ => rfl)
theorem clo_lin {w : Nat → Nat → Nat} {h : Nat → Nat} (hh : ∀ v, h v ≤ 1000) {v : Nat} (hv : v < 4) : clo w h v = vm 4 h (fun t => clo w (un1 t)) v := rln_lin hh 3 v hv
theorem rln_congr {w w' : Nat → Nat → Nat} {h : Nat → Nat} (e : ∀ u v, u < 4 → v < 4 → w u v = w' u v) : ∀ (n v : Nat), v < 4 → rln w n h v = rln w' n h v
  | 0, _, _ => rfl
  | n + 1, v, hv => by
    show min (rln w n h v) (vm 4 (rln w n h) w v) = min (rln w' n h v) (vm 4 (rln w' n h) w' v)
    rw [rln_congr e n v hv, vm_congr (fun s hs => rln_congr e n s hs) (fun s hs => e s v hs hv)]
theorem un1_le (s c : Nat) : un1 s c ≤ 1000 := by unfold un1; split <;> omega
