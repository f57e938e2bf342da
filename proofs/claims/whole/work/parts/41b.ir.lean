/-! ===== rounds in place ===== -/
def IR (w : Nat → Nat → Nat) (h0 : Nat → Nat) (n m : Nat) (H : Nat → Nat) : Prop := (∀ v, v < 4 → clo w h0 v ≤ H v ∧ H v ≤ rln w n h0 v) ∧ ∀ u v, u < 4 → v < 4 → u * 4 + v < m → H v ≤ sat (rln w n h0 u) (w u v)
theorem IR_0 {w : Nat → Nat → Nat} {h0 : Nat → Nat} : IR w h0 0 0 h0 := ⟨fun v _ => ⟨clo_h v, Nat.le_refl _⟩, fun _ _ _ _ h => absurd h (by omega)⟩
theorem IR_s {w : Nat → Nat → Nat} {h0 H : Nat → Nat} (hh : ∀ v, h0 v ≤ 1000) {n u v : Nat} (hu : u < 4) (hv : v < 4) (h : IR w h0 n (u * 4 + v) H) : IR w h0 n (u * 4 + v + 1) (fun x => if x = v then min (H v) (sat (H u) (w u v)) else H x) := by
  refine ⟨fun x hx => ?_, fun a b ha hb hm => ?_⟩
  · obtain ⟨h1, h2⟩ := h.1 x hx
    dsimp only
    by_cases q : x = v
    · subst q
      rw [if_pos rfl]
      have h3 := clo_st (w := w) hh hu hx
      have h4 := sat_mono (h.1 u hu).1 (Nat.le_refl (w u x))
      exact ⟨Nat.le_min.mpr ⟨h1, Nat.le_trans h3 h4⟩, Nat.le_trans (Nat.min_le_left _ _) h2⟩
    · rw [if_neg q]; exact ⟨h1, h2⟩
  · dsimp only
    by_cases q : b = v
    · subst q
      rw [if_pos rfl]
      by_cases q2 : a = u
      · subst q2
        exact Nat.le_trans (Nat.min_le_right _ _) (sat_mono (h.1 a ha).2 (Nat.le_refl _))
      · exact Nat.le_trans (Nat.min_le_left _ _) (h.2 a b ha hb (by omega))
    · rw [if_neg q]
      exact h.2 a b ha hb (by omega)
theorem IR_n {w : Nat → Nat → Nat} {h0 H : Nat → Nat} (hh : ∀ v, h0 v ≤ 1000) {n : Nat} (h : IR w h0 n 16 H) : IR w h0 (n + 1) 0 H := by
  refine ⟨fun v hv => ⟨(h.1 v hv).1, ?_⟩, fun _ _ _ _ q => absurd q (by omega)⟩
  refine Nat.le_min.mpr ⟨(h.1 v hv).2, le_mn (Nat.le_trans (h.1 v hv).2 (rln_le hh n v)) (fun u hu => h.2 u v hu hv (by omega))⟩
theorem IR_e {w : Nat → Nat → Nat} {h0 H : Nat → Nat} {n m : Nat} (hn : 3 ≤ n) (h : IR w h0 n m H) {v : Nat} (hv : v < 4) : H v = clo w h0 v := clo_end hn (h.1 v hv).1 (h.1 v hv).2
theorem IR_le {w : Nat → Nat → Nat} {h0 H : Nat → Nat} (hh : ∀ v, h0 v ≤ 1000) {n m : Nat} (h : IR w h0 n m H) {v : Nat} (hv : v < 4) : H v ≤ 1000 := Nat.le_trans (h.1 v hv).2 (rln_le hh n v)
theorem mn_co (F : Nat → Nat) : mn 32 (fun x => F (co x)) = mn 32 F := by
  apply Nat.le_antisymm
  · refine le_mn (mn_le _ _) (fun c hc => ?_)
    have := mn_i (fun x => F (co x)) (oc_lt hc)
    rw [co_oc hc] at this
    exact this
  · exact le_mn (mn_le _ _) (fun x hx => mn_i F (co_lt hx))
