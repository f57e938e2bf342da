/-! ===== what comes to pass, by ways alone ===== -/
section TP
variable {hb : Nat → Nat → Prop} {lb : Nat → Prop} {ch mt : Nat → Nat} {ab : Nat → Nat → Bool} {n : Nat}
theorem mun_na {τ : Nat → Nat → Nat → Nat → Nat} {μ : Nat → Nat → Nat → Prop} {i tk tk' t : Nat} (h : ∀ q, sbn ch mt i q → (∀ s c, τ (q + 1) tk s c = τ (q + 1) tk' s c) ∧ (∀ s, μ (q + 1) tk s → μ (q + 1) tk' s)) (hm : mun hb lb ch mt ab τ μ tk i t) : mun hb lb ch mt ab τ μ tk' i t := by
  rcases hm with ⟨h1, h2⟩ | ⟨h1, u, h2, h3, h4⟩ | ⟨h1, h2⟩
  · rcases h2 with h2 | h2
    · exact Or.inl ⟨h1, Or.inl ((h (i + 1) (Or.inl ⟨h1, Or.inl rfl⟩)).2 t h2)⟩
    · exact Or.inl ⟨h1, Or.inr ((h (mt (i + 1) + 1) (Or.inl ⟨h1, Or.inr rfl⟩)).2 t h2)⟩
  · have hq := h (i + 1) (Or.inr (Or.inl ⟨h1, rfl⟩))
    have e1 : τ (i + 2) tk = τ (i + 2) tk' := by funext s c; exact hq.1 s c
    rw [e1] at h3
    exact Or.inr (Or.inl ⟨h1, u, h2, h3, hq.2 u h4⟩)
  · have hq := h (i + 1) (Or.inr (Or.inr ⟨h1, Or.inl rfl⟩))
    have e1 : τ (i + 2) tk = τ (i + 2) tk' := by funext s c; exact hq.1 s c
    have e2 : mdr ch mt ab τ i tk t = mdr ch mt ab τ i tk' t := by funext c; unfold mdr; rw [e1]
    refine Or.inr (Or.inr ⟨h1, ?_⟩)
    rcases h2 with (h2 | ⟨c, p, h2, h3, h4, h5⟩) | ⟨hz, c, h2, h3, h4⟩
    · exact Or.inl (Or.inl (hq.2 t h2))
    · rw [e1] at h4
      exact Or.inl (Or.inr ⟨c, p, h2, h3, h4, h5⟩)
    · have hz2 := h (skp ch mt 6 (mt (i + 1) + 1) + 1) (Or.inr (Or.inr ⟨h1, Or.inr ⟨hz, rfl⟩⟩))
      rw [e2] at h3
      refine Or.inr ⟨hz, c, h2, h3, ?_⟩
      rcases h4 with h4 | ⟨c', g1, g2, g3, g4⟩
      · exact Or.inl (hz2.2 _ h4)
      · exact Or.inr ⟨c', g1, g2, by rw [← hz2.1 (c % 4) c']; exact g3, g4⟩
theorem wme_na (hW : WF ch mt n) {U U' : Nat → Nat → Nat → Nat} {M M' : Nat → Nat → Prop} {e : Nat} : ∀ (m p : Nat) (z : (Nat → Nat) × (Nat → Nat)), Wlk ch mt p e → (∀ k, (∀ j, j ≤ k → itn ch mt j p < e) → OkS ch mt (itn ch mt k p) e → U (itn ch mt k p) = U' (itn ch mt k p) ∧ ∀ t, M (itn ch mt k p) t → M' (itn ch mt k p) t) → wme U M (nxt ch mt) m p e z → wme U' M' (nxt ch mt) m p e z
  | 0, _, _, _, _, h => h
  | m + 1, p, z, hw, h, hm => by
    obtain ⟨h1, h2⟩ := hm
    rcases hw.cases with k | ⟨k1, k2, k3⟩
    · omega
    · have h0 := h 0 (fun j hj => by cases Nat.le_zero.mp hj; exact h1) k2
      have h0 : U p = U' p ∧ ∀ t, M p t → M' p t := h0
      refine ⟨h1, ?_⟩
      rcases h2 with ⟨t, ht, h3, h4⟩ | h2
      · exact Or.inl ⟨t, ht, h3, h0.2 t h4⟩
      · refine Or.inr ?_
        rw [← h0.1]
        exact wme_na hW m (nxt ch mt p) _ k3 (fun k hk hs => h (k + 1) (fun j hj => by
          cases j with
          | zero => exact h1
          | succ j => exact hk j (by omega)) hs) h2
theorem Mtb_na {B : Nat} {bn fs kp : Nat → Nat} {ag : Nat → Prop} (hK : TK n B ch mt bn fs kp ag) (X : Nat → Nat) : ∀ (m b : Nat), b < B → 61 ≤ m + fs b → ¬ ag b → ∀ tk tk' s, Mtb hb lb ch mt ab n X (fs b) tk s → Mtb hb lb ch mt ab n X (fs b) tk' s := by
  intro m
  induction m with
  | zero => exact fun b hb' h _ _ _ _ => absurd (spt_le hK.1.1 (hK.2.2.1 b hb')) (by omega)
  | succ m ih =>
    intro b hb' h hna tk tk' s hm
    have hW := hK.1.1
    have hsp := hK.2.2.1 b hb'
    have hw := (hW.sp hsp).1
    rw [Mtb_eq hW X hsp] at hm ⊢
    unfold rowM at hm ⊢
    refine wme_na hW 61 (fs b) (z0 s) hw (fun k hk hs => ?_) hm
    have hg := hK.2.2.2.2.2.2 b k hb' hk
    have hge := itn_ge hW k (fs b) hw hk
    have sub : ∀ q, sbn ch mt (itn ch mt k (fs b)) q → (∀ tk tk' s c, Tab ch mt ab n X (q + 1) tk s c = Tab ch mt ab n X (q + 1) tk' s c) ∧ (∀ s, Mtb hb lb ch mt ab n X (q + 1) tk s → Mtb hb lb ch mt ab n X (q + 1) tk' s) := fun q hq => by
      have hbr := sbr_ok hW hs (sbn_sbr hq)
      have hbn := hK.2.2.2.2.1 q hbr.1
      have hna' : ¬ ag (bn q) := fun z => hna ((hg.2.1 q hq).1 z)
      have h1 := Tab_na (ab := ab) hK X m (bn q) hbn.1 (by rw [hbn.2]; omega) hna'
      have h2 := ih (bn q) hbn.1 (by rw [hbn.2]; omega) hna' tk tk'
      rw [hbn.2] at h1 h2
      exact ⟨h1, h2⟩
    exact ⟨un_na hs (fun z => hna (hg.1 z)) (fun q hq s c => (sub q hq).1 tk tk' s c), fun t => mun_na (fun q hq => ⟨(sub q hq).1 tk tk', (sub q hq).2⟩)⟩
/-- the ways that wait for an ending -/
def Wm (ch mt : Nat → Nat) (ab : Nat → Nat → Bool) (τ : Nat → Nat → Nat → Nat → Nat) (tk i w : Nat) : Prop := (tko ch mt ab (mt (i + 1) + 1) w = none ∧ sup (τ (i + 2) tk 0) w) ∨ ∃ k p, k < 6 ∧ tko ch mt ab (mt (i + 1) + 1) (k + 1) = some p ∧ sup (τ (i + 2) tk 0) (k + 1) ∧ sup (τ (p + 2) (k + 1) 0) w
theorem Wm_iff {τ : Nat → Nat → Nat → Nat → Nat} {tk i w : Nat} (hp : ∀ p k, tko ch mt ab (mt (i + 1) + 1) (k + 1) = some p → ST1 (τ (p + 2) (k + 1))) (hw : w < 8) : sup (mdr ch mt ab τ i tk 0) w ↔ Wm ch mt ab τ tk i w := by
  constructor
  · rintro ⟨t, ht, h1⟩
    have h1 : vm 32 (τ (i + 2) tk 0) (kmx ch mt ab τ (mt (i + 1) + 1)) (w * 4 + t) < 1000 := h1
    obtain ⟨c, hc, h2, h3⟩ := vm_lt.mp h1
    have h3 : kmo τ (tko ch mt ab (mt (i + 1) + 1) (c / 4)) c (w * 4 + t) < 1000 := h3
    cases ho : tko ch mt ab (mt (i + 1) + 1) (c / 4) with
    | none =>
      rw [ho] at h3
      have h3 : (if w * 4 + t = c then 0 else 1000) < 1000 := h3
      have : w * 4 + t = c := by
        by_cases q : w * 4 + t = c
        · exact q
        · rw [if_neg q] at h3; omega
      have e : c / 4 = w := by omega
      rw [e] at ho
      exact Or.inl ⟨ho, t, ht, by rw [this]; exact h2⟩
    | some p =>
      rw [ho] at h3
      have h3 : τ (p + 2) (c / 4) (c % 4) (w * 4 + t) < 1000 := h3
      obtain ⟨w1, w2, _⟩ := tko_sp ho
      obtain ⟨k, hk⟩ : ∃ k, c / 4 = k + 1 := ⟨c / 4 - 1, by omega⟩
      have h4 := sup_c h2
      rw [hk] at ho h3 h4
      exact Or.inr ⟨k, p, by omega, ho, h4, hp p k ho (c % 4) 0 w (by omega) (by omega) hw ⟨t, ht, h3⟩⟩
  · rintro (⟨h1, t, ht, h2⟩ | ⟨k, p, hk, h1, ⟨t0, ht0, h2⟩, h3⟩)
    · refine ⟨t, ht, ?_⟩
      show vm 32 (τ (i + 2) tk 0) (kmx ch mt ab τ (mt (i + 1) + 1)) (w * 4 + t) < 1000
      refine vm_lt.mpr ⟨w * 4 + t, by omega, h2, ?_⟩
      show kmo τ (tko ch mt ab (mt (i + 1) + 1) ((w * 4 + t) / 4)) (w * 4 + t) (w * 4 + t) < 1000
      rw [show (w * 4 + t) / 4 = w by omega, h1]
      show (if w * 4 + t = w * 4 + t then 0 else 1000) < 1000
      rw [if_pos rfl]; omega
    · obtain ⟨t, ht, h4⟩ := hp p k h1 0 t0 w (by omega) ht0 hw h3
      refine ⟨t, ht, ?_⟩
      show vm 32 (τ (i + 2) tk 0) (kmx ch mt ab τ (mt (i + 1) + 1)) (w * 4 + t) < 1000
      refine vm_lt.mpr ⟨(k + 1) * 4 + t0, by omega, h2, ?_⟩
      show kmo τ (tko ch mt ab (mt (i + 1) + 1) (((k + 1) * 4 + t0) / 4)) ((k + 1) * 4 + t0) (w * 4 + t) < 1000
      rw [show ((k + 1) * 4 + t0) / 4 = k + 1 by omega, h1]
      show τ (p + 2) (((k + 1) * 4 + t0) / 4) (((k + 1) * 4 + t0) % 4) (w * 4 + t) < 1000
      rw [show ((k + 1) * 4 + t0) / 4 = k + 1 by omega, show ((k + 1) * 4 + t0) % 4 = t0 by omega]
      exact h4
/-- from a statement into a block -/
def Eg (ch mt : Nat → Nat) (ab : Nat → Nat → Bool) (τ : Nat → Nat → Nat → Nat → Nat) (tk i sp' tk' : Nat) : Prop :=
  (ch i = 63 ∧ (sp' = i + 2 ∨ sp' = mt (i + 1) + 2) ∧ tk' = tk) ∨ (ch i = 42 ∧ sp' = i + 2 ∧ tk' = tk) ∨ (ch i = 84 ∧ ((sp' = i + 2 ∧ tk' = tk) ∨ (∃ k p, k < 6 ∧ tko ch mt ab (mt (i + 1) + 1) (k + 1) = some p ∧ sup (τ (i + 2) tk 0) (k + 1) ∧ sp' = p + 2 ∧ tk' = k + 1) ∨ (ch (skp ch mt 6 (mt (i + 1) + 1)) = 90 ∧ (∃ w, w < 8 ∧ Wm ch mt ab τ tk i w) ∧ sp' = skp ch mt 6 (mt (i + 1) + 1) + 2 ∧ tk' = tk)))
def Hi (ch mt : Nat → Nat) (ab : Nat → Nat → Bool) (τ : Nat → Nat → Nat → Nat → Nat) (tk i p k : Nat) : Prop := ch i = 84 ∧ k < 6 ∧ tko ch mt ab (mt (i + 1) + 1) (k + 1) = some p ∧ sup (τ (i + 2) tk 0) (k + 1)
def Lo (ch mt : Nat → Nat) (ab : Nat → Nat → Bool) (τ : Nat → Nat → Nat → Nat → Nat) (tk i k : Nat) : Prop := ch i = 84 ∧ k < 6 ∧ ch (skp ch mt 6 (mt (i + 1) + 1)) = 90 ∧ Wm ch mt ab τ tk i (k + 1) ∧ ∃ w, 1 ≤ w ∧ w < 8 ∧ sup (τ (skp ch mt 6 (mt (i + 1) + 1) + 2) tk 0) w
theorem clo_0 {M : Nat → Nat → Nat} : clo M (un1 0) 0 < 1000 := Nat.lt_of_le_of_lt (clo_h 0) (by unfold un1; rw [if_pos rfl]; omega)
theorem mun_iff (hW : WF ch mt n) {τ : Nat → Nat → Nat → Nat → Nat} {μ : Nat → Nat → Nat → Prop} {i e tk : Nat} (hs : OkS ch mt i e) (hτ : ∀ q, sbr ch mt i q → ∀ tk, ST1 (τ (q + 1) tk)) (hμ : ∀ q, sbr ch mt i q → ∀ tk, MS1 (μ (q + 1) tk)) : mun hb lb ch mt ab τ μ tk i 0 ↔ (∃ sp' tk', Eg ch mt ab τ tk i sp' tk' ∧ μ sp' tk' 0) ∨ (∃ p k, Hi ch mt ab τ tk i p k ∧ hb p k) ∨ (∃ k, Lo ch mt ab τ tk i k ∧ lb k) := by
  have tkr : ∀ {w p}, ch i = 84 → tko ch mt ab (mt (i + 1) + 1) w = some p → sbr ch mt i (p + 1) := fun h84 ho => by
    obtain ⟨_, _, r, hr, he, hl, _⟩ := tko_sp ho
    exact Or.inr (Or.inr ⟨h84, Or.inr (Or.inl ⟨r, hr, by rw [← he]; exact hl, by rw [← he]⟩)⟩)
  have hwm : ch i = 84 → ∀ w, w < 8 → (sup (mdr ch mt ab τ i tk 0) w ↔ Wm ch mt ab τ tk i w) := fun h84 w hw => Wm_iff (fun p k ho => hτ (p + 1) (tkr h84 ho) (k + 1)) hw
  constructor
  · rintro (⟨h1, h2⟩ | ⟨h1, u, h2, h3, h4⟩ | ⟨h1, h2⟩)
    · rcases h2 with h2 | h2
      · exact Or.inl ⟨_, _, Or.inl ⟨h1, Or.inl rfl, rfl⟩, h2⟩
      · exact Or.inl ⟨_, _, Or.inl ⟨h1, Or.inr rfl, rfl⟩, h2⟩
    · exact Or.inl ⟨_, _, Or.inr (Or.inl ⟨h1, rfl, rfl⟩), hμ (i + 1) (Or.inr (Or.inl ⟨h1, rfl⟩)) tk u 0 h2 (by omega) h4⟩
    · rcases h2 with (h2 | ⟨c, p, h2, h3, h4, h5⟩) | ⟨hz, c, h2, h3, h4⟩
      · exact Or.inl ⟨_, _, Or.inr (Or.inr ⟨h1, Or.inl ⟨rfl, rfl⟩⟩), h2⟩
      · obtain ⟨w1, w2, _⟩ := tko_sp h3
        obtain ⟨k, hk⟩ : ∃ k, c / 4 = k + 1 := ⟨c / 4 - 1, by omega⟩
        have h6 := sup_c h4
        rw [hk] at h3 h5 h6
        rcases h5 with h5 | h5
        · rw [Nat.add_sub_cancel] at h5
          exact Or.inr (Or.inl ⟨p, k, ⟨h1, by omega, h3, h6⟩, h5⟩)
        · exact Or.inl ⟨p + 2, k + 1, Or.inr (Or.inr ⟨h1, Or.inr (Or.inl ⟨k, p, by omega, h3, h6, rfl, rfl⟩)⟩), hμ (p + 1) (tkr h1 h3) (k + 1) (c % 4) 0 (by omega) (by omega) h5⟩
      · have hzb : sbr ch mt i (skp ch mt 6 (mt (i + 1) + 1) + 1) := Or.inr (Or.inr ⟨h1, Or.inr (Or.inr ⟨hz, rfl⟩)⟩)
        have hw := (hwm h1 (c / 4) (by omega)).mp (sup_c h3)
        rcases h4 with h4 | ⟨c', g1, g2, g3, g4, g5, g6⟩
        · exact Or.inl ⟨_, _, Or.inr (Or.inr ⟨h1, Or.inr (Or.inr ⟨hz, ⟨c / 4, by omega, hw⟩, rfl, rfl⟩)⟩), hμ _ hzb tk (c % 4) 0 (by omega) (by omega) h4⟩
        · refine Or.inr (Or.inr ⟨c / 4 - 1, ⟨h1, by omega, hz, ?_, c' / 4, by omega, by omega, hτ _ hzb tk (c % 4) 0 (c' / 4) (by omega) (by omega) (by omega) (sup_c g3)⟩, g6⟩)
          rw [show c / 4 - 1 + 1 = c / 4 by omega]; exact hw
  · rintro (⟨sp', tk', he, hm⟩ | ⟨p, k, ⟨h1, h2, h3, t, ht, h4⟩, h5⟩ | ⟨k, ⟨h1, h2, h3, h4, w, w1, w2, h5⟩, h6⟩)
    · rcases he with ⟨h1, h2, h3⟩ | ⟨h1, h2, h3⟩ | ⟨h1, h2⟩
      · subst h3
        rcases h2 with h2 | h2
        · subst h2; exact Or.inl ⟨h1, Or.inl hm⟩
        · subst h2; exact Or.inl ⟨h1, Or.inr hm⟩
      · subst h2 h3
        exact Or.inr (Or.inl ⟨h1, 0, by omega, clo_0, hm⟩)
      · rcases h2 with ⟨h2, h3⟩ | ⟨k, p, hk, h2, ⟨t, ht, h3⟩, h4, h5⟩ | ⟨hz, ⟨w, hw8, hw⟩, h2, h3⟩
        · subst h2 h3
          exact Or.inr (Or.inr ⟨h1, Or.inl (Or.inl hm)⟩)
        · subst h4 h5
          refine Or.inr (Or.inr ⟨h1, Or.inl (Or.inr ⟨(k + 1) * 4 + t, p, by omega, ?_, h3, Or.inr ?_⟩)⟩)
          · rw [show ((k + 1) * 4 + t) / 4 = k + 1 by omega]; exact h2
          · rw [show ((k + 1) * 4 + t) / 4 = k + 1 by omega]
            exact hμ (p + 1) (tkr h1 h2) (k + 1) 0 _ (by omega) (by omega) hm
        · subst h2 h3
          obtain ⟨t, ht, h4⟩ := (hwm h1 w hw8).mpr hw
          refine Or.inr (Or.inr ⟨h1, Or.inr ⟨hz, w * 4 + t, by omega, h4, Or.inl ?_⟩⟩)
          exact hμ _ (Or.inr (Or.inr ⟨h1, Or.inr (Or.inr ⟨hz, rfl⟩)⟩)) tk' 0 _ (by omega) (by omega) hm
    · refine Or.inr (Or.inr ⟨h1, Or.inl (Or.inr ⟨(k + 1) * 4 + t, p, by omega, ?_, h4, Or.inl ?_⟩)⟩)
      · rw [show ((k + 1) * 4 + t) / 4 = k + 1 by omega]; exact h3
      · rw [show ((k + 1) * 4 + t) / 4 - 1 = k by omega]; exact h5
    · obtain ⟨t, ht, h7⟩ := (hwm h1 (k + 1) (by omega)).mpr h4
      have hzb : sbr ch mt i (skp ch mt 6 (mt (i + 1) + 1) + 1) := Or.inr (Or.inr ⟨h1, Or.inr (Or.inr ⟨h3, rfl⟩)⟩)
      obtain ⟨t', ht', h8⟩ := hτ _ hzb tk 0 t w (by omega) ht w2 h5
      refine Or.inr (Or.inr ⟨h1, Or.inr ⟨h3, (k + 1) * 4 + t, by omega, h7, Or.inr ⟨w * 4 + t', by omega, by omega, ?_, by omega, by omega, ?_⟩⟩⟩)
      · rw [show ((k + 1) * 4 + t) % 4 = t by omega]; exact h8
      · rw [show ((k + 1) * 4 + t) / 4 - 1 = k by omega]; exact h6
theorem wme_dead {U : Nat → Nat → Nat → Nat} {M : Nat → Nat → Prop} {nx : Nat → Nat} {e : Nat} : ∀ (m p : Nat) (z : (Nat → Nat) × (Nat → Nat)), (¬ ∃ t, t < 4 ∧ z.1 t < 1000) → ¬ wme U M nx m p e z
  | 0, _, _, _, h => h
  | m + 1, p, z, hz, h => by
    obtain ⟨h1, ⟨t, ht, h2, _⟩ | h2⟩ := h
    · exact hz ⟨t, ht, h2⟩
    · refine wme_dead m (nx p) (wst (U p) z) (fun ⟨t, ht, h3⟩ => ?_) h2
      have h3 : vm 4 z.1 (U p) t < 1000 := h3
      obtain ⟨s, hs, h4, _⟩ := vm_lt.mp h3
      exact hz ⟨s, hs, h4⟩
theorem wme_iff (hW : WF ch mt n) {U : Nat → Nat → Nat → Nat} {M : Nat → Nat → Prop} {e : Nat} : ∀ (m p : Nat) (z : (Nat → Nat) × (Nat → Nat)), Wlk ch mt p e → e ≤ m + p → (∀ i, p ≤ i → i < e → OkS ch mt i e → ST1 (U i) ∧ MS1 (M i)) → (∃ t, t < 4 ∧ z.1 t < 1000) → (wme U M (nxt ch mt) m p e z ↔ ∃ j, (∀ a, a ≤ j → itn ch mt a p < e) ∧ (∀ a, a < j → sup (U (itn ch mt a p) 0) 0) ∧ M (itn ch mt j p) 0)
  | 0, p, z, hw, he, hU, hz => by
    constructor
    · exact fun h => h.elim
    · rintro ⟨j, h1, _⟩
      have := h1 0 (by omega)
      have e0 : itn ch mt 0 p = p := rfl
      omega
  | m + 1, p, z, hw, he, hU, hz => by
    rcases hw.cases with k | ⟨k1, k2, k3⟩
    · constructor
      · rintro ⟨h1, _⟩; omega
      · rintro ⟨j, h1, _⟩
        have := h1 0 (by omega)
        have e0 : itn ch mt 0 p = p := rfl
        omega
    · obtain ⟨u1, u2⟩ := hU p (Nat.le_refl _) k1 k2
      have hgt := (nxt_ok hW k2).1
      have go : (∃ t, t < 4 ∧ (wst (U p) z).1 t < 1000) ↔ sup (U p 0) 0 := by
        constructor
        · rintro ⟨t, ht, h1⟩
          have h1 : vm 4 z.1 (U p) t < 1000 := h1
          obtain ⟨s, hs, _, h3⟩ := vm_lt.mp h1
          exact u1 s 0 0 hs (by omega) (by omega) ⟨t, ht, by rw [Nat.zero_mul, Nat.zero_add]; exact h3⟩
        · intro h
          obtain ⟨s, hs, h2⟩ := hz
          obtain ⟨t, ht, h3⟩ := u1 0 s 0 (by omega) hs (by omega) h
          rw [Nat.zero_mul, Nat.zero_add] at h3
          exact ⟨t, ht, show vm 4 z.1 (U p) t < 1000 from vm_lt.mpr ⟨s, hs, h2, h3⟩⟩
      have ih := fun h => wme_iff hW m (nxt ch mt p) (wst (U p) z) k3 (by omega) (fun i h1 h2 h3 => hU i (by omega) h2 h3) h
      constructor
      · rintro ⟨_, ⟨t, ht, h2, h3⟩ | h2⟩
        · exact ⟨0, (fun a ha => by cases Nat.le_zero.mp ha; exact k1), fun a ha => absurd ha (by omega), u2 t 0 ht (by omega) h3⟩
        · by_cases hg : ∃ t, t < 4 ∧ (wst (U p) z).1 t < 1000
          · obtain ⟨j, g1, g2, g3⟩ := (ih hg).mp h2
            refine ⟨j + 1, fun a ha => ?_, fun a ha => ?_, g3⟩
            · cases a with
              | zero => exact k1
              | succ a => exact g1 a (by omega)
            · cases a with
              | zero => exact go.mp hg
              | succ a => exact g2 a (by omega)
          · exact absurd h2 (wme_dead m _ _ hg)
      · rintro ⟨j, g1, g2, g3⟩
        refine ⟨k1, ?_⟩
        cases j with
        | zero =>
          obtain ⟨t, ht, h2⟩ := hz
          exact Or.inl ⟨t, ht, h2, u2 0 t (by omega) ht g3⟩
        | succ j =>
          have hg := go.mpr (g2 0 (by omega))
          exact Or.inr ((ih hg).mpr ⟨j, fun a ha => g1 (a + 1) (by omega), fun a ha => g2 (a + 1) (by omega), g3⟩)
/-- a statement of a block that is reached -/
def StR (ch mt : Nat → Nat) (ab : Nat → Nat → Bool) (n : Nat) (X : Nat → Nat) (tk sp i : Nat) : Prop := ∃ j, (∀ a, a ≤ j → itn ch mt a sp < enp n mt sp) ∧ (∀ a, a < j → sup (un ch mt ab X (Tab ch mt ab n X) tk (itn ch mt a sp) 0) 0) ∧ i = itn ch mt j sp
theorem StR.ok (hW : WF ch mt n) {X : Nat → Nat} {tk sp i : Nat} (hsp : spt ch sp) (h : StR ch mt ab n X tk sp i) : OkS ch mt i (enp n mt sp) ∧ sp ≤ i ∧ i < enp n mt sp := by
  obtain ⟨j, h1, h2, h3⟩ := h
  have hw := (hW.sp hsp).1
  have hge := itn_ge hW j sp hw h1
  rw [h3]
  exact ⟨hge.2.2, by omega, h1 j (Nat.le_refl _)⟩
theorem Mtb_iff (hW : WF ch mt n) {X : Nat → Nat} (hX : SI X) {sp tk : Nat} (hsp : spt ch sp) : Mtb hb lb ch mt ab n X sp tk 0 ↔ ∃ i, StR ch mt ab n X tk sp i ∧ ((∃ sp' tk', Eg ch mt ab (Tab ch mt ab n X) tk i sp' tk' ∧ Mtb hb lb ch mt ab n X sp' tk' 0) ∨ (∃ p k, Hi ch mt ab (Tab ch mt ab n X) tk i p k ∧ hb p k) ∨ (∃ k, Lo ch mt ab (Tab ch mt ab n X) tk i k ∧ lb k)) := by
  have hsub : ∀ i, OkS ch mt i (enp n mt sp) → (∀ q, sbr ch mt i q → ∀ tk, ST1 (Tab ch mt ab n X (q + 1) tk)) ∧ (∀ q, sbr ch mt i q → ∀ tk, MS1 (Mtb hb lb ch mt ab n X (q + 1) tk)) := fun i hs =>
    ⟨fun q hq tk => Tab_sup hW hX 61 (q + 1) (by omega) (sbr_sp hW hs hq) tk, fun q hq tk => Mtb_s hW hX 61 (q + 1) (by omega) (sbr_sp hW hs hq) tk⟩
  have hw := (hW.sp hsp).1
  have hle := (hW.sp hsp).2
  have hn := hW.1
  rw [Mtb_eq hW X hsp]
  unfold rowM
  rw [wme_iff hW 61 sp (z0 0) hw (by omega) (fun i i1 i2 i3 => ⟨un_sup hW hX i3 (hsub i i3).1, mun_s hW i3 (hsub i i3).1 (hsub i i3).2⟩) ⟨0, by omega, by show un1 0 0 < 1000; unfold un1; rw [if_pos rfl]; omega⟩]
  constructor
  · rintro ⟨j, h1, h2, h3⟩
    have hs := (itn_ge hW j sp hw h1).2.2
    exact ⟨_, ⟨j, h1, h2, rfl⟩, (mun_iff hW hs (hsub _ hs).1 (hsub _ hs).2).mp h3⟩
  · rintro ⟨i, ⟨j, h1, h2, rfl⟩, h3⟩
    have hs := (itn_ge hW j sp hw h1).2.2
    exact ⟨j, h1, h2, (mun_iff hW hs (hsub _ hs).1 (hsub _ hs).2).mpr h3⟩
end TP
