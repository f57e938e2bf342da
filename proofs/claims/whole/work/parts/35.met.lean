/-! ===== whether a run comes to a place, as a function ===== -/
def mun (hb : Nat → Nat → Prop) (lb : Nat → Prop) (ch mt : Nat → Nat) (ab : Nat → Nat → Bool) (τ : Nat → Nat → Nat → Nat → Nat) (μ : Nat → Nat → Nat → Prop) (tk i t : Nat) : Prop :=
  (ch i = 63 ∧ (μ (i + 2) tk t ∨ μ (mt (i + 1) + 2) tk t)) ∨
  (ch i = 42 ∧ ∃ u, u < 4 ∧ clo (τ (i + 2) tk) (un1 t) u < 1000 ∧ μ (i + 2) tk u) ∨
  (ch i = 84 ∧ ((μ (i + 2) tk t ∨ ∃ c p, c < 32 ∧ tko ch mt ab (mt (i + 1) + 1) (c / 4) = some p ∧ τ (i + 2) tk t c < 1000 ∧ (hb p (c / 4 - 1) ∨ μ (p + 2) (c / 4) (c % 4))) ∨
    (ch (skp ch mt 6 (mt (i + 1) + 1)) = 90 ∧ ∃ c, c < 32 ∧ mdr ch mt ab τ i tk t c < 1000 ∧ (μ (skp ch mt 6 (mt (i + 1) + 1) + 2) tk (c % 4) ∨ (∃ c', c' < 32 ∧ c' / 4 ≠ 0 ∧ τ (skp ch mt 6 (mt (i + 1) + 1) + 2) tk (c % 4) c' < 1000 ∧ 1 ≤ c / 4 ∧ c / 4 ≤ 6 ∧ lb (c / 4 - 1))))))
def wme (U : Nat → Nat → Nat → Nat) (M : Nat → Nat → Prop) (nx : Nat → Nat) : Nat → Nat → Nat → (Nat → Nat) × (Nat → Nat) → Prop
  | 0, _, _, _ => False
  | m + 1, i, e, z => i < e ∧ ((∃ t, t < 4 ∧ z.1 t < 1000 ∧ M i t) ∨ wme U M nx m (nx i) e (wst (U i) z))
def rowM (hb : Nat → Nat → Prop) (lb : Nat → Prop) (ch mt : Nat → Nat) (ab : Nat → Nat → Bool) (n : Nat) (X : Nat → Nat) (τ : Nat → Nat → Nat → Nat → Nat) (μ : Nat → Nat → Nat → Prop) (sp tk s : Nat) : Prop := wme (un ch mt ab X τ tk) (mun hb lb ch mt ab τ μ tk) (nxt ch mt) 61 sp (enp n mt sp) (z0 s)
def Mn (hb : Nat → Nat → Prop) (lb : Nat → Prop) (ch mt : Nat → Nat) (ab : Nat → Nat → Bool) (n : Nat) (X : Nat → Nat) : Nat → Nat → Nat → Nat → Prop
  | 0 => fun _ _ _ => False
  | m + 1 => rowM hb lb ch mt ab n X (Tab ch mt ab n X) (Mn hb lb ch mt ab n X m)
def Mtb (hb : Nat → Nat → Prop) (lb : Nat → Prop) (ch mt : Nat → Nat) (ab : Nat → Nat → Bool) (n : Nat) (X : Nat → Nat) : Nat → Nat → Nat → Prop := Mn hb lb ch mt ab n X 62
section MT
variable {hb : Nat → Nat → Prop} {lb : Nat → Prop} {ch mt : Nat → Nat} {ab : Nat → Nat → Bool} {n : Nat}
theorem mun_congr (hW : WF ch mt n) {τ τ' : Nat → Nat → Nat → Nat → Nat} {μ μ' : Nat → Nat → Nat → Prop} {i e : Nat} (hs : OkS ch mt i e) (hτ : ∀ q, sbr ch mt i q → τ (q + 1) = τ' (q + 1)) (hμ : ∀ q, sbr ch mt i q → μ (q + 1) = μ' (q + 1)) (tk t : Nat) : mun hb lb ch mt ab τ μ tk i t = mun hb lb ch mt ab τ' μ' tk i t := by
  have g : ∀ {τ τ' : Nat → Nat → Nat → Nat → Nat} {μ μ' : Nat → Nat → Nat → Prop}, (∀ q, sbr ch mt i q → τ (q + 1) = τ' (q + 1)) → (∀ q, sbr ch mt i q → μ (q + 1) = μ' (q + 1)) → mun hb lb ch mt ab τ μ tk i t → mun hb lb ch mt ab τ' μ' tk i t := by
    intro τ τ' μ μ' hτ hμ h
    rcases h with ⟨h1, h2⟩ | ⟨h1, u, h2, h3, h4⟩ | ⟨h1, h2⟩
    · have e1 : μ (i + 2) = μ' (i + 2) := hμ (i + 1) (Or.inl ⟨h1, Or.inl rfl⟩)
      have e2 : μ (mt (i + 1) + 2) = μ' (mt (i + 1) + 2) := hμ (mt (i + 1) + 1) (Or.inl ⟨h1, Or.inr rfl⟩)
      rw [e1, e2] at h2
      exact Or.inl ⟨h1, h2⟩
    · have e1 : μ (i + 2) = μ' (i + 2) := hμ (i + 1) (Or.inr (Or.inl ⟨h1, rfl⟩))
      have e2 : τ (i + 2) = τ' (i + 2) := hτ (i + 1) (Or.inr (Or.inl ⟨h1, rfl⟩))
      rw [e1] at h4
      rw [e2] at h3
      exact Or.inr (Or.inl ⟨h1, u, h2, h3, h4⟩)
    · have e1 : μ (i + 2) = μ' (i + 2) := hμ (i + 1) (Or.inr (Or.inr ⟨h1, Or.inl rfl⟩))
      have e2 : τ (i + 2) = τ' (i + 2) := hτ (i + 1) (Or.inr (Or.inr ⟨h1, Or.inl rfl⟩))
      have ep : ∀ {w p : Nat}, tko ch mt ab (mt (i + 1) + 1) w = some p → sbr ch mt i (p + 1) := by
        intro w p hp
        obtain ⟨_, _, r, hr, hp1, hp2, _⟩ := tko_sp hp
        exact Or.inr (Or.inr ⟨h1, Or.inr (Or.inl ⟨r, hr, by rw [← hp1]; exact hp2, by rw [hp1]⟩)⟩)
      refine Or.inr (Or.inr ⟨h1, ?_⟩)
      rcases h2 with (h2 | ⟨c, p, hc, hp, h3, h4⟩) | ⟨hz, c, hc, h3, h4⟩
      · rw [e1] at h2; exact Or.inl (Or.inl h2)
      · rw [e2] at h3
        rw [show μ (p + 2) = μ' (p + 2) from hμ (p + 1) (ep hp)] at h4
        exact Or.inl (Or.inr ⟨c, p, hc, hp, h3, h4⟩)
      · have e3 : τ (skp ch mt 6 (mt (i + 1) + 1) + 2) = τ' (skp ch mt 6 (mt (i + 1) + 1) + 2) := hτ _ (Or.inr (Or.inr ⟨h1, Or.inr (Or.inr ⟨hz, rfl⟩)⟩))
        have e4 : μ (skp ch mt 6 (mt (i + 1) + 1) + 2) = μ' (skp ch mt 6 (mt (i + 1) + 1) + 2) := hμ _ (Or.inr (Or.inr ⟨h1, Or.inr (Or.inr ⟨hz, rfl⟩)⟩))
        have e5 : mdr ch mt ab τ i tk t c = mdr ch mt ab τ' i tk t c := by
          unfold mdr
          rw [e2]
          refine vm_congr (fun _ _ => rfl) (fun s _ => ?_)
          unfold kmx
          refine kmo_congr (fun p hp tk s c => ?_) _ _
          rw [show τ (p + 2) = τ' (p + 2) from hτ (p + 1) (ep hp)]
        rw [e5] at h3
        rw [e3, e4] at h4
        exact Or.inr ⟨hz, c, hc, h3, h4⟩
  exact propext ⟨g hτ hμ, g (fun q hq => (hτ q hq).symm) (fun q hq => (hμ q hq).symm)⟩
theorem wme_congr (hW : WF ch mt n) {U U' : Nat → Nat → Nat → Nat} {M M' : Nat → Nat → Prop} {e : Nat} : ∀ (m p : Nat) (z : (Nat → Nat) × (Nat → Nat)), Wlk ch mt p e → (∀ i, p ≤ i → i < e → OkS ch mt i e → Wlk ch mt (nxt ch mt i) e → U i = U' i ∧ M i = M' i) → wme U M (nxt ch mt) m p e z = wme U' M' (nxt ch mt) m p e z
  | 0, _, _, _, _ => rfl
  | m + 1, p, z, hw, h => by
    show (p < e ∧ ((∃ t, t < 4 ∧ z.1 t < 1000 ∧ M p t) ∨ wme U M (nxt ch mt) m (nxt ch mt p) e (wst (U p) z))) = (p < e ∧ ((∃ t, t < 4 ∧ z.1 t < 1000 ∧ M' p t) ∨ wme U' M' (nxt ch mt) m (nxt ch mt p) e (wst (U' p) z)))
    by_cases q : p < e
    · rcases hw.cases with k | ⟨k1, k2, k3⟩
      · omega
      · obtain ⟨e1, e2⟩ := h p (Nat.le_refl _) q k2 k3
        have := (nxt_ok hW k2).1
        rw [e1, e2, wme_congr hW m (nxt ch mt p) _ k3 (fun i h1 h2 h3 h4 => h i (by omega) h2 h3 h4)]
    · simp [q]
theorem rowM_congr (hW : WF ch mt n) {X : Nat → Nat} {τ τ' : Nat → Nat → Nat → Nat → Nat} {μ μ' : Nat → Nat → Nat → Prop} {sp : Nat} (hsp : spt ch sp) (hτ : ∀ q, sp < q + 1 → spt ch (q + 1) → mt q < enp n mt sp → τ (q + 1) = τ' (q + 1)) (hμ : ∀ q, sp < q + 1 → spt ch (q + 1) → mt q < enp n mt sp → μ (q + 1) = μ' (q + 1)) : rowM hb lb ch mt ab n X τ μ sp = rowM hb lb ch mt ab n X τ' μ' sp := by
  funext tk s
  unfold rowM
  refine wme_congr hW 61 sp _ (hW.sp hsp).1 (fun i h1 h2 h3 _ => ?_)
  have hq : ∀ q, sbr ch mt i q → sp < q + 1 ∧ spt ch (q + 1) ∧ mt q < enp n mt sp := fun q hq => by
    have := sbr_ok hW h3 hq
    exact ⟨by omega, sbr_sp hW h3 hq, this.2.2⟩
  constructor
  · funext t c
    exact un_congr hW h3 (fun _ _ _ _ => rfl) (fun q h tk s c => by rw [hτ q (hq q h).1 (hq q h).2.1 (hq q h).2.2]) tk t c
  · funext t
    exact mun_congr hW h3 (fun q h => hτ q (hq q h).1 (hq q h).2.1 (hq q h).2.2) (fun q h => hμ q (hq q h).1 (hq q h).2.1 (hq q h).2.2) tk t
theorem Mn_st (hW : WF ch mt n) (X : Nat → Nat) : ∀ (m m' sp : Nat), spt ch sp → 61 ≤ m + sp → 61 ≤ m' + sp → Mn hb lb ch mt ab n X m sp = Mn hb lb ch mt ab n X m' sp
  | 0, _, sp, h, h1, _ => absurd (spt_le hW h) (by omega)
  | m + 1, 0, sp, h, _, h1 => absurd (spt_le hW h) (by omega)
  | m + 1, m' + 1, sp, h, h1, h2 => by
    show rowM hb lb ch mt ab n X (Tab ch mt ab n X) (Mn hb lb ch mt ab n X m) sp = rowM hb lb ch mt ab n X (Tab ch mt ab n X) (Mn hb lb ch mt ab n X m') sp
    exact rowM_congr hW h (fun _ _ _ _ => rfl) (fun q hq hs _ => Mn_st hW X m m' (q + 1) hs (by omega) (by omega))
theorem Mtb_eq (hW : WF ch mt n) (X : Nat → Nat) {sp : Nat} (h : spt ch sp) : Mtb hb lb ch mt ab n X sp = rowM hb lb ch mt ab n X (Tab ch mt ab n X) (Mtb hb lb ch mt ab n X) sp := by
  have h1 : Mtb hb lb ch mt ab n X sp = rowM hb lb ch mt ab n X (Tab ch mt ab n X) (Mn hb lb ch mt ab n X 61) sp := rfl
  rw [h1]
  exact rowM_congr hW h (fun _ _ _ _ => rfl) (fun q hq hs _ => Mn_st hW X 61 62 (q + 1) hs (by omega) (by omega))
end MT
