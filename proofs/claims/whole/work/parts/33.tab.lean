/-! ===== the tables: bounds, one equation, growth in X ===== -/
section TB
variable {ch mt : Nat → Nat} {ab : Nat → Nat → Bool} {n : Nat}
theorem kmo_congr {τ τ' : Nat → Nat → Nat → Nat → Nat} {o : Option Nat} (h : ∀ p, o = some p → ∀ tk s c, τ (p + 2) tk s c = τ' (p + 2) tk s c) (c c' : Nat) : kmo τ o c c' = kmo τ' o c c' := by
  cases o with
  | none => rfl
  | some p => exact h p rfl _ _ _
theorem un_congr (hW : WF ch mt n) {X X' : Nat → Nat} {τ τ' : Nat → Nat → Nat → Nat → Nat} {i e : Nat} (hs : OkS ch mt i e) (hX : ch i = 64 → ∀ t c, c < 28 → X (((ch (i + 1) - 97) * 4 + t) * 28 + c) = X' (((ch (i + 1) - 97) * 4 + t) * 28 + c)) (h : ∀ q, sbr ch mt i q → ∀ tk s c, τ (q + 1) tk s c = τ' (q + 1) tk s c) (tk t c : Nat) : un ch mt ab X τ tk i t c = un ch mt ab X' τ' tk i t c := by
  unfold un
  by_cases a1 : ch i = 33
  · rw [if_pos a1, if_pos a1]
  rw [if_neg a1, if_neg a1]
  by_cases a2 : ch i = 94
  · rw [if_pos a2, if_pos a2]
  rw [if_neg a2, if_neg a2]
  by_cases a3 : ch i = 46
  · rw [if_pos a3, if_pos a3]
  rw [if_neg a3, if_neg a3]
  by_cases a4 : ch i = 43
  · rw [if_pos a4, if_pos a4]
  rw [if_neg a4, if_neg a4]
  by_cases a5 : ch i = 45
  · rw [if_pos a5, if_pos a5]
  rw [if_neg a5, if_neg a5]
  by_cases a6 : ch i = 64
  · rw [if_pos a6, if_pos a6]
    by_cases hc : c < 28
    · rw [if_pos hc, if_pos hc, hX a6 t c hc]
    · rw [if_neg hc, if_neg hc]
  rw [if_neg a6, if_neg a6]
  by_cases a7 : ch i = 63
  · rw [if_pos a7, if_pos a7]
    have e1 := h (i + 1) (Or.inl ⟨a7, Or.inl rfl⟩) tk t c
    have e2 := h (mt (i + 1) + 1) (Or.inl ⟨a7, Or.inr rfl⟩) tk t c
    rw [show τ (i + 2) tk t c = τ' (i + 2) tk t c from e1, show τ (mt (i + 1) + 2) tk t c = τ' (mt (i + 1) + 2) tk t c from e2]
  rw [if_neg a7, if_neg a7]
  by_cases a8 : ch i = 42
  · rw [if_pos a8, if_pos a8]
    have e1 : τ (i + 2) tk = τ' (i + 2) tk := by
      funext s c; exact h (i + 1) (Or.inr (Or.inl ⟨a8, rfl⟩)) tk s c
    rw [e1]
  rw [if_neg a8, if_neg a8]
  have a9 : ch i = 84 := by rcases hs with h1 | h1 | h1 | h1 | h1 | h1 | h1 <;> omega
  have e0 : τ (i + 2) = τ' (i + 2) := by
    funext tk s c; exact h (i + 1) (Or.inr (Or.inr ⟨a9, Or.inl rfl⟩)) tk s c
  have e1 : mdr ch mt ab τ i tk t = mdr ch mt ab τ' i tk t := by
    funext c
    unfold mdr
    rw [e0]
    refine vm_congr (fun _ _ => rfl) (fun s _ => ?_)
    unfold kmx
    refine kmo_congr (fun p hp tk s c => ?_) _ _
    obtain ⟨_, _, r, hr, hp1, hp2, _⟩ := tko_sp hp
    exact h (p + 1) (Or.inr (Or.inr ⟨a9, Or.inr (Or.inl ⟨r, hr, by rw [← hp1]; exact hp2, by rw [hp1]⟩)⟩)) tk s c
  unfold tryr
  by_cases hz : ch (skp ch mt 6 (mt (i + 1) + 1)) = 90
  · rw [if_pos hz, if_pos hz, e1]
    refine vm_congr (fun _ _ => rfl) (fun s _ => ?_)
    have e2 : τ (skp ch mt 6 (mt (i + 1) + 1) + 2) = τ' (skp ch mt 6 (mt (i + 1) + 1) + 2) := by
      funext tk s c; exact h (skp ch mt 6 (mt (i + 1) + 1) + 1) (Or.inr (Or.inr ⟨a9, Or.inr (Or.inr ⟨hz, rfl⟩)⟩)) tk s c
    unfold emx
    rw [e2]
  · rw [if_neg hz, if_neg hz, e1]
theorem wkr_congr (hW : WF ch mt n) {U U' : Nat → Nat → Nat → Nat} {e : Nat} : ∀ (m p : Nat) (z : (Nat → Nat) × (Nat → Nat)), Wlk ch mt p e → (∀ i, p ≤ i → i < e → OkS ch mt i e → Wlk ch mt (nxt ch mt i) e → U i = U' i) → wkr U (nxt ch mt) m p e z = wkr U' (nxt ch mt) m p e z
  | 0, _, _, _, _ => rfl
  | m + 1, p, z, hw, h => by
    show (if p < e then wkr U (nxt ch mt) m (nxt ch mt p) e (wst (U p) z) else z) = (if p < e then wkr U' (nxt ch mt) m (nxt ch mt p) e (wst (U' p) z) else z)
    by_cases q : p < e
    · rw [if_pos q, if_pos q]
      rcases hw.cases with k | ⟨k1, k2, k3⟩
      · omega
      · rw [h p (Nat.le_refl _) q k2 k3]
        have := (nxt_ok hW k2).1
        exact wkr_congr hW m (nxt ch mt p) _ k3 (fun i h1 h2 h3 h4 => h i (by omega) h2 h3 h4)
    · rw [if_neg q, if_neg q]
theorem wkr_fuel (hW : WF ch mt n) {U : Nat → Nat → Nat → Nat} {e : Nat} : ∀ (m m' p : Nat) (z : (Nat → Nat) × (Nat → Nat)), Wlk ch mt p e → e ≤ m + p → e ≤ m' + p → wkr U (nxt ch mt) m p e z = wkr U (nxt ch mt) m' p e z
  | 0, 0, _, _, _, _, _ => rfl
  | 0, m' + 1, p, z, _, h, _ => by
    show z = if p < e then _ else z
    rw [if_neg (by omega)]
  | m + 1, 0, p, z, _, _, h => by
    show (if p < e then _ else z) = z
    rw [if_neg (by omega)]
  | m + 1, m' + 1, p, z, hw, h, h' => by
    show (if p < e then wkr U (nxt ch mt) m (nxt ch mt p) e (wst (U p) z) else z) = (if p < e then wkr U (nxt ch mt) m' (nxt ch mt p) e (wst (U p) z) else z)
    by_cases q : p < e
    · rw [if_pos q, if_pos q]
      rcases hw.cases with k | ⟨k1, k2, k3⟩
      · omega
      · have := (nxt_ok hW k2).1
        exact wkr_fuel hW m m' _ _ k3 (by omega) (by omega)
    · rw [if_neg q, if_neg q]
theorem spt_le (hW : WF ch mt n) {sp : Nat} (h : spt ch sp) : sp ≤ 60 := by
  rcases h with h | ⟨h, h0⟩
  · omega
  · have := hW.br h
    have := hW.1
    omega
theorem rowT_congr (hW : WF ch mt n) {X X' : Nat → Nat} {τ τ' : Nat → Nat → Nat → Nat → Nat} {sp : Nat} (hsp : spt ch sp) (hX : ∀ i, sp ≤ i → i < enp n mt sp → OkS ch mt i (enp n mt sp) → ch i = 64 → ∀ t c, c < 28 → X (((ch (i + 1) - 97) * 4 + t) * 28 + c) = X' (((ch (i + 1) - 97) * 4 + t) * 28 + c)) (h : ∀ q, sp < q + 1 → spt ch (q + 1) → mt q < enp n mt sp → ∀ tk s c, τ (q + 1) tk s c = τ' (q + 1) tk s c) : rowT ch mt ab n X τ sp = rowT ch mt ab n X' τ' sp := by
  funext tk s c
  unfold rowT
  rw [wkr_congr hW 61 sp _ (hW.sp hsp).1 (U' := un ch mt ab X' τ' tk)]
  intro i h1 h2 h3 _
  funext t c
  refine un_congr hW h3 (hX i h1 h2 h3) (fun q hq tk s c => ?_) tk t c
  have := sbr_ok hW h3 hq
  exact h q (by omega) (sbr_sp hW h3 hq) this.2.2 tk s c
theorem Tn_st (hW : WF ch mt n) (X : Nat → Nat) : ∀ (m m' sp : Nat), spt ch sp → 61 ≤ m + sp → 61 ≤ m' + sp → Tn ch mt ab n X m sp = Tn ch mt ab n X m' sp
  | 0, _, sp, h, h1, _ => absurd (spt_le hW h) (by omega)
  | m + 1, 0, sp, h, _, h1 => absurd (spt_le hW h) (by omega)
  | m + 1, m' + 1, sp, h, h1, h2 => by
    show rowT ch mt ab n X (Tn ch mt ab n X m) sp = rowT ch mt ab n X (Tn ch mt ab n X m') sp
    refine rowT_congr hW h (fun _ _ _ _ _ _ _ _ => rfl) (fun q hq hs _ tk s c => ?_)
    rw [Tn_st hW X m m' (q + 1) hs (by omega) (by omega)]
theorem Tab_eq (hW : WF ch mt n) (X : Nat → Nat) {sp : Nat} (h : spt ch sp) : Tab ch mt ab n X sp = rowT ch mt ab n X (Tab ch mt ab n X) sp := by
  have h1 : Tab ch mt ab n X sp = rowT ch mt ab n X (Tn ch mt ab n X 61) sp := rfl
  rw [h1]
  refine rowT_congr hW h (fun _ _ _ _ _ _ _ _ => rfl) (fun q hq hs _ tk s c => ?_)
  unfold Tab
  rw [Tn_st hW X 61 62 (q + 1) hs (by omega) (by omega)]
/-- a table that fits its own rows is the table -/
theorem Tab_uniq (hW : WF ch mt n) (X : Nat → Nat) (τ : Nat → Nat → Nat → Nat → Nat) : ∀ (m sp : Nat), 61 ≤ m + sp → spt ch sp → (∀ sp', sp ≤ sp' → spt ch sp' → τ sp' = rowT ch mt ab n X τ sp') → τ sp = Tab ch mt ab n X sp
  | 0, sp, h, hs, _ => absurd (spt_le hW hs) (by omega)
  | m + 1, sp, h, hs, he => by
    rw [he sp (Nat.le_refl _) hs, Tab_eq hW X hs]
    refine rowT_congr hW hs (fun _ _ _ _ _ _ _ _ => rfl) (fun q hq hs' _ tk s c => ?_)
    rw [Tab_uniq hW X τ m (q + 1) (by omega) hs' (fun sp' h1 h2 => he sp' (by omega) h2)]
theorem kmo_le {τ : Nat → Nat → Nat → Nat → Nat} (h : ∀ sp tk s c, τ sp tk s c ≤ 1000) (o : Option Nat) (c c' : Nat) : kmo τ o c c' ≤ 1000 := by
  cases o with
  | none => show (if c' = c then 0 else 1000) ≤ 1000; split <;> omega
  | some p => exact h _ _ _ _
theorem un_le {X : Nat → Nat} {τ : Nat → Nat → Nat → Nat → Nat} (h : ∀ sp tk s c, τ sp tk s c ≤ 1000) (tk i t c : Nat) : un ch mt ab X τ tk i t c ≤ 1000 := by
  unfold un
  split
  · split <;> omega
  split
  · split <;> omega
  split
  · split <;> omega
  split
  · split <;> omega
  split
  · split <;> omega
  split
  · split
    · exact sat_le _ _
    · omega
  split
  · exact Nat.le_trans (Nat.min_le_left _ _) (h _ _ _ _)
  split
  · split
    · exact clo_le (un1_le t) c
    · exact vm_le _ _ _ _
  · unfold tryr
    split
    · exact vm_le _ _ _ _
    · exact vm_le _ _ _ _
def zle (z : (Nat → Nat) × (Nat → Nat)) : Prop := (∀ c, z.1 c ≤ 1000) ∧ ∀ c, z.2 c ≤ 1000
theorem wst_le {U : Nat → Nat → Nat} {z : (Nat → Nat) × (Nat → Nat)} (h : zle z) : zle (wst U z) := ⟨fun c => vm_le _ _ _ _, fun c => Nat.le_trans (Nat.min_le_left _ _) (h.2 c)⟩
theorem wkr_le {U : Nat → Nat → Nat → Nat} {nx : Nat → Nat} : ∀ (m p e : Nat) (z : (Nat → Nat) × (Nat → Nat)), zle z → zle (wkr U nx m p e z)
  | 0, _, _, _, h => h
  | m + 1, p, e, z, h => by
    show zle (if p < e then wkr U nx m (nx p) e (wst (U p) z) else z)
    split
    · exact wkr_le m _ _ _ (wst_le h)
    · exact h
theorem z0_le (s : Nat) : zle (z0 s) := ⟨un1_le s, fun _ => Nat.le_refl _⟩
theorem rsr_le {z : (Nat → Nat) × (Nat → Nat)} (h : zle z) (c : Nat) : rsr z c ≤ 1000 := by
  unfold rsr; split
  · exact h.1 c
  · exact h.2 c
theorem Tn_le (X : Nat → Nat) : ∀ (m sp tk s c : Nat), Tn ch mt ab n X m sp tk s c ≤ 1000
  | 0, _, _, _, _ => Nat.le_refl _
  | _ + 1, _, _, s, c => rsr_le (wkr_le _ _ _ _ (z0_le s)) c
theorem Tab_le (X : Nat → Nat) (sp tk s c : Nat) : Tab ch mt ab n X sp tk s c ≤ 1000 := Tn_le X 62 sp tk s c
end TB
/-! growth: lower exits give lower rows; a row's value rests on lower exits alone -/
def Gd (f : (Nat → Nat) → Nat) : Prop := (∀ X Y : Nat → Nat, (∀ c, Y c ≤ X c) → f Y ≤ f X) ∧ (∀ (X Y : Nat → Nat) (v : Nat), v ≤ 998 → (∀ c, X c < v → Y c ≤ X c) → f X ≤ v → f Y ≤ f X)
theorem gd_k (a : Nat) : Gd (fun _ => a) := ⟨fun _ _ _ => Nat.le_refl _, fun _ _ _ _ _ _ => Nat.le_refl _⟩
theorem gd_at (c : Nat) : Gd (fun X => sat 1 (X c)) := by
  refine ⟨fun X Y h => sat_mono (Nat.le_refl _) (h c), fun X Y v hv h hf => sat_mono (Nat.le_refl _) (h c ?_)⟩
  have hf : sat 1 (X c) ≤ v := hf
  unfold sat at hf
  split at hf
  · omega
  · split at hf <;> omega
theorem gd_min {f g : (Nat → Nat) → Nat} (hf : Gd f) (hg : Gd g) : Gd (fun X => Min.min (f X) (g X)) := by
  refine ⟨fun X Y h => ?_, fun X Y v hv h hm => ?_⟩
  · have h1 := hf.1 X Y h
    have h2 := hg.1 X Y h
    show Min.min (f Y) (g Y) ≤ Min.min (f X) (g X)
    omega
  · have hm : Min.min (f X) (g X) ≤ v := hm
    show Min.min (f Y) (g Y) ≤ Min.min (f X) (g X)
    rcases Nat.le_total (f X) (g X) with q | q
    · have := hf.2 X Y v hv h (by omega)
      omega
    · have := hg.2 X Y v hv h (by omega)
      omega
theorem gd_sat {f g : (Nat → Nat) → Nat} (hf : Gd f) (hg : Gd g) : Gd (fun X => sat (f X) (g X)) := by
  refine ⟨fun X Y h => sat_mono (hf.1 X Y h) (hg.1 X Y h), fun X Y v hv h hm => ?_⟩
  have hm : sat (f X) (g X) ≤ v := hm
  have h12 : f X ≤ v ∧ g X ≤ v := by
    unfold sat at hm
    split at hm
    · omega
    · split at hm <;> omega
  exact sat_mono (hf.2 X Y v hv h h12.1) (hg.2 X Y v hv h h12.2)
theorem gd_mn {f : Nat → (Nat → Nat) → Nat} : ∀ (n : Nat), (∀ i, i < n → Gd (f i)) → Gd (fun X => mn n (fun i => f i X))
  | 0, _ => gd_k 1000
  | n + 1, h => gd_min (gd_mn n (fun i hi => h i (by omega))) (h n (by omega))
theorem gd_vm {n c : Nat} {h : (Nat → Nat) → Nat → Nat} {M : (Nat → Nat) → Nat → Nat → Nat} (h1 : ∀ s, s < n → Gd (fun X => h X s)) (h2 : ∀ s, s < n → Gd (fun X => M X s c)) : Gd (fun X => vm n (h X) (M X) c) :=
  gd_mn n (fun i hi => gd_sat (h1 i hi) (h2 i hi))
theorem gd_ite {p : Prop} [Decidable p] {f g : (Nat → Nat) → Nat} (hf : Gd f) (hg : Gd g) : Gd (fun X => if p then f X else g X) := by
  by_cases q : p
  · simp only [if_pos q]; exact hf
  · simp only [if_neg q]; exact hg
theorem gd_rln {w : (Nat → Nat) → Nat → Nat → Nat} {h : (Nat → Nat) → Nat → Nat} (h1 : ∀ u v, Gd (fun X => w X u v)) (h2 : ∀ v, Gd (fun X => h X v)) : ∀ (n v : Nat), Gd (fun X => rln (w X) n (h X) v)
  | 0, v => h2 v
  | n + 1, v => gd_min (gd_rln h1 h2 n v) (gd_vm (fun s _ => gd_rln h1 h2 n s) (fun s _ => h1 s v))
theorem gd_un (ch mt : Nat → Nat) (ab : Nat → Nat → Bool) {τ : (Nat → Nat) → Nat → Nat → Nat → Nat → Nat} (h : ∀ sp tk s c, Gd (fun X => τ X sp tk s c)) (tk i t c : Nat) : Gd (fun X => un ch mt ab X (τ X) tk i t c) := by
  have hm : ∀ c, Gd (fun X => mdr ch mt ab (τ X) i tk t c) := by
    intro c
    refine gd_vm (n := 32) (c := c) (h := fun X => τ X (i + 2) tk t) (M := fun X => kmx ch mt ab (τ X) (mt (i + 1) + 1)) (fun s _ => h _ _ _ _) (fun s _ => ?_)
    show Gd (fun X => kmo (τ X) (tko ch mt ab (mt (i + 1) + 1) (s / 4)) s c)
    cases tko ch mt ab (mt (i + 1) + 1) (s / 4) with
    | none => exact gd_k (if c = s then 0 else 1000)
    | some p => exact h (p + 2) (s / 4) (s % 4) c
  have hr : ∀ v, Gd (fun X => clo (τ X (i + 2) tk) (un1 t) v) := fun v => gd_rln (w := fun X => τ X (i + 2) tk) (h := fun _ => un1 t) (fun u v => h (i + 2) tk u v) (fun v => gd_k (un1 t v)) 3 v
  have hv : Gd (fun X => vm 4 (clo (τ X (i + 2) tk) (un1 t)) (τ X (i + 2) tk) c) := gd_vm (n := 4) (c := c) (h := fun X => clo (τ X (i + 2) tk) (un1 t)) (M := fun X => τ X (i + 2) tk) (fun s _ => hr s) (fun s _ => h (i + 2) tk s c)
  have ht : Gd (fun X => tryr ch mt ab (τ X) i tk t c) := by
    have he : Gd (fun X => vm 32 (mdr ch mt ab (τ X) i tk t) (emx (τ X) (skp ch mt 6 (mt (i + 1) + 1) + 2) tk) c) := by
      refine gd_vm (n := 32) (c := c) (h := fun X => mdr ch mt ab (τ X) i tk t) (M := fun X => emx (τ X) (skp ch mt 6 (mt (i + 1) + 1) + 2) tk) (fun s _ => hm s) (fun s _ => ?_)
      exact gd_min (f := fun X => if c / 4 = s / 4 then τ X (skp ch mt 6 (mt (i + 1) + 1) + 2) tk (s % 4) (c % 4) else 1000) (g := fun X => if c / 4 ≠ 0 then τ X (skp ch mt 6 (mt (i + 1) + 1) + 2) tk (s % 4) c else 1000) (gd_ite (h _ _ _ _) (gd_k _)) (gd_ite (h _ _ _ _) (gd_k _))
    exact gd_ite he (hm c)
  exact gd_ite (gd_k _) (gd_ite (gd_k _) (gd_ite (gd_k _) (gd_ite (gd_k _) (gd_ite (gd_k _) (gd_ite (gd_ite (gd_at _) (gd_k _)) (gd_ite (gd_min (h _ _ _ _) (h _ _ _ _)) (gd_ite (gd_ite (hr c) hv) ht)))))))
theorem gd_wkr {U : (Nat → Nat) → Nat → Nat → Nat → Nat} {nx : Nat → Nat} (hU : ∀ i t c, Gd (fun X => U X i t c)) : ∀ (m p e : Nat) (z : (Nat → Nat) → (Nat → Nat) × (Nat → Nat)), (∀ c, Gd (fun X => (z X).1 c)) → (∀ c, Gd (fun X => (z X).2 c)) → (∀ c, Gd (fun X => (wkr (U X) nx m p e (z X)).1 c)) ∧ ∀ c, Gd (fun X => (wkr (U X) nx m p e (z X)).2 c)
  | 0, _, _, _, h1, h2 => ⟨h1, h2⟩
  | m + 1, p, e, z, h1, h2 => by
    show (∀ c, Gd (fun X => (if p < e then wkr (U X) nx m (nx p) e (wst (U X p) (z X)) else z X).1 c)) ∧ ∀ c, Gd (fun X => (if p < e then wkr (U X) nx m (nx p) e (wst (U X p) (z X)) else z X).2 c)
    by_cases q : p < e
    · simp only [if_pos q]
      refine gd_wkr hU m (nx p) e (fun X => wst (U X p) (z X)) (fun c => ?_) (fun c => ?_)
      · exact gd_vm (fun s _ => h1 s) (fun s _ => hU p s c)
      · exact gd_min (h2 c) (gd_vm (fun s _ => h1 s) (fun s _ => hU p s c))
    · simp only [if_neg q]; exact ⟨h1, h2⟩
theorem gd_Tn (ch mt : Nat → Nat) (ab : Nat → Nat → Bool) (n : Nat) : ∀ (m sp tk s c : Nat), Gd (fun X => Tn ch mt ab n X m sp tk s c)
  | 0, _, _, _, _ => gd_k 1000
  | m + 1, sp, tk, s, c => by
    show Gd (fun X => rsr (wkr (un ch mt ab X (Tn ch mt ab n X m) tk) (nxt ch mt) 61 sp (enp n mt sp) (z0 s)) c)
    have h := gd_wkr (U := fun X => un ch mt ab X (Tn ch mt ab n X m) tk) (nx := nxt ch mt) (fun i t c => gd_un ch mt ab (gd_Tn ch mt ab n m) tk i t c) 61 sp (enp n mt sp) (fun _ => z0 s) (fun c => gd_k _) (fun c => gd_k _)
    unfold rsr
    exact gd_ite (h.1 c) (h.2 c)
theorem gd_Tab (ch mt : Nat → Nat) (ab : Nat → Nat → Bool) (n sp tk s c : Nat) : Gd (fun X => Tab ch mt ab n X sp tk s c) := gd_Tn ch mt ab n 62 sp tk s c
