/-! ===== a text rests on the exits of what it calls ===== -/
def clb (ch : Nat → Nat) (p : Nat) : Prop := ∃ i, ch i = 64 ∧ ch (i + 1) = 97 + p
theorem wkr_congr4 {ch mt : Nat → Nat} {n : Nat} (hW : WF ch mt n) {U U' : Nat → Nat → Nat → Nat} {e : Nat} : ∀ (m p : Nat) (z : (Nat → Nat) × (Nat → Nat)), Wlk ch mt p e → (∀ i, p ≤ i → i < e → OkS ch mt i e → ∀ t, t < 4 → U i t = U' i t) → wkr U (nxt ch mt) m p e z = wkr U' (nxt ch mt) m p e z
  | 0, _, _, _, _ => rfl
  | m + 1, p, z, hw, h => by
    show (if p < e then wkr U (nxt ch mt) m (nxt ch mt p) e (wst (U p) z) else z) = (if p < e then wkr U' (nxt ch mt) m (nxt ch mt p) e (wst (U' p) z) else z)
    by_cases q : p < e
    · rw [if_pos q, if_pos q]
      rcases hw.cases with k | ⟨k1, k2, k3⟩
      · omega
      · have ew : wst (U p) z = wst (U' p) z := by
          have : ∀ c, vm 4 z.1 (U p) c = vm 4 z.1 (U' p) c := fun c => vm_congr (fun _ _ => rfl) (fun s hs => by rw [h p (Nat.le_refl _) q k2 s hs])
          unfold wst
          congr 1
          · funext c; exact this c
          · funext c; rw [this c]
        rw [ew]
        have := (nxt_ok hW k2).1
        exact wkr_congr4 hW m (nxt ch mt p) _ k3 (fun i h1 h2 h3 => h i (by omega) h2 h3)
    · rw [if_neg q, if_neg q]
theorem Tab_X {ch mt : Nat → Nat} {n : Nat} {ab : Nat → Nat → Bool} (hW : WF ch mt n) {X X' : Nat → Nat} (h : ∀ p, p < 8 → clb ch p → ∀ y, p * 112 ≤ y → y < p * 112 + 112 → X y = X' y) : ∀ (m sp : Nat), 61 ≤ m + sp → spt ch sp → Tab ch mt ab n X sp = Tab ch mt ab n X' sp
  | 0, sp, h1, h2 => absurd (spt_le hW h2) (by omega)
  | m + 1, sp, h1, h2 => by
    rw [Tab_eq hW X h2, Tab_eq hW X' h2]
    funext tk s c
    unfold rowT
    rw [wkr_congr4 hW 61 sp (z0 s) (hW.sp h2).1 (U' := un ch mt ab X' (Tab ch mt ab n X') tk)]
    intro i i1 i2 i3 t ht
    funext c
    by_cases q : ch i = 64
    · have hr : 97 ≤ ch (i + 1) ∧ ch (i + 1) ≤ 104 := by
        rcases i3 with w | w | w | w | w | w | w
        · omega
        · omega
        · omega
        · omega
        · omega
        · omega
        · omega
      rw [un_64 q, un_64 q]
      by_cases hc : c < 28
      · rw [if_pos hc, if_pos hc, h (ch (i + 1) - 97) (by omega) ⟨i, q, by omega⟩ _ (by omega) (by omega)]
      · rw [if_neg hc, if_neg hc]
    · refine un_congr hW i3 (fun w => absurd w q) (fun b hb tk s c => ?_) tk t c
      have hb2 := sbr_ok hW i3 hb
      rw [Tab_X hW h m (b + 1) (by omega) (sbr_sp hW i3 hb)]
theorem Fx_X {nF : Nat → Nat} {cF mF : Nat → Nat → Nat} {ab : Nat → Nat → Bool} {X X' : Nat → Nat} {x : Nat} (hW : WF (cF (x / 112)) (mF (x / 112)) (nF (x / 112))) (h : ∀ p, p < 8 → clb (cF (x / 112)) p → ∀ y, p * 112 ≤ y → y < p * 112 + 112 → X y = X' y) : Fx nF cF mF ab X x = Fx nF cF mF ab X' x := by
  unfold Fx
  rw [Tab_X hW h 61 0 (by omega) (Or.inl rfl)]
section CL
variable {nF : Nat → Nat} {cF mF : Nat → Nat → Nat} {ab : Nat → Nat → Bool} {C : Nat → Prop}
/-- a closed set of routines: their rows fall with their own exits alone -/
theorem Fx_C (hW : ∀ r, r < 8 → WF (cF r) (mF r) (nF r)) (hC : ∀ q p, q < 8 → p < 8 → C q → clb (cF q) p → C p) {Y Y' : Nat → Nat} (h : ∀ y, y < 896 → C (y / 112) → Y' y ≤ Y y) (hY : ∀ y, Y' y ≤ 1000) {x : Nat} (hx : x < 896) (hq : C (x / 112)) : Fx nF cF mF ab Y' x ≤ Fx nF cF mF ab Y x := by
  have hk : ∀ Z : Nat → Nat, Fx nF cF mF ab Z x = Fx nF cF mF ab (fun y => @ite Nat (y < 896 ∧ C (y / 112)) (Classical.propDecidable _) (Z y) 1000) x := by
    intro Z
    refine Fx_X (hW _ (by omega)) (fun p hp hc y y1 y2 => ?_)
    have hyp : y / 112 = p := by omega
    rw [if_pos ⟨by omega, by rw [hyp]; exact hC _ p (by omega) hp hq hc⟩]
  rw [hk Y, hk Y']
  refine (Fx_gd nF cF mF ab x).1 _ _ (fun y => ?_)
  by_cases w : y < 896 ∧ C (y / 112)
  · rw [if_pos w, if_pos w]; exact h y w.1 w.2
  · rw [if_neg w, if_neg w]; exact Nat.le_refl _
theorem Fx_Ce (hW : ∀ r, r < 8 → WF (cF r) (mF r) (nF r)) (hC : ∀ q p, q < 8 → p < 8 → C q → clb (cF q) p → C p) {Y Y' : Nat → Nat} (h : ∀ y, y < 896 → C (y / 112) → Y' y = Y y) {x : Nat} (hx : x < 896) (hq : C (x / 112)) : Fx nF cF mF ab Y' x = Fx nF cF mF ab Y x := by
  refine Fx_X (hW _ (by omega)) (fun p hp hc y y1 y2 => ?_)
  have hyp : y / 112 = p := by omega
  exact h y (by omega) (by rw [hyp]; exact hC _ p (by omega) hp hq hc)
/-- two families of texts that agree on a closed set come to the same there -/
theorem itr_0 (F : (Nat → Nat) → Nat → Nat) (x : Nat) : itr F 0 x = 1000 := rfl
theorem itr_s (F : (Nat → Nat) → Nat → Nat) (m x : Nat) : itr F (m + 1) x = F (itr F m) x := rfl
theorem Xs_fam {nF' : Nat → Nat} {cF' mF' : Nat → Nat → Nat} (hW : ∀ r, r < 8 → WF (cF r) (mF r) (nF r)) (hC : ∀ q p, q < 8 → p < 8 → C q → clb (cF q) p → C p) (he : ∀ q, q < 8 → C q → nF' q = nF q ∧ cF' q = cF q ∧ mF' q = mF q) (m : Nat) : ∀ x, x < 896 → C (x / 112) → itr (Fx nF' cF' mF' ab) m x = itr (Fx nF cF mF ab) m x := by
  induction m with
  | zero => intro x _ _; rw [itr_0, itr_0]
  | succ m ih =>
    intro x hx hq
    rw [itr_s, itr_s]
    obtain ⟨e1, e2, e3⟩ := he (x / 112) (by omega) hq
    have h1 : ∀ Z, Fx nF' cF' mF' ab Z x = Fx nF cF mF ab Z x := by
      intro Z
      unfold Fx
      rw [e1, e2, e3]
    rw [h1]
    exact Fx_Ce hW hC ih hx hq
end CL
/-- what stays true while exits are told again and again -/
def PI (G : (Nat → Nat) → Nat → Nat) (C Wt Ms : Nat → Prop) (O : Nat → Prop) (Y : Nat → Nat) : Prop :=
  (∀ x, Y x ≤ 1000) ∧ (∀ x, x < 896 → C (x / 112) → Xs G x ≤ Y x) ∧ (∀ x, x < 896 → Ms (x / 112) → Y x = Xs G x) ∧ (∀ x, x < 896 → Wt (x / 112) → ¬ O (x / 112) → Y x = G Y x) ∧ (∀ x, x < 896 → C (x / 112) → G Y x ≤ Y x)
section PS
variable {nF : Nat → Nat} {cF mF : Nat → Nat → Nat} {ab : Nat → Nat → Bool} {C Wt Ms : Nat → Prop}
theorem PI_step (hW : ∀ r, r < 8 → WF (cF r) (mF r) (nF r)) (hC : ∀ q p, q < 8 → p < 8 → C q → clb (cF q) p → C p) (hCW : ∀ q, Wt q → C q) (hMW : ∀ q, Ms q → ¬ Wt q) (hCm : ∀ q, C q → Ms q ∨ Wt q) {O O' : Nat → Prop} {Y : Nat → Nat} (h : PI (Fx nF cF mF ab) C Wt Ms O Y) {q : Nat} (hq : q < 8) (hqW : Wt q) (hO : ∀ p, p < 8 → p ≠ q → (¬ O' p → ¬ O p)) (hch : (∃ x, q * 112 ≤ x ∧ x < q * 112 + 112 ∧ Fx nF cF mF ab Y x ≠ Y x) → ∀ p, p < 8 → Wt p → clb (cF p) q → O' p) :
    PI (Fx nF cF mF ab) C Wt Ms O' (fun x => if q * 112 ≤ x ∧ x < q * 112 + 112 then Fx nF cF mF ab Y x else Y x) ∧ (∀ x, x < 896 → C (x / 112) → (if q * 112 ≤ x ∧ x < q * 112 + 112 then Fx nF cF mF ab Y x else Y x) ≤ Y x) := by
  obtain ⟨h0, h1, h2, h3, h5⟩ := h
  let G := Fx nF cF mF ab
  have hG : ∀ x, Gd (fun X => G X x) := Fx_gd nF cF mF ab
  let Y' : Nat → Nat := fun x => if q * 112 ≤ x ∧ x < q * 112 + 112 then Fx nF cF mF ab Y x else Y x
  have hY'1 : ∀ x, x / 112 = q → Y' x = G Y x := fun x hx => if_pos (by omega)
  have hY'2 : ∀ x, x / 112 ≠ q → Y' x = Y x := fun x hx => if_neg (by omega)
  have hle : ∀ x, x < 896 → C (x / 112) → Y' x ≤ Y x := fun x hx hc => by
    by_cases w : x / 112 = q
    · rw [hY'1 x w]; exact h5 x hx hc
    · rw [hY'2 x w]; exact Nat.le_refl _
  have hY'le : ∀ x, Y' x ≤ 1000 := fun x => by
    by_cases w : x / 112 = q
    · rw [hY'1 x w]; exact Fx_le _ _ _ _ _ _
    · rw [hY'2 x w]; exact h0 x
  have hGle : ∀ x, x < 896 → C (x / 112) → G Y' x ≤ G Y x := fun x hx hc => Fx_C hW hC hle hY'le hx hc
  refine ⟨⟨hY'le, fun x hx hc => ?_, fun x hx hm => ?_, fun x hx hw ho => ?_, fun x hx hc => ?_⟩, hle⟩
  · by_cases w : x / 112 = q
    · show Xs G x ≤ Y' x
      rw [hY'1 x w, ← Xs_fix hG (Fx_top nF cF mF ab) (Fx_le nF cF mF ab) x]
      exact Fx_C hW hC h1 (fun y => itr_le (Fx_le nF cF mF ab) 896 y) hx hc
    · show Xs G x ≤ Y' x
      rw [hY'2 x w]; exact h1 x hx hc
  · have w : x / 112 ≠ q := fun w => hMW _ hm (by rw [w]; exact hqW)
    show Y' x = _
    rw [hY'2 x w]; exact h2 x hx hm
  · show Y' x = G Y' x
    -- does anything that it calls change?
    by_cases hcq : (∃ y, q * 112 ≤ y ∧ y < q * 112 + 112 ∧ Fx nF cF mF ab Y y ≠ Y y)
    · have hno : ¬ clb (cF (x / 112)) q := fun z => ho (hch hcq _ (by omega) hw z)
      have e : G Y' x = G Y x := by
        refine Fx_X (hW _ (by omega)) (fun p hp hc y y1 y2 => hY'2 y (fun z => ?_))
        have : p = q := by omega
        rw [this] at hc; exact hno hc
      rw [e]
      by_cases w : x / 112 = q
      · exact hY'1 x w
      · rw [hY'2 x w]; exact h3 x hx hw (hO _ (by omega) w ho)
    · have hsame : ∀ y, y < 896 → Y' y = Y y := fun y hy => by
        by_cases w : y / 112 = q
        · rw [hY'1 y w]
          exact Classical.byContradiction (fun z => hcq ⟨y, by omega, by omega, z⟩)
        · exact hY'2 y w
      have e : G Y' x = G Y x := Fx_X (hW _ (by omega)) (fun p hp hc y y1 y2 => hsame y (by omega))
      rw [e]
      by_cases w : x / 112 = q
      · exact hY'1 x w
      · rw [hY'2 x w]; exact h3 x hx hw (hO _ (by omega) w ho)
  · show G Y' x ≤ Y' x
    by_cases w : x / 112 = q
    · rw [hY'1 x w]; exact hGle x hx hc
    · rw [hY'2 x w]; exact Nat.le_trans (hGle x hx hc) (h5 x hx hc)
theorem PI_end (hW : ∀ r, r < 8 → WF (cF r) (mF r) (nF r)) (hC : ∀ q p, q < 8 → p < 8 → C q → clb (cF q) p → C p) {O : Nat → Prop} {Y : Nat → Nat} (h : PI (Fx nF cF mF ab) C Wt Ms O Y) {n : Nat} (hn : ∀ x, x < 896 → C (x / 112) → Y x ≤ itr (Fx nF cF mF ab) n x) (he : 896 ≤ n ∨ ∀ x, x < 896 → C (x / 112) → Y x = Fx nF cF mF ab Y x) : ∀ x, x < 896 → C (x / 112) → Y x = Xs (Fx nF cF mF ab) x := by
  let G := Fx nF cF mF ab
  have hG : ∀ x, Gd (fun X => G X x) := Fx_gd nF cF mF ab
  intro x hx hc
  refine Nat.le_antisymm ?_ (h.2.1 x hx hc)
  rcases he with he | he
  · have := hn x hx hc
    rw [Xs_it hG (Fx_top nF cF mF ab) (Fx_le nF cF mF ab) he x] at this
    exact this
  · have : ∀ m, ∀ x, x < 896 → C (x / 112) → Y x ≤ itr G m x := by
      intro m
      induction m with
      | zero => intro x _ _; exact h.1 x
      | succ m ih =>
        intro x hx hc
        rw [he x hx hc]
        exact Fx_C hW hC ih h.1 hx hc
    exact this 896 x hx hc
end PS
