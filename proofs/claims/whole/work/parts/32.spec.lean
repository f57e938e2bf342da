/-! ===== texts and their tables, as functions ===== -/
abbrev ltr (c : Nat) : Prop := 65 ≤ c ∧ c ≤ 70
def skp (ch mt : Nat → Nat) : Nat → Nat → Nat
  | 0, j => j
  | m + 1, j => if ltr (ch j) then skp ch mt m (mt (j + 1) + 1) else j
def tkf (ch mt : Nat → Nat) (ab : Nat → Nat → Bool) (k : Nat) : Nat → Nat → Option Nat
  | 0, _ => none
  | m + 1, j => if ltr (ch j) then (if ab k (ch j - 65) = true then some j else tkf ch mt ab k m (mt (j + 1) + 1)) else none
def nxt (ch mt : Nat → Nat) (i : Nat) : Nat :=
  if ch i = 63 then mt (mt (i + 1) + 1) + 1
  else if ch i = 42 then mt (i + 1) + 1
  else if ch i = 84 then (if ch (skp ch mt 6 (mt (i + 1) + 1)) = 90 then mt (skp ch mt 6 (mt (i + 1) + 1) + 1) + 1 else skp ch mt 6 (mt (i + 1) + 1))
  else if ch i = 94 ∨ ch i = 46 then i + 1 else i + 2
def kmo (τ : Nat → Nat → Nat → Nat → Nat) (o : Option Nat) (c c' : Nat) : Nat := match o with
  | some p => τ (p + 2) (c / 4) (c % 4) c'
  | none => if c' = c then 0 else 1000
def tko (ch mt : Nat → Nat) (ab : Nat → Nat → Bool) (bh w : Nat) : Option Nat := if 1 ≤ w ∧ w ≤ 6 then tkf ch mt ab (w - 1) 6 bh else none
def kmx (ch mt : Nat → Nat) (ab : Nat → Nat → Bool) (τ : Nat → Nat → Nat → Nat → Nat) (bh c c' : Nat) : Nat := kmo τ (tko ch mt ab bh (c / 4)) c c'
def emx (τ : Nat → Nat → Nat → Nat → Nat) (sp tk c c' : Nat) : Nat := min (if c' / 4 = c / 4 then τ sp tk (c % 4) (c' % 4) else 1000) (if c' / 4 ≠ 0 then τ sp tk (c % 4) c' else 1000)
def mdr (ch mt : Nat → Nat) (ab : Nat → Nat → Bool) (τ : Nat → Nat → Nat → Nat → Nat) (i tk t c : Nat) : Nat := vm 32 (τ (i + 2) tk t) (kmx ch mt ab τ (mt (i + 1) + 1)) c
def tryr (ch mt : Nat → Nat) (ab : Nat → Nat → Bool) (τ : Nat → Nat → Nat → Nat → Nat) (i tk t c : Nat) : Nat :=
  if ch (skp ch mt 6 (mt (i + 1) + 1)) = 90 then vm 32 (mdr ch mt ab τ i tk t) (emx τ (skp ch mt 6 (mt (i + 1) + 1) + 2) tk) c else mdr ch mt ab τ i tk t c
def ton (t b : Nat) : Nat := if b = 0 then (if t % 2 = 0 then t + 1 else t) else (if t < 2 then t + 2 else t)
def tof (t b : Nat) : Nat := if b = 0 then t - t % 2 else t % 2
def stw (τ : Nat → Nat → Nat → Nat → Nat) (sp tk : Nat) (u v : Nat) : Nat := τ sp tk u v
/-- a statement's row, from what is there at its start -/
def un (ch mt : Nat → Nat) (ab : Nat → Nat → Bool) (X : Nat → Nat) (τ : Nat → Nat → Nat → Nat → Nat) (tk i t c : Nat) : Nat :=
  if ch i = 33 then (if c = (ch (i + 1) - 64) * 4 + t then 1 else 1000)
  else if ch i = 94 then (if 0 < tk ∧ c = tk * 4 + t then 1 else 1000)
  else if ch i = 46 then (if c = 28 + t then 1 else 1000)
  else if ch i = 43 then (if c = ton t (ch (i + 1) - 48) then 1 else 1000)
  else if ch i = 45 then (if c = tof t (ch (i + 1) - 48) then 1 else 1000)
  else if ch i = 64 then (if c < 28 then sat 1 (X (((ch (i + 1) - 97) * 4 + t) * 28 + c)) else 1000)
  else if ch i = 63 then min (τ (i + 2) tk t c) (τ (mt (i + 1) + 2) tk t c)
  else if ch i = 42 then (if c < 4 then clo (τ (i + 2) tk) (un1 t) c else vm 4 (clo (τ (i + 2) tk) (un1 t)) (τ (i + 2) tk) c)
  else tryr ch mt ab τ i tk t c
def wst (U : Nat → Nat → Nat) (z : (Nat → Nat) × (Nat → Nat)) : (Nat → Nat) × (Nat → Nat) := (fun c => vm 4 z.1 U c, fun c => min (z.2 c) (vm 4 z.1 U c))
def wkr (U : Nat → Nat → Nat → Nat) (nx : Nat → Nat) : Nat → Nat → Nat → (Nat → Nat) × (Nat → Nat) → (Nat → Nat) × (Nat → Nat)
  | 0, _, _, z => z
  | m + 1, i, e, z => if i < e then wkr U nx m (nx i) e (wst (U i) z) else z
def rsr (z : (Nat → Nat) × (Nat → Nat)) (c : Nat) : Nat := if c < 4 then z.1 c else z.2 c
def enp (n : Nat) (mt : Nat → Nat) (sp : Nat) : Nat := if sp = 0 then n else mt (sp - 1)
def z0 (s : Nat) : (Nat → Nat) × (Nat → Nat) := (un1 s, fun _ => 1000)
def rowT (ch mt : Nat → Nat) (ab : Nat → Nat → Bool) (n : Nat) (X : Nat → Nat) (τ : Nat → Nat → Nat → Nat → Nat) (sp tk s c : Nat) : Nat := rsr (wkr (un ch mt ab X τ tk) (nxt ch mt) 61 sp (enp n mt sp) (z0 s)) c
def Tn (ch mt : Nat → Nat) (ab : Nat → Nat → Bool) (n : Nat) (X : Nat → Nat) : Nat → Nat → Nat → Nat → Nat → Nat
  | 0 => fun _ _ _ _ => 1000
  | m + 1 => rowT ch mt ab n X (Tn ch mt ab n X m)
/-- the tables -/
def Tab (ch mt : Nat → Nat) (ab : Nat → Nat → Bool) (n : Nat) (X : Nat → Nat) : Nat → Nat → Nat → Nat → Nat := Tn ch mt ab n X 62
/-! what is well made -/
def OkS (ch mt : Nat → Nat) (i e : Nat) : Prop :=
  (ch i = 33 ∧ ltr (ch (i + 1)) ∧ i + 2 ≤ e) ∨ (ch i = 64 ∧ 97 ≤ ch (i + 1) ∧ ch (i + 1) ≤ 104 ∧ i + 2 ≤ e) ∨ ((ch i = 43 ∨ ch i = 45) ∧ (ch (i + 1) = 48 ∨ ch (i + 1) = 49) ∧ i + 2 ≤ e) ∨ ((ch i = 46 ∨ ch i = 94) ∧ i + 1 ≤ e)
  ∨ (ch i = 63 ∧ ch (i + 1) = 123 ∧ ch (mt (i + 1) + 1) = 123 ∧ mt (mt (i + 1) + 1) < e) ∨ (ch i = 42 ∧ ch (i + 1) = 123 ∧ mt (i + 1) < e)
  ∨ (ch i = 84 ∧ ch (i + 1) = 123 ∧ (∀ m, m < 6 → ltr (ch (skp ch mt m (mt (i + 1) + 1))) → ch (skp ch mt m (mt (i + 1) + 1) + 1) = 123) ∧ ¬ ltr (ch (skp ch mt 6 (mt (i + 1) + 1))) ∧ (if ch (skp ch mt 6 (mt (i + 1) + 1)) = 90 then ch (skp ch mt 6 (mt (i + 1) + 1) + 1) = 123 ∧ mt (skp ch mt 6 (mt (i + 1) + 1) + 1) < e else skp ch mt 6 (mt (i + 1) + 1) ≤ e))
def wok (ch mt : Nat → Nat) : Nat → Nat → Nat → Prop
  | 0, p, e => p = e
  | m + 1, p, e => p = e ∨ (p < e ∧ OkS ch mt p e ∧ wok ch mt m (nxt ch mt p) e)
def Wlk (ch mt : Nat → Nat) (p e : Nat) : Prop := ∃ m, wok ch mt m p e
def WF (ch mt : Nat → Nat) (n : Nat) : Prop := n ≤ 60 ∧ (∀ q, n ≤ q → ch q = 0) ∧ Wlk ch mt 0 n ∧ (∀ q, ch q = 123 → q < mt q ∧ mt q < n ∧ Wlk ch mt (q + 1) (mt q))
/-- the braces of a statement -/
def sbr (ch mt : Nat → Nat) (i q : Nat) : Prop :=
  (ch i = 63 ∧ (q = i + 1 ∨ q = mt (i + 1) + 1)) ∨ (ch i = 42 ∧ q = i + 1) ∨ (ch i = 84 ∧ (q = i + 1 ∨ (∃ r, r < 6 ∧ ltr (ch (skp ch mt r (mt (i + 1) + 1))) ∧ q = skp ch mt r (mt (i + 1) + 1) + 1) ∨ (ch (skp ch mt 6 (mt (i + 1) + 1)) = 90 ∧ q = skp ch mt 6 (mt (i + 1) + 1) + 1)))
theorem skp_s (ch mt : Nat → Nat) : ∀ (m j : Nat), skp ch mt (m + 1) j = if ltr (ch (skp ch mt m j)) then mt (skp ch mt m j + 1) + 1 else skp ch mt m j
  | 0, j => by
    show (if ltr (ch j) then skp ch mt 0 (mt (j + 1) + 1) else j) = _
    rfl
  | m + 1, j => by
    show (if ltr (ch j) then skp ch mt (m + 1) (mt (j + 1) + 1) else j) = _
    by_cases h : ltr (ch j)
    · rw [if_pos h, skp_s ch mt m, show skp ch mt (m + 1) j = skp ch mt m (mt (j + 1) + 1) from if_pos h]
    · have e : skp ch mt (m + 1) j = j := if_neg h
      rw [if_neg h, e, if_neg h]
theorem tkf_sp {ch mt : Nat → Nat} {ab : Nat → Nat → Bool} {k p : Nat} : ∀ {m j : Nat}, tkf ch mt ab k m j = some p → ∃ r, r < m ∧ p = skp ch mt r j ∧ ltr (ch p) ∧ ab k (ch p - 65) = true
  | 0, _, h => by cases h
  | m + 1, j, h => by
    have h : (if ltr (ch j) then (if ab k (ch j - 65) = true then some j else tkf ch mt ab k m (mt (j + 1) + 1)) else none) = some p := h
    by_cases h1 : ltr (ch j)
    · rw [if_pos h1] at h
      by_cases h2 : ab k (ch j - 65) = true
      · rw [if_pos h2] at h
        cases h
        exact ⟨0, by omega, rfl, h1, h2⟩
      · rw [if_neg h2] at h
        obtain ⟨r, h3, h4, h5, h6⟩ := tkf_sp h
        exact ⟨r + 1, by omega, by rw [h4]; exact (if_pos h1).symm, h5, h6⟩
    · rw [if_neg h1] at h; cases h
theorem tko_sp {ch mt : Nat → Nat} {ab : Nat → Nat → Bool} {bh w p : Nat} (h : tko ch mt ab bh w = some p) : 1 ≤ w ∧ w ≤ 6 ∧ ∃ r, r < 6 ∧ p = skp ch mt r bh ∧ ltr (ch p) ∧ ab (w - 1) (ch p - 65) = true := by
  unfold tko at h
  by_cases q : 1 ≤ w ∧ w ≤ 6
  · rw [if_pos q] at h; exact ⟨q.1, q.2, tkf_sp h⟩
  · rw [if_neg q] at h; cases h
section SP
variable {ch mt : Nat → Nat} {n : Nat}
theorem WF.br (h : WF ch mt n) {q : Nat} (hq : ch q = 123) : q < mt q ∧ mt q < n := ⟨(h.2.2.2 q hq).1, (h.2.2.2 q hq).2.1⟩
/-- the takers' places grow -/
theorem skp_up (h : WF ch mt n) {j : Nat} (hb : ∀ m, m < 6 → ltr (ch (skp ch mt m j)) → ch (skp ch mt m j + 1) = 123) : ∀ {a b : Nat}, a ≤ b → b ≤ 6 → skp ch mt a j ≤ skp ch mt b j := by
  intro a b hab hb6
  induction b with
  | zero => rw [show a = 0 by omega]; exact Nat.le_refl _
  | succ b ih =>
    rcases Nat.lt_or_ge b a with q | q
    · rw [show a = b + 1 by omega]; exact Nat.le_refl _
    · refine Nat.le_trans (ih q (by omega)) ?_
      rw [skp_s]
      by_cases z : ltr (ch (skp ch mt b j))
      · rw [if_pos z]
        have := h.br (hb b (by omega) z)
        omega
      · rw [if_neg z]; exact Nat.le_refl _
theorem sbr_ok (h : WF ch mt n) {i e q : Nat} (hs : OkS ch mt i e) (hq : sbr ch mt i q) : ch q = 123 ∧ i < q ∧ mt q < e := by
  rcases hs with h1 | h1 | h1 | h1 | h1 | h1 | h1
  · rcases hq with ⟨h2, -⟩ | ⟨h2, -⟩ | ⟨h2, -⟩ <;> omega
  · rcases hq with ⟨h2, -⟩ | ⟨h2, -⟩ | ⟨h2, -⟩ <;> omega
  · rcases hq with ⟨h2, -⟩ | ⟨h2, -⟩ | ⟨h2, -⟩ <;> omega
  · rcases hq with ⟨h2, -⟩ | ⟨h2, -⟩ | ⟨h2, -⟩ <;> omega
  · obtain ⟨h1, h3, h4, h5⟩ := h1
    have a1 := h.br h3
    have a2 := h.br h4
    rcases hq with ⟨-, h2 | h2⟩ | h2 | h2
    · subst h2; exact ⟨h3, by omega, by omega⟩
    · subst h2; exact ⟨h4, by omega, by omega⟩
    · omega
    · omega
  · obtain ⟨h1, h3, h4⟩ := h1
    rcases hq with h2 | h2 | h2
    · omega
    · rw [h2.2]; exact ⟨h3, by omega, by omega⟩
    · omega
  · obtain ⟨h1, h3, h4, h5, h6⟩ := h1
    have a1 := h.br h3
    have hup := fun {a b : Nat} => skp_up h (j := mt (i + 1) + 1) h4 (a := a) (b := b)
    have h0 : skp ch mt 0 (mt (i + 1) + 1) = mt (i + 1) + 1 := rfl
    have h6' : skp ch mt 6 (mt (i + 1) + 1) ≤ e := by
      split at h6
      · have := h.br h6.1; omega
      · exact h6
    rcases hq with h2 | h2 | ⟨-, h2 | ⟨r, hr, hl, h2⟩ | ⟨hz, h2⟩⟩
    · omega
    · omega
    · subst h2
      have := hup (Nat.zero_le 6) (Nat.le_refl 6)
      exact ⟨h3, by omega, by omega⟩
    · subst h2
      have a2 := h4 r hr hl
      have a3 := h.br a2
      have a4 := hup (Nat.zero_le r) (by omega)
      have a5 := hup (show r + 1 ≤ 6 by omega) (Nat.le_refl 6)
      rw [skp_s, if_pos hl] at a5
      exact ⟨a2, by omega, by omega⟩
    · subst h2
      rw [if_pos hz] at h6
      have := hup (Nat.zero_le 6) (Nat.le_refl 6)
      exact ⟨h6.1, by omega, h6.2⟩
/-- the next statement lies behind, and within -/
theorem nxt_ok (h : WF ch mt n) {i e : Nat} (hs : OkS ch mt i e) : i < nxt ch mt i ∧ nxt ch mt i ≤ e := by
  unfold nxt
  rcases hs with h1 | h1 | h1 | h1 | h1 | h1 | h1
  · rw [if_neg (by omega), if_neg (by omega), if_neg (by omega), if_neg (by omega)]; omega
  · rw [if_neg (by omega), if_neg (by omega), if_neg (by omega), if_neg (by omega)]; omega
  · rw [if_neg (by omega), if_neg (by omega), if_neg (by omega), if_neg (by omega)]; omega
  · rw [if_neg (by omega), if_neg (by omega), if_neg (by omega), if_pos (by omega)]; omega
  · obtain ⟨h1, h3, h4, h5⟩ := h1
    have a1 := h.br h3
    have a2 := h.br h4
    rw [if_pos h1]; omega
  · obtain ⟨h1, h3, h4⟩ := h1
    have a1 := h.br h3
    rw [if_neg (by omega), if_pos h1]; omega
  · obtain ⟨h1, h3, h4, h5, h6⟩ := h1
    have a1 := h.br h3
    have hup := skp_up h (j := mt (i + 1) + 1) h4 (Nat.zero_le 6) (Nat.le_refl 6)
    have h0 : skp ch mt 0 (mt (i + 1) + 1) = mt (i + 1) + 1 := rfl
    rw [if_neg (by omega), if_neg (by omega), if_pos h1]
    split at h6
    · rename_i hz
      have := h.br h6.1
      rw [if_pos hz]; omega
    · rename_i hz
      rw [if_neg hz]; omega
theorem wok_mono : ∀ {m m' p e : Nat}, m ≤ m' → wok ch mt m p e → wok ch mt m' p e
  | 0, 0, _, _, _, h => h
  | 0, m' + 1, _, _, _, h => Or.inl h
  | m + 1, 0, _, _, h, _ => absurd h (by omega)
  | m + 1, m' + 1, p, e, h, k => by
    rcases k with k | ⟨k1, k2, k3⟩
    · exact Or.inl k
    · exact Or.inr ⟨k1, k2, wok_mono (by omega) k3⟩
/-- a walk as an induction: from the end backwards -/
theorem Wlk.ind (h : WF ch mt n) {e : Nat} (P : Nat → Prop) (hb : P e) (hst : ∀ i, i < e → OkS ch mt i e → Wlk ch mt (nxt ch mt i) e → P (nxt ch mt i) → P i) {p : Nat} (hw : Wlk ch mt p e) : P p := by
  obtain ⟨m, hm⟩ := hw
  induction m generalizing p with
  | zero => rw [show p = e from hm]; exact hb
  | succ m ih =>
    rcases hm with k | ⟨k1, k2, k3⟩
    · rw [k]; exact hb
    · exact hst p k1 k2 ⟨m, k3⟩ (ih k3)
theorem Wlk.cases {p e : Nat} (hw : Wlk ch mt p e) : p = e ∨ (p < e ∧ OkS ch mt p e ∧ Wlk ch mt (nxt ch mt p) e) := by
  obtain ⟨m, hm⟩ := hw
  cases m with
  | zero => exact Or.inl hm
  | succ m =>
    rcases hm with k | ⟨k1, k2, k3⟩
    · exact Or.inl k
    · exact Or.inr ⟨k1, k2, m, k3⟩
theorem Wlk.le (h : WF ch mt n) {p e : Nat} (hw : Wlk ch mt p e) : p ≤ e := by
  rcases hw.cases with k | ⟨k1, _, _⟩ <;> omega
/-- where tables stand: places behind a brace, and 0 -/
def spt (ch : Nat → Nat) (sp : Nat) : Prop := sp = 0 ∨ ch (sp - 1) = 123 ∧ 0 < sp
theorem WF.sp (h : WF ch mt n) {sp : Nat} (hs : spt ch sp) : Wlk ch mt sp (enp n mt sp) ∧ enp n mt sp ≤ n := by
  unfold enp
  rcases hs with e | ⟨e, h0⟩
  · rw [if_pos e, e]; exact ⟨h.2.2.1, Nat.le_refl _⟩
  · rw [if_neg (by omega)]
    have h1 := h.2.2.2 _ e
    rw [show sp - 1 + 1 = sp by omega] at h1
    exact ⟨h1.2.2, by omega⟩
theorem sbr_sp {i e q : Nat} (h : WF ch mt n) (hs : OkS ch mt i e) (hq : sbr ch mt i q) : spt ch (q + 1) := Or.inr ⟨by rw [Nat.add_sub_cancel]; exact (sbr_ok h hs hq).1, by omega⟩
end SP
