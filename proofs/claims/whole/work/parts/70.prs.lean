/-! ===== reading a text, as a function; what is read is well made ===== -/
def sck (ch : Nat → Nat) : Nat → Nat → Nat → Nat
  | 0, p, _ => p
  | f + 1, p, k => if ch p = 123 then sck ch f (p + 1) (k + 1) else if ch p = 125 then (if k = 0 then p else sck ch f (p + 1) (k - 1)) else sck ch f (p + 1) k
/-- the brace that shuts -/
def mtp (ch : Nat → Nat) (q : Nat) : Nat := sck ch 61 (q + 1) 0
def bal (ch : Nat → Nat) (i j : Nat) : Prop := i ≤ j ∧ ∀ f k, j - i ≤ f → sck ch f i k = sck ch (f - (j - i)) j k
theorem bal_refl (ch : Nat → Nat) (i : Nat) : bal ch i i := ⟨Nat.le_refl _, fun f k _ => by rw [Nat.sub_self, Nat.sub_zero]⟩
theorem bal_trans {ch : Nat → Nat} {i j k : Nat} (h : bal ch i j) (h' : bal ch j k) : bal ch i k := by
  refine ⟨Nat.le_trans h.1 h'.1, fun f d hf => ?_⟩
  have h1 := h.1
  have h2 := h'.1
  rw [h.2 f d (by omega), h'.2 (f - (j - i)) d (by omega), show f - (j - i) - (k - j) = f - (k - i) by omega]
theorem bal_1 {ch : Nat → Nat} {i : Nat} (h1 : ch i ≠ 123) (h2 : ch i ≠ 125) : bal ch i (i + 1) := by
  refine ⟨by omega, fun f k hf => ?_⟩
  obtain ⟨f', rfl⟩ : ∃ f', f = f' + 1 := ⟨f - 1, by omega⟩
  show (if ch i = 123 then _ else if ch i = 125 then _ else sck ch f' (i + 1) k) = _
  rw [if_neg h1, if_neg h2, show f' + 1 - (i + 1 - i) = f' by omega]
theorem bal_b {ch : Nat → Nat} {q e : Nat} (h1 : ch q = 123) (h : bal ch (q + 1) e) (h2 : ch e = 125) : bal ch q (e + 1) := by
  have hle := h.1
  refine ⟨by omega, fun f k hf => ?_⟩
  obtain ⟨f', rfl⟩ : ∃ f', f = f' + 1 := ⟨f - 1, by omega⟩
  show (if ch q = 123 then sck ch f' (q + 1) (k + 1) else _) = _
  rw [if_pos h1, h.2 f' (k + 1) (by omega)]
  obtain ⟨g, hg⟩ : ∃ g, f' - (e - (q + 1)) = g + 1 := ⟨f' - (e - (q + 1)) - 1, by omega⟩
  rw [hg]
  show (if ch e = 123 then _ else if ch e = 125 then (if k + 1 = 0 then e else sck ch g (e + 1) (k + 1 - 1)) else _) = _
  rw [if_neg (by omega), if_pos h2, if_neg (by omega), show f' + 1 - (e + 1 - q) = g by omega, Nat.add_sub_cancel]
theorem mtp_b {ch : Nat → Nat} {q e : Nat} (h : bal ch (q + 1) e) (h2 : ch e = 125) (he : e ≤ 60) : mtp ch q = e := by
  have hle := h.1
  unfold mtp
  rw [h.2 61 0 (by omega)]
  obtain ⟨g, hg⟩ : ∃ g, 61 - (e - (q + 1)) = g + 1 := ⟨61 - (e - (q + 1)) - 1, by omega⟩
  rw [hg]
  show (if ch e = 123 then _ else if ch e = 125 then (if 0 = 0 then e else _) else _) = e
  rw [if_neg (by omega), if_pos h2, if_pos rfl]
/-! the reader -/
abbrev Rs : Type := Option (Nat ⊕ (Nat × Nat))
def prS (F : Nat → Rs) (n : Nat) (ch : Nat → Nat) : Nat → Nat → Rs
  | 0, i => some (.inl i)
  | m + 1, i => if i < n ∧ ch i ≠ 125 then (match F i with
      | some (.inl j) => prS F n ch m j
      | some (.inr x) => some (.inr x)
      | none => none) else some (.inl i)
def prL (F : Nat → Bool → Rs) (ch : Nat → Nat) (tk : Bool) : Nat → Nat → Nat → Rs
  | 0, _, _ => none
  | m + 1, i, c => if ltr (ch i) then (if c = 6 then some (.inr (3, i)) else (match F (i + 1) true with
      | some (.inl j) => prL F ch tk m j (c + 1)
      | some (.inr x) => some (.inr x)
      | none => none))
    else if ch i = 90 then F (i + 1) false else if c = 0 then some (.inr (1, i)) else some (.inl i)
def pr (n : Nat) (ch : Nat → Nat) : Nat → Nat → Nat → Nat → Bool → Bool → Rs
  | 0, _, _, _, _, _ => none
  | D + 1, mode, i, d, tk, kd => match mode with
    | 0 => prS (fun j => pr n ch D 1 j d tk false) n ch 60 i
    | 1 => if ch i = 33 then (if ltr (ch (i + 1)) then some (.inl (i + 2)) else some (.inr (1, i + 1)))
      else if ch i = 42 then pr n ch D 2 (i + 1) d tk false
      else if ch i = 43 ∨ ch i = 45 then (if ch (i + 1) = 48 ∨ ch (i + 1) = 49 then some (.inl (i + 2)) else some (.inr (1, i + 1)))
      else if ch i = 46 then some (.inl (i + 1))
      else if ch i = 63 then (match pr n ch D 2 (i + 1) d tk false with
        | some (.inl j) => pr n ch D 2 j d tk false
        | some (.inr x) => some (.inr x)
        | none => none)
      else if ch i = 64 then (if 97 ≤ ch (i + 1) ∧ ch (i + 1) ≤ 104 then some (.inl (i + 2)) else some (.inr (1, i + 1)))
      else if ch i = 84 then pr n ch D 3 (i + 1) d tk false
      else if ch i = 94 then (if tk = true then some (.inl (i + 1)) else some (.inr (1, i)))
      else some (.inr (1, i))
    | 2 => if ch i = 123 then (if d < 8 then (match pr n ch D 0 (i + 1) (d + 1) (kd || tk) false with
        | some (.inl e) => if ch e = 125 then some (.inl (e + 1)) else some (.inr (1, e))
        | some (.inr x) => some (.inr x)
        | none => none) else some (.inr (2, i))) else some (.inr (1, i))
    | _ => (match pr n ch D 2 i d tk false with
        | some (.inl j) => prL (fun k b => pr n ch D 2 k d tk b) ch tk 8 j 0
        | some (.inr x) => some (.inr x)
        | none => none)
/-- all braces of a region are good -/
def GB (ch : Nat → Nat) (i j : Nat) : Prop := ∀ q, i ≤ q → q < j → ch q = 123 → q < mtp ch q ∧ mtp ch q < j ∧ Wlk ch (mtp ch) (q + 1) (mtp ch q)
theorem GB.tr {ch : Nat → Nat} {i j k : Nat} (h : GB ch i j) (h' : GB ch j k) (hjk : j ≤ k) : GB ch i k := fun q h1 h2 h3 => by
  rcases Nat.lt_or_ge q j with w | w
  · have := h q h1 w h3
    exact ⟨this.1, by omega, this.2.2⟩
  · exact h' q w h2 h3
theorem GB.no {ch : Nat → Nat} {i j : Nat} (h : ∀ q, i ≤ q → q < j → ch q ≠ 123) : GB ch i j := fun q h1 h2 h3 => absurd h3 (h q h1 h2)
theorem GB.one {ch : Nat → Nat} {i : Nat} (h : ch i ≠ 123) : GB ch i (i + 1) := fun q h1 h2 h3 => by
  rw [show q = i by omega] at h3
  exact absurd h3 h
theorem OkS.mono {ch mt : Nat → Nat} {i e e' : Nat} (h : OkS ch mt i e) (he : e ≤ e') : OkS ch mt i e' := by
  rcases h with h | h | h | h | h | h | h
  · exact Or.inl ⟨h.1, h.2.1, by omega⟩
  · exact Or.inr (Or.inl ⟨h.1, h.2.1, h.2.2.1, by omega⟩)
  · exact Or.inr (Or.inr (Or.inl ⟨h.1, h.2.1, by omega⟩))
  · exact Or.inr (Or.inr (Or.inr (Or.inl ⟨h.1, by omega⟩)))
  · exact Or.inr (Or.inr (Or.inr (Or.inr (Or.inl ⟨h.1, h.2.1, h.2.2.1, by omega⟩))))
  · exact Or.inr (Or.inr (Or.inr (Or.inr (Or.inr (Or.inl ⟨h.1, h.2.1, by omega⟩)))))
  · refine Or.inr (Or.inr (Or.inr (Or.inr (Or.inr (Or.inr ⟨h.1, h.2.1, h.2.2.1, h.2.2.2.1, ?_⟩)))))
    have h5 := h.2.2.2.2
    split at h5
    · rename_i hz; rw [if_pos hz]; exact ⟨h5.1, by omega⟩
    · rename_i hz; rw [if_neg hz]; omega
/-- what each mode gives -/
def pOk (n : Nat) (ch : Nat → Nat) (mode i j : Nat) : Prop := j ≤ n ∧ bal ch i j ∧ GB ch i j ∧ (match mode with
  | 0 => Wlk ch (mtp ch) i j
  | 1 => i < j ∧ OkS ch (mtp ch) i j ∧ nxt ch (mtp ch) i = j
  | 2 => ch i = 123 ∧ mtp ch i + 1 = j ∧ i < mtp ch i
  | _ => ∀ t, t + 1 = i → ch t = 84 → OkS ch (mtp ch) t j ∧ nxt ch (mtp ch) t = j)
theorem prS_ok {n : Nat} {ch : Nat → Nat} {F : Nat → Rs} (hF : ∀ i j, i < n → F i = some (.inl j) → pOk n ch 1 i j) : ∀ (m i j : Nat), i ≤ n → prS F n ch m i = some (.inl j) → pOk n ch 0 i j
  | 0, i, j, hi, h => by
    have : i = j := by cases h; rfl
    subst this
    exact ⟨hi, bal_refl _ _, GB.no (fun q h1 h2 => by omega), 0, rfl⟩
  | m + 1, i, j, hi, h => by
    have h : (if i < n ∧ ch i ≠ 125 then (match F i with
      | some (.inl j) => prS F n ch m j
      | some (.inr x) => some (.inr x)
      | none => none) else some (.inl i)) = some (.inl j) := h
    by_cases q : i < n ∧ ch i ≠ 125
    · rw [if_pos q] at h
      cases hf : F i with
      | none => rw [hf] at h; cases h
      | some y =>
        cases y with
        | inr x => rw [hf] at h; cases h
        | inl k =>
          rw [hf] at h
          obtain ⟨a1, a2, a3, a4, a5, a6⟩ := hF i k q.1 hf
          obtain ⟨b1, b2, b3, mm, b4⟩ := prS_ok hF m k j a1 h
          have hkj := b2.1
          refine ⟨b1, bal_trans a2 b2, a3.tr b3 hkj, mm + 1, Or.inr ⟨by omega, a5.mono hkj, ?_⟩⟩
          rw [a6]; exact b4
    · rw [if_neg q] at h
      have : i = j := by cases h; rfl
      subst this
      exact ⟨hi, bal_refl _ _, GB.no (fun q h1 h2 => by omega), 0, rfl⟩
/-- the takers and the ending behind a block -/
theorem prL_ok {n : Nat} {ch : Nat → Nat} (hz : ∀ q, n ≤ q → ch q = 0) {F : Nat → Bool → Rs} {tk : Bool} (hF : ∀ i b j, F i b = some (.inl j) → pOk n ch 2 i j) : ∀ (m i c j : Nat), i ≤ n → c ≤ 6 → prL F ch tk m i c = some (.inl j) → j ≤ n ∧ bal ch i j ∧ GB ch i j ∧ (∀ a, a < 6 - c → ltr (ch (skp ch (mtp ch) a i)) → ch (skp ch (mtp ch) a i + 1) = 123) ∧ ¬ ltr (ch (skp ch (mtp ch) (6 - c) i)) ∧ (if ch (skp ch (mtp ch) (6 - c) i) = 90 then ch (skp ch (mtp ch) (6 - c) i + 1) = 123 ∧ mtp ch (skp ch (mtp ch) (6 - c) i + 1) + 1 = j else skp ch (mtp ch) (6 - c) i = j)
  | 0, _, _, _, _, _, h => by cases h
  | m + 1, i, c, j, hi, hc, h => by
    have h : (if ltr (ch i) then (if c = 6 then some (.inr (3, i)) else (match F (i + 1) true with
      | some (.inl j) => prL F ch tk m j (c + 1)
      | some (.inr x) => some (.inr x)
      | none => none))
      else if ch i = 90 then F (i + 1) false else if c = 0 then some (.inr (1, i)) else some (.inl i)) = some (.inl j) := h
    by_cases q : ltr (ch i)
    · rw [if_pos q] at h
      by_cases q6 : c = 6
      · rw [if_pos q6] at h; cases h
      · rw [if_neg q6] at h
        cases hf : F (i + 1) true with
        | none => rw [hf] at h; cases h
        | some y =>
          cases y with
          | inr x => rw [hf] at h; cases h
          | inl k =>
            rw [hf] at h
            obtain ⟨a1, a2, a3, a4, a5, a6⟩ := hF (i + 1) true k hf
            obtain ⟨b1, b2, b3, b4, b5, b6⟩ := prL_ok hz hF m k (c + 1) j a1 (by omega) h
            have es : ∀ a, skp ch (mtp ch) (a + 1) i = skp ch (mtp ch) a k := fun a => by
              show (if ltr (ch i) then skp ch (mtp ch) a (mtp ch (i + 1) + 1) else i) = _
              rw [if_pos q, a5]
            have e6 : skp ch (mtp ch) (6 - c) i = skp ch (mtp ch) (6 - (c + 1)) k := by
              rw [show 6 - c = 6 - (c + 1) + 1 by omega]; exact es _
            have hb1 : bal ch i (i + 1) := bal_1 (by omega) (by omega)
            refine ⟨b1, bal_trans (bal_trans hb1 a2) b2, ((GB.one (by omega)).tr a3 a2.1).tr b3 b2.1, fun a ha hl => ?_, ?_, ?_⟩
            · cases a with
              | zero => exact a4
              | succ a => rw [es a] at hl ⊢; exact b4 a (by omega) hl
            · rw [e6]; exact b5
            · rw [e6]; exact b6
    · rw [if_neg q] at h
      have es : ∀ a, skp ch (mtp ch) a i = i := fun a => by
        cases a with
        | zero => rfl
        | succ a => exact if_neg q
      by_cases q9 : ch i = 90
      · rw [if_pos q9] at h
        obtain ⟨a1, a2, a3, a4, a5, a6⟩ := hF (i + 1) false j h
        have hb1 : bal ch i (i + 1) := bal_1 (by omega) (by omega)
        refine ⟨a1, bal_trans hb1 a2, (GB.one (by omega)).tr a3 a2.1, fun a _ hl => ?_, ?_, ?_⟩
        · rw [es a] at hl; exact absurd hl q
        · rw [es]; exact q
        · rw [es, if_pos q9]; exact ⟨a4, a5⟩
      · rw [if_neg q9] at h
        by_cases q0 : c = 0
        · rw [if_pos q0] at h; cases h
        · rw [if_neg q0] at h
          have : i = j := by cases h; rfl
          subst this
          refine ⟨hi, bal_refl _ _, GB.no (fun q h1 h2 => by omega), fun a _ hl => ?_, ?_, ?_⟩
          · rw [es a] at hl; exact absurd hl q
          · rw [es]; exact q
          · rw [es, if_neg q9]
theorem pr_ok {n : Nat} {ch : Nat → Nat} (hn : n ≤ 60) (hz : ∀ q, n ≤ q → ch q = 0) : ∀ (D mode i d : Nat) (tk kd : Bool) (j : Nat), (mode = 0 → i ≤ n) → (mode = 1 → i < n) → pr n ch D mode i d tk kd = some (.inl j) → pOk n ch mode i j
  | 0, _, _, _, _, _, _, _, _, h => by cases h
  | D + 1, mode, i, d, tk, kd, j, hi0, hi1, h => by
    have lt_n : ∀ q, ch q ≠ 0 → q < n := fun q hq => by
      rcases Nat.lt_or_ge q n with w | w
      · exact w
      · exact absurd (hz q w) hq
    match mode, hi0, hi1, h with
    | 0, hi0, _, h =>
      have h : prS (fun j => pr n ch D 1 j d tk false) n ch 60 i = some (.inl j) := h
      exact prS_ok (fun i j hin hF => pr_ok hn hz D 1 i d tk false j (fun w => absurd w (by omega)) (fun _ => hin) hF) 60 i j (hi0 rfl) h
    | 2, _, _, h =>
      have h : (if ch i = 123 then (if d < 8 then (match pr n ch D 0 (i + 1) (d + 1) (kd || tk) false with
        | some (.inl e) => if ch e = 125 then some (.inl (e + 1)) else some (.inr (1, e))
        | some (.inr x) => some (.inr x)
        | none => none) else some (.inr (2, i))) else some (.inr (1, i)) : Rs) = some (.inl j) := h
      by_cases q : ch i = 123
      · rw [if_pos q] at h
        have hin := lt_n i (by omega)
        by_cases q8 : d < 8
        · rw [if_pos q8] at h
          cases hf : pr n ch D 0 (i + 1) (d + 1) (kd || tk) false with
          | none => rw [hf] at h; cases h
          | some y =>
            cases y with
            | inr x => rw [hf] at h; cases h
            | inl e =>
              rw [hf] at h
              have h : (if ch e = 125 then some (.inl (e + 1)) else some (.inr (1, e)) : Rs) = some (.inl j) := h
              by_cases qe : ch e = 125
              · rw [if_pos qe] at h
                have : e + 1 = j := by cases h; rfl
                subst this
                obtain ⟨a1, a2, a3, a4⟩ := pr_ok hn hz D 0 (i + 1) (d + 1) (kd || tk) false e (fun _ => by omega) (fun w => absurd w (by omega)) hf
                have hen := lt_n e (by omega)
                have hm := mtp_b (q := i) a2 qe (by omega)
                have hle := a2.1
                refine ⟨by omega, bal_b q a2 qe, fun b h1 h2 h3 => ?_, q, by rw [hm], by omega⟩
                by_cases w : b = i
                · subst w; rw [hm]; exact ⟨by omega, by omega, a4⟩
                · by_cases w2 : b = e
                  · rw [w2] at h3; omega
                  · have := a3 b (by omega) (by omega) h3
                    exact ⟨this.1, by omega, this.2.2⟩
              · rw [if_neg qe] at h; cases h
        · rw [if_neg q8] at h; cases h
      · rw [if_neg q] at h; cases h
    | 1, _, hi1, h =>
      have hin := hi1 rfl
      have two : ∀ (hc1 : ch i ≠ 123) (hc2 : ch i ≠ 125) (hd1 : ch (i + 1) ≠ 123) (hd2 : ch (i + 1) ≠ 125) (hd0 : ch (i + 1) ≠ 0), i + 2 ≤ n ∧ bal ch i (i + 2) ∧ GB ch i (i + 2) := by
        intro hc1 hc2 hd1 hd2 hd0
        have := lt_n (i + 1) hd0
        refine ⟨by omega, bal_trans (bal_1 hc1 hc2) (bal_1 hd1 hd2), GB.no (fun q h1 h2 h3 => ?_)⟩
        by_cases w : q = i
        · rw [w] at h3; exact hc1 h3
        · rw [show q = i + 1 by omega] at h3; exact hd1 h3
      have one : ∀ (hc1 : ch i ≠ 123) (hc2 : ch i ≠ 125), i + 1 ≤ n ∧ bal ch i (i + 1) ∧ GB ch i (i + 1) := by
        intro hc1 hc2
        refine ⟨by omega, bal_1 hc1 hc2, GB.no (fun q h1 h2 h3 => ?_)⟩
        rw [show q = i by omega] at h3; exact hc1 h3
      have h : (if ch i = 33 then (if ltr (ch (i + 1)) then some (.inl (i + 2)) else some (.inr (1, i + 1)))
        else if ch i = 42 then pr n ch D 2 (i + 1) d tk false
        else if ch i = 43 ∨ ch i = 45 then (if ch (i + 1) = 48 ∨ ch (i + 1) = 49 then some (.inl (i + 2)) else some (.inr (1, i + 1)))
        else if ch i = 46 then some (.inl (i + 1))
        else if ch i = 63 then (match pr n ch D 2 (i + 1) d tk false with
          | some (.inl j) => pr n ch D 2 j d tk false
          | some (.inr x) => some (.inr x)
          | none => none)
        else if ch i = 64 then (if 97 ≤ ch (i + 1) ∧ ch (i + 1) ≤ 104 then some (.inl (i + 2)) else some (.inr (1, i + 1)))
        else if ch i = 84 then pr n ch D 3 (i + 1) d tk false
        else if ch i = 94 then (if tk = true then some (.inl (i + 1)) else some (.inr (1, i)))
        else some (.inr (1, i))) = some (.inl j) := h
      have b2 : ∀ k j, pr n ch D 2 k d tk false = some (.inl j) → pOk n ch 2 k j := fun k j hk => pr_ok hn hz D 2 k d tk false j (fun w => absurd w (by omega)) (fun w => absurd w (by omega)) hk
      by_cases q33 : ch i = 33
      · rw [if_pos q33] at h
        by_cases q : ltr (ch (i + 1))
        · rw [if_pos q] at h
          have : i + 2 = j := by cases h; rfl
          subst this
          obtain ⟨t1, t2, t3⟩ := two (by omega) (by omega) (by omega) (by omega) (by omega)
          refine ⟨t1, t2, t3, by omega, Or.inl ⟨q33, q, Nat.le_refl _⟩, ?_⟩
          unfold nxt; rw [if_neg (by omega), if_neg (by omega), if_neg (by omega), if_neg (by omega)]
        · rw [if_neg q] at h; cases h
      rw [if_neg q33] at h
      by_cases q42 : ch i = 42
      · rw [if_pos q42] at h
        obtain ⟨a1, a2, a3, a4, a5, a6⟩ := b2 _ _ h
        refine ⟨a1, bal_trans (bal_1 (by omega) (by omega)) a2, (GB.one (by omega)).tr a3 a2.1, by omega, Or.inr (Or.inr (Or.inr (Or.inr (Or.inr (Or.inl ⟨q42, a4, by omega⟩))))), ?_⟩
        unfold nxt; rw [if_neg (by omega), if_pos q42]; exact a5
      rw [if_neg q42] at h
      by_cases q43 : ch i = 43 ∨ ch i = 45
      · rw [if_pos q43] at h
        by_cases q : ch (i + 1) = 48 ∨ ch (i + 1) = 49
        · rw [if_pos q] at h
          have : i + 2 = j := by cases h; rfl
          subst this
          obtain ⟨t1, t2, t3⟩ := two (by omega) (by omega) (by omega) (by omega) (by omega)
          refine ⟨t1, t2, t3, by omega, Or.inr (Or.inr (Or.inl ⟨q43, q, Nat.le_refl _⟩)), ?_⟩
          unfold nxt; rw [if_neg (by omega), if_neg (by omega), if_neg (by omega), if_neg (by omega)]
        · rw [if_neg q] at h; cases h
      rw [if_neg q43] at h
      by_cases q46 : ch i = 46
      · rw [if_pos q46] at h
        have : i + 1 = j := by cases h; rfl
        subst this
        obtain ⟨t1, t2, t3⟩ := one (by omega) (by omega)
        refine ⟨t1, t2, t3, by omega, Or.inr (Or.inr (Or.inr (Or.inl ⟨Or.inl q46, Nat.le_refl _⟩))), ?_⟩
        unfold nxt; rw [if_neg (by omega), if_neg (by omega), if_neg (by omega), if_pos (Or.inr q46)]
      rw [if_neg q46] at h
      by_cases q63 : ch i = 63
      · rw [if_pos q63] at h
        cases hf : pr n ch D 2 (i + 1) d tk false with
        | none => rw [hf] at h; cases h
        | some y =>
          cases y with
          | inr x => rw [hf] at h; cases h
          | inl k =>
            rw [hf] at h
            obtain ⟨a1, a2, a3, a4, a5, a6⟩ := b2 _ _ hf
            obtain ⟨c1, c2, c3, c4, c5, c6⟩ := b2 _ _ h
            have ek : mtp ch (i + 1) + 1 = k := a5
            refine ⟨c1, bal_trans (bal_trans (bal_1 (by omega) (by omega)) a2) c2, ((GB.one (by omega)).tr a3 a2.1).tr c3 c2.1, by have := a2.1; have := c2.1; omega, Or.inr (Or.inr (Or.inr (Or.inr (Or.inl ⟨q63, a4, by rw [ek]; exact c4, by rw [ek]; omega⟩)))), ?_⟩
            unfold nxt; rw [if_pos q63, ek]; exact c5
      rw [if_neg q63] at h
      by_cases q64 : ch i = 64
      · rw [if_pos q64] at h
        by_cases q : 97 ≤ ch (i + 1) ∧ ch (i + 1) ≤ 104
        · rw [if_pos q] at h
          have : i + 2 = j := by cases h; rfl
          subst this
          obtain ⟨t1, t2, t3⟩ := two (by omega) (by omega) (by omega) (by omega) (by omega)
          refine ⟨t1, t2, t3, by omega, Or.inr (Or.inl ⟨q64, q.1, q.2, Nat.le_refl _⟩), ?_⟩
          unfold nxt; rw [if_neg (by omega), if_neg (by omega), if_neg (by omega), if_neg (by omega)]
        · rw [if_neg q] at h; cases h
      rw [if_neg q64] at h
      by_cases q84 : ch i = 84
      · rw [if_pos q84] at h
        obtain ⟨a1, a2, a3, a4⟩ := pr_ok hn hz D 3 (i + 1) d tk false j (fun w => absurd w (by omega)) (fun w => absurd w (by omega)) h
        obtain ⟨c1, c2⟩ := a4 i rfl q84
        exact ⟨a1, bal_trans (bal_1 (by omega) (by omega)) a2, (GB.one (by omega)).tr a3 a2.1, by have := a2.1; omega, c1, c2⟩
      rw [if_neg q84] at h
      by_cases q94 : ch i = 94
      · rw [if_pos q94] at h
        by_cases q : tk = true
        · rw [if_pos q] at h
          have : i + 1 = j := by cases h; rfl
          subst this
          obtain ⟨t1, t2, t3⟩ := one (by omega) (by omega)
          refine ⟨t1, t2, t3, by omega, Or.inr (Or.inr (Or.inr (Or.inl ⟨Or.inr q94, Nat.le_refl _⟩))), ?_⟩
          unfold nxt; rw [if_neg (by omega), if_neg (by omega), if_neg (by omega), if_pos (Or.inl q94)]
        · rw [if_neg q] at h; cases h
      · rw [if_neg q94] at h; cases h
    | m' + 3, _, _, h =>
      have h : (match pr n ch D 2 i d tk false with
        | some (.inl j) => prL (fun k b => pr n ch D 2 k d tk b) ch tk 8 j 0
        | some (.inr x) => some (.inr x)
        | none => none) = some (.inl j) := h
      cases hf : pr n ch D 2 i d tk false with
      | none => rw [hf] at h; cases h
      | some y =>
        cases y with
        | inr x => rw [hf] at h; cases h
        | inl k =>
          rw [hf] at h
          obtain ⟨a1, a2, a3, a4, a5, a6⟩ := pr_ok hn hz D 2 i d tk false k (fun w => absurd w (by omega)) (fun w => absurd w (by omega)) hf
          obtain ⟨c1, c2, c3, c4, c5, c6⟩ := prL_ok hz (F := fun k b => pr n ch D 2 k d tk b) (tk := tk) (fun i b j hF => pr_ok hn hz D 2 i d tk b j (fun w => absurd w (by omega)) (fun w => absurd w (by omega)) hF) 8 k 0 j a1 (by omega) h
          refine ⟨c1, bal_trans a2 c2, a3.tr c3 c2.1, fun t ht h84 => ?_⟩
          subst ht
          have ek : mtp ch (t + 1) + 1 = k := a5
          rw [show 6 - 0 = 6 from rfl] at c4 c5 c6
          refine ⟨Or.inr (Or.inr (Or.inr (Or.inr (Or.inr (Or.inr ⟨h84, a4, by rw [ek]; exact c4, by rw [ek]; exact c5, ?_⟩))))), ?_⟩
          · rw [ek]
            by_cases w : ch (skp ch (mtp ch) 6 k) = 90
            · rw [if_pos w] at c6 ⊢; exact ⟨c6.1, by omega⟩
            · rw [if_neg w] at c6 ⊢; omega
          · unfold nxt
            rw [if_neg (by omega), if_neg (by omega), if_pos h84, ek]
            by_cases w : ch (skp ch (mtp ch) 6 k) = 90
            · rw [if_pos w] at c6 ⊢; exact c6.2
            · rw [if_neg w] at c6 ⊢; exact c6
/-- a text that is read to its end is well made -/
theorem pr_WF {n : Nat} {ch : Nat → Nat} (hn : n ≤ 60) (hz : ∀ q, n ≤ q → ch q = 0) {D : Nat} (h : pr n ch D 0 0 0 false false = some (.inl n)) : WF ch (mtp ch) n := by
  obtain ⟨a1, a2, a3, a4⟩ := pr_ok hn hz D 0 0 0 false false n (fun _ => Nat.zero_le _) (fun w => absurd w (by omega)) h
  refine ⟨hn, hz, a4, fun q hq => a3 q (Nat.zero_le _) ?_ hq⟩
  rcases Nat.lt_or_ge q n with w | w
  · exact w
  · rw [hz q w] at hq; omega
