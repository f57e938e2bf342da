/-! ===== the first program's reader follows the pure one ===== -/
theorem rd_tk {N m n d o a : Nat} {ch : Nat → Nat} {tk : Bool} {F : Nat → Int32 → Int32 → Int32 → Int32 → St → Option (Int32 × St)} {G : Nat → Bool → Rs} {S : St} (hN : 20 ≤ N) (hn : n ≤ 60) (hz : ∀ q, n ≤ q → ch q = 0) (hc : ∀ i, ch i < 256) (hp : Pq m n ch tk o a S) (ha : a ≤ 61) (hb : Bnd ch 3 a)
    (hF : ∀ k b e T, k ≤ 61 → Pq m n ch tk o k T → Bnd ch 2 k → ((b = false ∧ e = -1) ∨ (b = true ∧ ∃ k, k < 6 ∧ e = nI k)) → RdQ m ch 2 o e k T (G k b) (F 2 (nI k) (nI d) (nI o) e T))
    (ok : ∀ k b j, G k b = some (.inl j) → pOk n ch 2 k j) :
    RdQ m ch 3 o 0 a S (match G a false with
        | some (.inl j) => prL G ch tk 8 j 0
        | some (.inr x) => some (.inr x)
        | none => none) (fX3_readTaking F N (nI a) (nI d) (nI o) S) := by
  obtain ⟨hb1, hb2⟩ : 2 * cb ch a + 1 ≤ a ∧ 3 * cT ch a + 1 ≤ a := hb
  have h1 := hF a false (-1) S ha hp (show 2 * cb ch a + 1 ≤ a ∧ 3 * cT ch a ≤ a from ⟨hb1, by omega⟩) (Or.inl ⟨rfl, rfl⟩)
  unfold fX3_readTaking fX3_readTaking_13
  cases hG : G a false with
  | none => exact trivial
  | some y =>
    rw [hG] at h1
    cases y with
    | inr x =>
      obtain ⟨z, e1, h2⟩ := h1
      obtain ⟨N', rfl⟩ : ∃ k, N = k + 1 := ⟨N - 1, by omega⟩
      show WP _ (fun z => Ref m x S z)
      have eb : bfX3_readTaking_13 F (N' + 1) (nI d) (nI o) (-1, 0, z.2) = some (.inr (.inl (-1, 0, z.2))) := by
        unfold bfX3_readTaking_13
        dsimp only
        rw [if_neg (by decide), if_pos rfl]
      rw [e1]
      simp only [Option.bind_some]
      rw [h2.1, whl_e eb]
      refine WP.eq (y := (-1, z.2)) ?_ ⟨rfl, h2.2⟩
      show (if (-1 : Int32) = -1 then fX3_readTaking_122 F (N' + 1) (-1) 0 z.2 else (fX5_at (N' + 1) (z.2.2 9) (-1) z.2).bind (fun q12 => (if q12.1 = 90 then (F 2 (-1 + 1) (nI d) (nI o) (-1) q12.2).bind (fun q13 => some (q13.1, q13.2)) else fX3_readTaking_122 F (N' + 1) (-1) 0 q12.2))) = _
      rw [if_pos rfl]
      unfold fX3_readTaking_122 fX3_readTaking_145
      rw [if_pos rfl]
    | inl j =>
      obtain ⟨z, e1, h2, h3, h4⟩ := h1
      obtain ⟨k1, k2, k3, k4, k5, k6⟩ := ok _ _ _ hG
      have hs := Ext.sb h4 h3 hp.1.2.1
      obtain ⟨x1, x2, x3, x4⟩ := h4
      have w1 := h3.2.1.2.2.1
      rw [e1]
      simp only [Option.bind_some]
      rw [h2]
      exact rd_lp hn hz hc hp hF ok 8 j 0 z.2 N (by omega) (by omega) (by omega) ⟨h3, k3, hs, k5, fun r hr => absurd hr (by omega), by omega, by omega, x4, k1, k4, by omega⟩
theorem rd_all {N m n : Nat} {ch : Nat → Nat} (hN : 70 ≤ N) (hn : n ≤ 60) (hz : ∀ q, n ≤ q → ch q = 0) (hc : ∀ i, ch i < 256) : ∀ (D mode i d : Nat) (tk kd : Bool) (o : Nat) (e : Int32) (S : St), Pq m n ch tk o i S → (mode = 0 → i ≤ n) → (mode = 1 → i < n) → mode ≤ 3 → i ≤ 61 → d ≤ 8 → Bnd ch mode i → ((mode = 2 ∧ ((kd = false ∧ e = -1) ∨ (kd = true ∧ ∃ k, k < 6 ∧ e = nI k))) ∨ (mode ≠ 2 ∧ e = 0)) → RdQ m ch mode o e i S (pr n ch D mode i d tk kd) (f_rd D N mode (nI i) (nI d) (nI o) e S)
  | 0, _, _, _, _, _, _, _, _, _, _, _, _, _, _, _, _ => trivial
  | D + 1, mode, i, d, tk, kd, o, e, S, hp, h0, h1, h3, hi, hd, hb, he => by
    have F2 : ∀ k b e T, k ≤ 61 → Pq m n ch tk o k T → Bnd ch 2 k → ((b = false ∧ e = -1) ∨ (b = true ∧ ∃ k, k < 6 ∧ e = nI k)) → RdQ m ch 2 o e k T (pr n ch D 2 k d tk b) (f_rd D N 2 (nI k) (nI d) (nI o) e T) := fun k b e T hk hpk hbk hek => rd_all hN hn hz hc D 2 k d tk b o e T hpk (fun w => absurd w (by omega)) (fun w => absurd w (by omega)) (by omega) hk hd hbk (Or.inl ⟨rfl, hek⟩)
    have ok2 : ∀ k b j, pr n ch D 2 k d tk b = some (.inl j) → pOk n ch 2 k j := fun k b j h => pr_ok hn hz D 2 k d tk b j (fun w => absurd w (by omega)) (fun w => absurd w (by omega)) h
    match mode, h0, h1, h3, hb, he with
    | 0, h0, _, _, hb, he =>
      obtain rfl : e = 0 := by
        rcases he with ⟨w, _⟩ | ⟨_, w⟩
        · exact absurd w (by omega)
        · exact w
      show RdQ m ch 0 o 0 i S (prS (fun j => pr n ch D 1 j d tk false) n ch 60 i) ((whl N (bfX3_readStatements_6 (f_rd D N) N (nI d) (nI o)) (nI i, nI (60 - 60), S)).bind (fun y4 => some (y4.1, y4.2)))
      rw [bind_idp]
      exact rd_sts hn hz hc (G := fun j => pr n ch D 1 j d tk false) (fun i T hi hp hb => rd_all hN hn hz hc D 1 i d tk false o 0 T hp (fun w => absurd w (by omega)) (fun _ => hi) (by omega) (by omega) hd hb (Or.inr ⟨by omega, rfl⟩)) (fun i j hi hG => pr_ok hn hz D 1 i d tk false j (fun w => absurd w (by omega)) (fun _ => hi) hG) 60 i S N (h0 rfl) (by omega) (by omega) hp hb
    | 1, _, h1, _, hb, he =>
      obtain rfl : e = 0 := by
        rcases he with ⟨w, _⟩ | ⟨_, w⟩
        · exact absurd w (by omega)
        · exact w
      exact rd_st hn hz hc (F := f_rd D N) (G2 := fun k => pr n ch D 2 k d tk false) (G3 := fun k => pr n ch D 3 k d tk false) (h1 rfl) hp hb (fun k T hk hpk hbk => F2 k false (-1) T hk hpk hbk (Or.inl ⟨rfl, rfl⟩)) (fun k T hk hpk hbk => rd_all hN hn hz hc D 3 k d tk false o 0 T hpk (fun w => absurd w (by omega)) (fun w => absurd w (by omega)) (by omega) hk hd hbk (Or.inr ⟨by omega, rfl⟩)) (fun k j h => ok2 k false j h)
    | 2, _, _, _, hb, he =>
      have he : (kd = false ∧ e = -1) ∨ (kd = true ∧ ∃ k, k < 6 ∧ e = nI k) := by
        rcases he with ⟨_, w⟩ | ⟨w, _⟩
        · exact w
        · exact absurd rfl w
      exact rd_blk hn hz hc (F := f_rd D N) (r := pr n ch D 0 (i + 1) (d + 1) (kd || tk) false) hp hi hd hb he (fun T hi1 hd8 hpT hbT => rd_all hN hn hz hc D 0 (i + 1) (d + 1) (kd || tk) false (cb ch (i + 1)) 0 T hpT (fun _ => hi1) (fun w => absurd w (by omega)) (by omega) (by omega) (by omega) hbT (Or.inr ⟨by omega, rfl⟩)) (fun j hi1 hr => pr_ok hn hz D 0 (i + 1) (d + 1) (kd || tk) false j (fun _ => hi1) (fun w => absurd w (by omega)) hr)
    | 3, _, _, _, hb, he =>
      obtain rfl : e = 0 := by
        rcases he with ⟨w, _⟩ | ⟨_, w⟩
        · exact absurd w (by omega)
        · exact w
      exact rd_tk (by omega) hn hz hc (F := f_rd D N) (G := fun k b => pr n ch D 2 k d tk b) hp hi hb F2 ok2
    | k + 4, _, _, h3, _, _ => omega
/-! the fuel is enough; a refusal's number -/
theorem prS_some {F : Nat → Rs} {n : Nat} {ch : Nat → Nat} (hF : ∀ i, F i ≠ none) : ∀ m i, prS F n ch m i ≠ none
  | 0, i => fun h => by cases h
  | m + 1, i => by
    show (if i < n ∧ ch i ≠ 125 then (match F i with
      | some (.inl j) => prS F n ch m j
      | some (.inr x) => some (.inr x)
      | none => none) else some (.inl i)) ≠ none
    by_cases q : i < n ∧ ch i ≠ 125
    · rw [if_pos q]
      cases hf : F i with
      | none => exact absurd hf (hF i)
      | some y =>
        cases y with
        | inl j => exact prS_some hF m j
        | inr x => exact fun h => by cases h
    · rw [if_neg q]; exact fun h => by cases h
theorem prL_some {F : Nat → Bool → Rs} {ch : Nat → Nat} {tk : Bool} (hF : ∀ i b, F i b ≠ none) : ∀ m i c, 7 ≤ m + c → c ≤ 6 → prL F ch tk m i c ≠ none
  | 0, i, c, h1, h2 => by omega
  | m + 1, i, c, h1, h2 => by
    show (if ltr (ch i) then (if c = 6 then some (.inr (3, i)) else (match F (i + 1) true with
      | some (.inl j) => prL F ch tk m j (c + 1)
      | some (.inr x) => some (.inr x)
      | none => none))
      else if ch i = 90 then F (i + 1) false else if c = 0 then some (.inr (1, i)) else some (.inl i)) ≠ none
    by_cases q : ltr (ch i)
    · rw [if_pos q]
      by_cases q6 : c = 6
      · rw [if_pos q6]; exact fun h => by cases h
      · rw [if_neg q6]
        cases hf : F (i + 1) true with
        | none => exact absurd hf (hF _ _)
        | some y =>
          cases y with
          | inl j => exact prL_some hF m j (c + 1) (by omega) (by omega)
          | inr x => exact fun h => by cases h
    · rw [if_neg q]
      by_cases q9 : ch i = 90
      · rw [if_pos q9]; exact hF _ _
      · rw [if_neg q9]
        by_cases q0 : c = 0
        · rw [if_pos q0]; exact fun h => by cases h
        · rw [if_neg q0]; exact fun h => by cases h
theorem pr_some {n : Nat} {ch : Nat → Nat} : ∀ (D mode i d : Nat) (tk kd : Bool), d ≤ 8 → mode ≤ 3 → 4 * (8 - d) + (if mode = 0 then 4 else if mode = 1 then 3 else if mode = 2 then 1 else 2) ≤ D → pr n ch D mode i d tk kd ≠ none
  | 0, mode, i, d, tk, kd, hd, hm, h => by
    exfalso
    split at h
    · omega
    · split at h
      · omega
      · split at h <;> omega
  | D + 1, mode, i, d, tk, kd, hd, hm, h => by
    match mode, hm, h with
    | 0, _, h =>
      rw [if_pos rfl] at h
      exact prS_some (fun j => pr_some D 1 j d tk false hd (by omega) (by rw [if_neg (by omega), if_pos rfl]; omega)) 60 i
    | 1, _, h =>
      rw [if_neg (by omega), if_pos rfl] at h
      have h2 : ∀ k, pr n ch D 2 k d tk false ≠ none := fun k => pr_some D 2 k d tk false hd (by omega) (by rw [if_neg (by omega), if_neg (by omega), if_pos rfl]; omega)
      have h3 : ∀ k, pr n ch D 3 k d tk false ≠ none := fun k => pr_some D 3 k d tk false hd (by omega) (by rw [if_neg (by omega), if_neg (by omega), if_neg (by omega)]; omega)
      show (if ch i = 33 then (if ltr (ch (i + 1)) then some (.inl (i + 2)) else some (.inr (1, i + 1)))
        else if ch i = 42 then pr n ch D 2 (i + 1) d tk false
        else if ch i = 43 ∨ ch i = 45 then (if ch (i + 1) = 48 ∨ ch (i + 1) = 49 then some (.inl (i + 2)) else some (.inr (1, i + 1)))
        else if ch i = 46 then some (.inl (i + 1))
        else if ch i = 63 then (match pr n ch D 2 (i + 1) d tk false with
          | some (.inl j) => pr n ch D 2 j d tk false
          | some (.inr x) => some (.inr x)
          | none => none)
        else if ch i = 64 then (if 97 ≤ ch (i + 1) ∧ ch (i + 1) ≤ 104 then some (.inl (i + 2)) else some (.inr (1, i + 1)))
        else if ch i = 84 then pr n ch D 3 (i + 1) d tk false
        else if ch i = 94 then (if tk = true then some (.inl (i + 1)) else some (.inr (1, i)))
        else some (.inr (1, i))) ≠ none
      have nn : ∀ (c : Prop) [Decidable c] (a b : Rs), a ≠ none → b ≠ none → (if c then a else b) ≠ none := fun c _ a b ha hb => by
        by_cases w : c
        · rw [if_pos w]; exact ha
        · rw [if_neg w]; exact hb
      have so : ∀ y : Nat ⊕ (Nat × Nat), (some y : Rs) ≠ none := fun y h => by cases h
      refine nn _ _ _ (nn _ _ _ (so _) (so _)) (nn _ _ _ (h2 _) (nn _ _ _ (nn _ _ _ (so _) (so _)) (nn _ _ _ (so _) (nn _ _ _ ?_ (nn _ _ _ (nn _ _ _ (so _) (so _)) (nn _ _ _ (h3 _) (nn _ _ _ (nn _ _ _ (so _) (so _)) (so _))))))))
      cases hf : pr n ch D 2 (i + 1) d tk false with
      | none => exact absurd hf (h2 _)
      | some y =>
        cases y with
        | inl j => exact h2 j
        | inr x => exact so _
    | 2, _, h =>
      rw [if_neg (by omega), if_neg (by omega), if_pos rfl] at h
      show (if ch i = 123 then (if d < 8 then (match pr n ch D 0 (i + 1) (d + 1) (kd || tk) false with
        | some (.inl e) => if ch e = 125 then some (.inl (e + 1)) else some (.inr (1, e))
        | some (.inr x) => some (.inr x)
        | none => none) else some (.inr (2, i))) else some (.inr (1, i)) : Rs) ≠ none
      by_cases q : ch i = 123
      · rw [if_pos q]
        by_cases q8 : d < 8
        · rw [if_pos q8]
          cases hf : pr n ch D 0 (i + 1) (d + 1) (kd || tk) false with
          | none => exact absurd hf (pr_some D 0 (i + 1) (d + 1) (kd || tk) false (by omega) (by omega) (by rw [if_pos rfl]; omega))
          | some y =>
            cases y with
            | inl e =>
              show (if ch e = 125 then some (.inl (e + 1)) else some (.inr (1, e)) : Rs) ≠ none
              split
              · exact fun h => by cases h
              · exact fun h => by cases h
            | inr x => exact fun h => by cases h
        · rw [if_neg q8]; exact fun h => by cases h
      · rw [if_neg q]; exact fun h => by cases h
    | 3, _, h =>
      rw [if_neg (by omega), if_neg (by omega), if_neg (by omega)] at h
      have h2 : ∀ k b, pr n ch D 2 k d tk b ≠ none := fun k b => pr_some D 2 k d tk b hd (by omega) (by rw [if_neg (by omega), if_neg (by omega), if_pos rfl]; omega)
      show (match pr n ch D 2 i d tk false with
        | some (.inl j) => prL (fun k b => pr n ch D 2 k d tk b) ch tk 8 j 0
        | some (.inr x) => some (.inr x)
        | none => none) ≠ none
      cases hf : pr n ch D 2 i d tk false with
      | none => exact absurd hf (h2 _ _)
      | some y =>
        cases y with
        | inl j => exact prL_some h2 8 j 0 (by omega) (by omega)
        | inr x => exact fun h => by cases h
    | k + 4, hm, _ => omega
