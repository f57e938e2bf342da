/-! under -/
theorem upn_succ' {p : Nat → Int32} : ∀ (n k : Nat), upn p (n + 1) k = upn p n (pn p k)
  | 0, _ => rfl
  | n + 1, k => by
    show pn p (upn p (n + 1) k) = pn p (upn p n (pn p k))
    rw [upn_succ' n k]
theorem upn_upd {p : Nat → Int32} {c : Nat} {v : Int32} : ∀ (n k : Nat), (∀ m, m < n → upn p m k ≠ c) → upn (upd p c v) n k = upn p n k
  | 0, _, _ => rfl
  | n + 1, k, h => by
    show pn (upd p c v) (upn (upd p c v) n k) = pn p (upn p n k)
    rw [upn_upd n k (fun m hm => h m (by omega))]
    have hn := h n (by omega)
    unfold pn upd
    by_cases q : upn p n k < 6
    · rw [if_pos q, if_pos q, if_neg hn]
    · rw [if_neg q, if_neg q]
/-- a chain that ends is no longer than there are KINDS -/
theorem upn_add {p : Nat → Int32} : ∀ (a b k : Nat), upn p (a + b) k = upn p a (upn p b k)
  | 0, b, k => by rw [Nat.zero_add]; rfl
  | a + 1, b, k => by
    rw [show a + 1 + b = (a + b) + 1 by omega]
    show pn p (upn p (a + b) k) = pn p (upn p a (upn p b k))
    rw [upn_add a b k]
theorem nodup_le : ∀ (n : Nat) (l : List Nat), l.Nodup → (∀ x ∈ l, x < n) → l.length ≤ n
  | 0, l, _, h => by
    cases l with
    | nil => exact Nat.le_refl _
    | cons a l => exact absurd (h a List.mem_cons_self) (by omega)
  | n + 1, l, hd, h => by
    by_cases q : n ∈ l
    · have h1 := nodup_le n (l.erase n) (hd.erase n) (fun x hx => by
        have h2 := (hd.mem_erase_iff).mp hx
        have := h x h2.2
        omega)
      rw [List.length_erase_of_mem q] at h1
      omega
    · have h1 := nodup_le n l hd (fun x hx => by
        have := h x hx
        have : x ≠ n := fun z => q (z ▸ hx)
        omega)
      omega
/-- a chain that ends at all ends within six steps -/
theorem upn_end {p : Nat → Int32} (hp : p_ok p) {k : Nat} (hk : k < 6) (h : ∃ n, upn p n k = 6) : upn p 6 k = 6 := by
  by_cases q : upn p 6 k = 6
  · exact q
  · exfalso
    have hlt : ∀ i, i ≤ 6 → upn p i k < 6 := by
      intro i hi
      have h1 := upn_le hp (k := k) (by omega) i
      rcases Nat.lt_or_ge (upn p i k) 6 with z | z
      · exact z
      · refine absurd ?_ q
        have := upn_6 (p := p) (k := k) (6 - i) i (by omega)
        rw [show i + (6 - i) = 6 by omega] at this
        exact this
    have hinj : ∀ i j, i < j → j ≤ 6 → upn p i k ≠ upn p j k := by
      intro i j hij hj e
      have hper : ∀ t, upn p (i + t * (j - i)) k = upn p i k := by
        intro t
        induction t with
        | zero => rw [Nat.zero_mul, Nat.add_zero]
        | succ t ih =>
          rw [show i + (t + 1) * (j - i) = (j - i) + (i + t * (j - i)) by rw [Nat.succ_mul]; omega, upn_add, ih, ← upn_add, show j - i + i = j by omega]
          exact e.symm
      obtain ⟨n, hn⟩ := h
      have h1 := hper n
      have h2 := upn_6 (p := p) (k := k) (i + n * (j - i) - n) n hn
      have hge : n ≤ i + n * (j - i) := by
        have : n * 1 ≤ n * (j - i) := Nat.mul_le_mul_left n (by omega)
        omega
      rw [show n + (i + n * (j - i) - n) = i + n * (j - i) by omega, h1] at h2
      have := hlt i (by omega)
      omega
    have hnd : ((List.range 7).map (fun i => upn p i k)).Nodup := by
      rw [List.nodup_iff_pairwise_ne, List.pairwise_map]
      refine List.Pairwise.imp_of_mem ?_ List.pairwise_lt_range
      intro a b ha hb hab
      exact hinj a b hab (by have := List.mem_range.mp hb; omega)
    have := nodup_le 6 _ hnd (fun x hx => by
      obtain ⟨i, hi, rfl⟩ := List.mem_map.mp hx
      exact hlt i (by have := List.mem_range.mp hi; omega))
    rw [List.length_map, List.length_range] at this
    omega
