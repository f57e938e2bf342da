/-! under -/
theorem upn_succ' {p : Nat → Int32} : ∀ (n k : Nat), upn p (n + 1) k = upn p n (pn p k)
  | 0, _ => rfl
  | n + 1, k => by
    show pn p (upn p (n + 1) k) = pn p (upn p n (pn p k))
    rw [upn_succ' n k]
theorem upn_upd {p : Nat → Int32} {c : Nat} {v : Int32} : ∀ (n k : Nat), (∀ m, m < n → upn p m k ≠ c) → upn (upd p c v) n k = upn p n k
  | 0, _, _ => rfl
  | n + 1, k, h => by
    show pn (upd p c v) (upn (upd p c v) n k) = pn p (upn p n k)
    rw [upn_upd n k (fun m hm => h m (by omega))]
    have hn := h n (by omega)
    unfold pn upd
    by_cases q : upn p n k < 6
    · rw [if_pos q, if_pos q, if_neg hn]
    · rw [if_neg q, if_neg q]
/-- a chain that ends is no longer than there are KINDS -/
theorem upn_add {p : Nat → Int32} : ∀ (a b k : Nat), upn p (a + b) k = upn p a (upn p b k)
  | 0, b, k => by rw [Nat.zero_add]; rfl
  | a + 1, b, k => by
    rw [show a + 1 + b = (a + b) + 1 by omega]
    show pn p (upn p (a + b) k) = pn p (upn p a (upn p b k))
    rw [upn_add a b k]
