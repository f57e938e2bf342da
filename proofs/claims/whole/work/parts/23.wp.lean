/-! ===== what a run gives: WP; loops; frames ===== -/
def WP {α : Type} (o : Option α) (Q : α → Prop) : Prop := ∃ y, o = some y ∧ Q y
theorem WP.ret {α : Type} {y : α} {Q : α → Prop} (h : Q y) : WP (some y) Q := ⟨y, rfl, h⟩
theorem WP.eq {α : Type} {o : Option α} {y : α} {Q : α → Prop} (e : o = some y) (h : Q y) : WP o Q := ⟨y, e, h⟩
theorem WP.imp {α : Type} {o : Option α} {P Q : α → Prop} (h : WP o P) (k : ∀ y, P y → Q y) : WP o Q := by
  obtain ⟨y, e, hy⟩ := h; exact ⟨y, e, k y hy⟩
theorem WP.bnd {α β : Type} {o : Option α} {f : α → Option β} {P : α → Prop} {Q : β → Prop} (h : WP o P) (k : ∀ y, P y → WP (f y) Q) : WP (o.bind f) Q := by
  obtain ⟨y, e, hy⟩ := h; rw [e]; exact k y hy
theorem WP.beq {α β : Type} {o : Option α} {f : α → Option β} {y : α} {Q : β → Prop} (e : o = some y) (k : WP (f y) Q) : WP (o.bind f) Q := by
  rw [e]; exact k
theorem WP.no {α : Type} {c : Prop} [Decidable c] {a b : Option α} {Q : α → Prop} (h : ¬ c) (k : WP b Q) : WP (if c then a else b) Q := by
  rw [if_neg h]; exact k
theorem WP.yes {α : Type} {c : Prop} [Decidable c] {a b : Option α} {Q : α → Prop} (h : c) (k : WP a Q) : WP (if c then a else b) Q := by
  rw [if_pos h]; exact k
theorem WP.ite {α : Type} {c : Prop} [Decidable c] {a b : Option α} {Q : α → Prop} (h1 : c → WP a Q) (h2 : ¬ c → WP b Q) : WP (if c then a else b) Q := by
  by_cases h : c
  · rw [if_pos h]; exact h1 h
  · rw [if_neg h]; exact h2 h
/-- a check of an index that is within -/
theorem WP.ix {α : Type} {k n : Nat} {b : Option α} {Q : α → Prop} (h : k < n) (hn : n < 2147483648) (kk : WP b Q) : WP (if nI k < 0 ∨ n ≤ Int32.toNatClampNeg (nI k) then none else b) Q := WP.no (nI_in h hn) kk
/-- a loop over 0 .. n-1 -/
theorem WP.fr1 {Y : Type} {b : Int32 × St → Option ((Int32 × St) ⊕ Y)} {Q : Y → Prop} (n N : Nat) (J : Nat → St → Prop) (hN : n < N)
    (hs : ∀ i S, i < n → J i S → WP (b (nI i, S)) (fun z => ∃ S', z = .inl (nI (i + 1), S') ∧ J (i + 1) S'))
    (he : ∀ S, J n S → WP (b (nI n, S)) (fun z => ∃ y, z = .inr y ∧ Q y)) {S : St} (k : Nat) (hk : k ≤ n) (h0 : J k S) : WP (whl N b (nI k, S)) Q := by
  have key : ∀ (m k N : Nat) (S : St), k + m = n → m < N → J k S → WP (whl N b (nI k, S)) Q := by
    intro m
    induction m with
    | zero =>
      intro k N S hk hN h0
      obtain ⟨N', rfl⟩ : ∃ N', N = N' + 1 := ⟨N - 1, by omega⟩
      obtain rfl : k = n := by omega
      obtain ⟨z, e, y, rfl, hq⟩ := he S h0
      exact WP.eq (whl_e e) hq
    | succ m ih =>
      intro k N S hk hN h0
      obtain ⟨N', rfl⟩ : ∃ N', N = N' + 1 := ⟨N - 1, by omega⟩
      obtain ⟨z, e, S', rfl, hq⟩ := hs k S (by omega) h0
      rw [whl_s e]
      exact ih (k + 1) N' S' (by omega) (by omega) hq
  exact key (n - k) k N S (by omega) (by omega) h0
/-- a loop over 0 .. n-1 that carries an answer -/
theorem WP.fr2 {Y : Type} {b : Int32 × Int32 × St → Option ((Int32 × Int32 × St) ⊕ Y)} {Q : Y → Prop} (n N : Nat) (J : Nat → Int32 → St → Prop) (hN : n < N)
    (hs : ∀ i a S, i < n → J i a S → WP (b (a, nI i, S)) (fun z => ∃ a' S', z = .inl (a', nI (i + 1), S') ∧ J (i + 1) a' S'))
    (he : ∀ a S, J n a S → WP (b (a, nI n, S)) (fun z => ∃ y, z = .inr y ∧ Q y)) {a : Int32} {S : St} (k : Nat) (hk : k ≤ n) (h0 : J k a S) : WP (whl N b (a, nI k, S)) Q := by
  have key : ∀ (m k N : Nat) (a : Int32) (S : St), k + m = n → m < N → J k a S → WP (whl N b (a, nI k, S)) Q := by
    intro m
    induction m with
    | zero =>
      intro k N a S hk hN h0
      obtain ⟨N', rfl⟩ : ∃ N', N = N' + 1 := ⟨N - 1, by omega⟩
      obtain rfl : k = n := by omega
      obtain ⟨z, e, y, rfl, hq⟩ := he a S h0
      exact WP.eq (whl_e e) hq
    | succ m ih =>
      intro k N a S hk hN h0
      obtain ⟨N', rfl⟩ : ∃ N', N = N' + 1 := ⟨N - 1, by omega⟩
      obtain ⟨z, e, a', S', rfl, hq⟩ := hs k a S (by omega) h0
      rw [whl_s e]
      exact ih (k + 1) N' a' S' (by omega) (by omega) hq
  exact key (n - k) k N a S (by omega) (by omega) h0
/-- any loop with an invariant and a measure -/
theorem WP.loop {X Y : Type} {b : X → Option (X ⊕ Y)} {Q : Y → Prop} (I : X → Prop) (μ : X → Nat) (hs : ∀ x, I x → WP (b x) (fun z => (∃ x', z = .inl x' ∧ I x' ∧ μ x' < μ x) ∨ (∃ y, z = .inr y ∧ Q y))) (N : Nat) (x : X) (h : I x) (hN : μ x < N) : WP (whl N b x) Q := by
  refine whl_mes I Q μ (fun x hx => ?_) N x h hN
  obtain ⟨z, e, ⟨x', rfl, h1, h2⟩ | ⟨y, rfl, h1⟩⟩ := hs x hx
  · exact Or.inl ⟨x', e, h1, h2⟩
  · exact Or.inr ⟨y, e, h1⟩
/-- S' differs from S in the cells of A alone -/
def Fr (A : List Nat) (S S' : St) : Prop := S'.2 = S.2 ∧ ∀ c, c ∉ A → S'.1 c = S.1 c
theorem Fr.refl (A : List Nat) (S : St) : Fr A S S := ⟨rfl, fun _ _ => rfl⟩
theorem Fr.trans {A : List Nat} {S T U : St} (h : Fr A S T) (k : Fr A T U) : Fr A S U := ⟨k.1.trans h.1, fun c hc => (k.2 c hc).trans (h.2 c hc)⟩
theorem Fr.mono {A B : List Nat} {S T : St} (h : Fr A S T) (hs : ∀ c, c ∈ A → c ∈ B) : Fr B S T := ⟨h.1, fun c hc => h.2 c (fun q => hc (hs c q))⟩
theorem Fr.i {A : List Nat} {S T : St} (h : Fr A S T) {a i : Nat} {v : Int32} (ha : a ∈ A) : Fr A S (st_i T a i v) := by
  refine ⟨h.1, fun c hc => ?_⟩
  have hca : c ≠ a := fun q => hc (by rw [q]; exact ha)
  rw [si_c, sc_ne _ _ hca]; exact h.2 c hc
theorem si_at (S : St) (a i : Nat) (v : Int32) : (st_i S a i v).1 a i = v := by rw [si_c, sc_same, up_at]
theorem si_nx (S : St) {a b i : Nat} (v : Int32) (h : b ≠ a) : (st_i S a i v).1 b = S.1 b := by rw [si_c, sc_ne _ _ h]
theorem si_ni (S : St) {a i j : Nat} (v : Int32) (h : j ≠ i) : (st_i S a i v).1 a j = S.1 a j := by rw [si_c, sc_same]; unfold upd; rw [if_neg h]
theorem si_if (S : St) (a i j : Nat) (v : Int32) : (st_i S a i v).1 a j = if j = i then v else S.1 a j := by rw [si_c, sc_same]; rfl
