/-! ===== costs: 0 .. 999, and 1000 for 'can't be' ===== -/
def sat (a b : Nat) : Nat := if 1000 ≤ a ∨ 1000 ≤ b then 1000 else if 999 ≤ a + b then 999 else a + b
theorem sat_le (a b : Nat) : sat a b ≤ 1000 := by unfold sat; split; omega; split <;> omega
theorem sat_comm (a b : Nat) : sat a b = sat b a := by unfold sat; split <;> split <;> (try split) <;> (try split) <;> omega
theorem sat_v {a b : Nat} (ha : a < 1000) (hb : b < 1000) : sat a b = min 999 (a + b) := by
  unfold sat; rw [if_neg (by omega)]; split <;> omega
theorem sat_t {a b : Nat} (h : 1000 ≤ a ∨ 1000 ≤ b) : sat a b = 1000 := by unfold sat; rw [if_pos h]
theorem sat_assoc (a b c : Nat) : sat (sat a b) c = sat a (sat b c) := by
  by_cases h1 : 1000 ≤ a
  · rw [sat_t (Or.inl h1), sat_t (Or.inl (Nat.le_refl 1000)), sat_t (Or.inl h1)]
  · by_cases h2 : 1000 ≤ b
    · rw [sat_t (a := a) (Or.inr h2), sat_t (Or.inl (Nat.le_refl 1000)), sat_t (a := b) (Or.inl h2), sat_t (Or.inr (Nat.le_refl 1000))]
    · by_cases h3 : 1000 ≤ c
      · rw [sat_t (Or.inr h3), sat_t (a := b) (Or.inr h3), sat_t (Or.inr (Nat.le_refl 1000))]
      · rw [sat_v (a := a) (b := b) (by omega) (by omega), sat_v (a := b) (b := c) (by omega) (by omega), sat_v (by omega) (by omega), sat_v (by omega) (by omega)]
        omega
theorem sat_mono {a b c d : Nat} (h : a ≤ c) (k : b ≤ d) : sat a b ≤ sat c d := by
  unfold sat; split <;> split <;> (try split) <;> (try split) <;> omega
theorem sat_min (a b c : Nat) : sat (min a b) c = min (sat a c) (sat b c) := by
  rcases Nat.le_total a b with h | h
  · rw [Nat.min_eq_left h, Nat.min_eq_left (sat_mono h (Nat.le_refl _))]
  · rw [Nat.min_eq_right h, Nat.min_eq_right (sat_mono h (Nat.le_refl _))]
theorem sat_top (c : Nat) : sat 1000 c = 1000 := by unfold sat; rw [if_pos (by omega)]
theorem sat_top' (c : Nat) : sat c 1000 = 1000 := by unfold sat; rw [if_pos (by omega)]
theorem sat_0 {c : Nat} (h : c ≤ 1000) : sat 0 c = c := by unfold sat; split; omega; split <;> omega
theorem sat_0' {c : Nat} (h : c ≤ 1000) : sat c 0 = c := by rw [sat_comm]; exact sat_0 h
theorem sat_lt {a b : Nat} : sat a b < 1000 ↔ a < 1000 ∧ b < 1000 := by
  unfold sat; split
  · omega
  · split <;> omega
def mn : Nat → (Nat → Nat) → Nat
  | 0, _ => 1000
  | n + 1, f => min (mn n f) (f n)
theorem mn_le : ∀ (n : Nat) (f : Nat → Nat), mn n f ≤ 1000
  | 0, _ => Nat.le_refl _
  | n + 1, f => Nat.le_trans (Nat.min_le_left _ _) (mn_le n f)
theorem mn_i : ∀ {n i : Nat} (f : Nat → Nat), i < n → mn n f ≤ f i
  | 0, _, _, h => absurd h (by omega)
  | n + 1, i, f, h => by
    rcases Nat.lt_or_ge i n with q | q
    · exact Nat.le_trans (Nat.min_le_left _ _) (mn_i f q)
    · rw [show i = n by omega]; exact Nat.min_le_right _ _
theorem le_mn : ∀ {n x : Nat} {f : Nat → Nat}, x ≤ 1000 → (∀ i, i < n → x ≤ f i) → x ≤ mn n f
  | 0, _, _, h, _ => h
  | n + 1, x, f, h, k => Nat.le_min.mpr ⟨le_mn h (fun i hi => k i (by omega)), k n (by omega)⟩
theorem mn_at : ∀ (n : Nat) (f : Nat → Nat), mn n f = 1000 ∨ ∃ i, i < n ∧ mn n f = f i
  | 0, _ => Or.inl rfl
  | n + 1, f => by
    show min (mn n f) (f n) = 1000 ∨ _
    rcases Nat.le_total (mn n f) (f n) with h | h
    · rcases mn_at n f with q | ⟨i, hi, e⟩
      · exact Or.inl (by rw [Nat.min_eq_left h]; exact q)
      · exact Or.inr ⟨i, by omega, by show min (mn n f) (f n) = _; rw [Nat.min_eq_left h]; exact e⟩
    · exact Or.inr ⟨n, by omega, by show min (mn n f) (f n) = _; rw [Nat.min_eq_right h]⟩
theorem mn_lt {n x : Nat} {f : Nat → Nat} (hx : x ≤ 1000) : mn n f < x ↔ ∃ i, i < n ∧ f i < x := by
  constructor
  · intro h
    rcases mn_at n f with q | ⟨i, hi, e⟩
    · omega
    · exact ⟨i, hi, by omega⟩
  · rintro ⟨i, hi, h⟩
    exact Nat.lt_of_le_of_lt (mn_i f hi) h
theorem mn_congr : ∀ {n : Nat} {f g : Nat → Nat}, (∀ i, i < n → f i = g i) → mn n f = mn n g
  | 0, _, _, _ => rfl
  | n + 1, f, g, h => by
    show min (mn n f) (f n) = min (mn n g) (g n)
    rw [mn_congr (fun i hi => h i (by omega)), h n (by omega)]
theorem mn_mono {n : Nat} {f g : Nat → Nat} (h : ∀ i, i < n → f i ≤ g i) : mn n f ≤ mn n g :=
  le_mn (mn_le n f) (fun i hi => Nat.le_trans (mn_i f hi) (h i hi))
theorem sat_mn : ∀ (n : Nat) (f : Nat → Nat) (c : Nat), sat (mn n f) c = mn n (fun i => sat (f i) c)
  | 0, _, c => sat_top c
  | n + 1, f, c => by
    show sat (min (mn n f) (f n)) c = min (mn n (fun i => sat (f i) c)) (sat (f n) c)
    rw [sat_min, sat_mn n f c]
theorem sat_mn' (n : Nat) (f : Nat → Nat) (c : Nat) : sat c (mn n f) = mn n (fun i => sat c (f i)) := by
  rw [sat_comm, sat_mn]; exact mn_congr (fun i _ => sat_comm _ _)
theorem mn_min (n : Nat) (f g : Nat → Nat) : mn n (fun i => min (f i) (g i)) = min (mn n f) (mn n g) := by
  apply Nat.le_antisymm
  · exact Nat.le_min.mpr ⟨mn_mono (fun i _ => Nat.min_le_left _ _), mn_mono (fun i _ => Nat.min_le_right _ _)⟩
  · exact le_mn (Nat.le_trans (Nat.min_le_left _ _) (mn_le n f)) (fun i hi => Nat.le_min.mpr ⟨Nat.le_trans (Nat.min_le_left _ _) (mn_i f hi), Nat.le_trans (Nat.min_le_right _ _) (mn_i g hi)⟩)
theorem mn_swap (n m : Nat) (f : Nat → Nat → Nat) : mn n (fun i => mn m (fun j => f i j)) = mn m (fun j => mn n (fun i => f i j)) := by
  apply Nat.le_antisymm
  · exact le_mn (mn_le _ _) (fun j hj => le_mn (mn_le _ _) (fun i hi => Nat.le_trans (mn_i _ hi) (mn_i (fun j => f i j) hj)))
  · exact le_mn (mn_le _ _) (fun i hi => le_mn (mn_le _ _) (fun j hj => Nat.le_trans (mn_i _ hj) (mn_i (fun i => f i j) hi)))
theorem mn_one {n k : Nat} (hk : k < n) (f : Nat → Nat) (h : f k ≤ 1000) : mn n (fun i => if i = k then f i else 1000) = f k := by
  apply Nat.le_antisymm
  · have := mn_i (fun i => if i = k then f i else 1000) hk
    simpa using this
  · refine le_mn h (fun i hi => ?_)
    by_cases q : i = k
    · rw [if_pos q, q]; exact Nat.le_refl _
    · rw [if_neg q]; exact h
theorem mn_top {n : Nat} {f : Nat → Nat} (h : ∀ i, i < n → 1000 ≤ f i) : mn n f = 1000 :=
  Nat.le_antisymm (mn_le n f) (le_mn (Nat.le_refl _) h)
/-- row times table -/
def vm (n : Nat) (h : Nat → Nat) (M : Nat → Nat → Nat) (c : Nat) : Nat := mn n (fun s => sat (h s) (M s c))
theorem vm_le (n : Nat) (h : Nat → Nat) (M : Nat → Nat → Nat) (c : Nat) : vm n h M c ≤ 1000 := mn_le _ _
theorem vm_assoc (n m : Nat) (h : Nat → Nat) (A B : Nat → Nat → Nat) (c : Nat) : vm m (vm n h A) B c = vm n h (fun s => vm m (A s) B) c := by
  unfold vm
  rw [mn_congr (g := fun i => mn n (fun s => sat (h s) (sat (A s i) (B i c)))) (fun i _ => by rw [sat_mn]; exact mn_congr (fun s _ => sat_assoc _ _ _))]
  rw [mn_swap]
  exact mn_congr (fun s _ => (sat_mn' _ _ _).symm)
theorem vm_congr {n : Nat} {h h' : Nat → Nat} {M M' : Nat → Nat → Nat} {c : Nat} (e : ∀ s, s < n → h s = h' s) (k : ∀ s, s < n → M s c = M' s c) : vm n h M c = vm n h' M' c :=
  mn_congr (fun s hs => by rw [e s hs, k s hs])
theorem vm_min (n : Nat) (h : Nat → Nat) (A B : Nat → Nat → Nat) (c : Nat) : vm n h (fun s c => min (A s c) (B s c)) c = min (vm n h A c) (vm n h B c) := by
  unfold vm
  rw [← mn_min]
  exact mn_congr (fun s _ => by rw [sat_comm, sat_min, sat_comm, sat_comm (B s c)])
theorem vm_top {n : Nat} {h : Nat → Nat} (M : Nat → Nat → Nat) (c : Nat) (e : ∀ s, s < n → h s = 1000) : vm n h M c = 1000 :=
  mn_top (fun s hs => by rw [e s hs, sat_top]; exact Nat.le_refl _)
theorem vm_one {n k : Nat} (hk : k < n) (h : Nat → Nat) (M : Nat → Nat → Nat) (c : Nat) (e : ∀ s, s < n → s ≠ k → M s c = 1000) : vm n h M c = sat (h k) (M k c) := by
  unfold vm
  rw [← mn_one hk (fun s => sat (h s) (M s c)) (sat_le _ _)]
  refine mn_congr (fun s hs => ?_)
  by_cases q : s = k
  · rw [if_pos q]
  · rw [if_neg q, e s hs q, sat_top']
/-- the start of a row -/
def un1 (s : Nat) (c : Nat) : Nat := if c = s then 0 else 1000
theorem vm_un1 {n s : Nat} (hs : s < n) (M : Nat → Nat → Nat) (c : Nat) (h : M s c ≤ 1000) : vm n (un1 s) M c = M s c := by
  unfold vm
  rw [← mn_one hs (fun i => M i c) h]
  refine mn_congr (fun i _ => ?_)
  unfold un1
  by_cases q : i = s
  · rw [if_pos q, if_pos q, q, sat_0 h]
  · rw [if_neg q, if_neg q, sat_top]
