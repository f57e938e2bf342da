/-! ===== the second program's small functions ===== -/
def eR (c : Nat) : Int32 := if c < 1000 then nI c else nI 100000
def eC (c : Nat) : Int32 := if c < 1000 then nI c else nI 1000000
noncomputable def bP (P : Prop) : Int32 := @ite Int32 P (Classical.propDecidable P) 1 0
theorem bP_1 {P : Prop} (h : P) : bP P = 1 := by unfold bP; rw [if_pos h]
theorem bP_0 {P : Prop} (h : ¬ P) : bP P = 0 := by unfold bP; rw [if_neg h]
theorem bP_eq0 {P : Prop} : bP P = 0 ↔ ¬ P := by
  constructor
  · intro h q; rw [bP_1 q] at h; exact absurd h (by decide)
  · exact bP_0
theorem bP_01 (P : Prop) : bP P = 0 ∨ bP P = 1 := by
  by_cases h : P
  · exact Or.inr (bP_1 h)
  · exact Or.inl (bP_0 h)
theorem bP_congr {P Q : Prop} (h : P ↔ Q) : bP P = bP Q := by rw [propext h]
theorem bP_and1 (P : Prop) : bP P &&& 1 = bP P := by
  rcases bP_01 P with h | h <;> rw [h] <;> decide
theorem nI_mul (a b : Nat) : nI a * nI b = nI (a * b) := (Int32.ofNat_mul a b).symm
theorem nI_x4 (a : Nat) : nI a * 4 = nI (a * 4) := nI_mul a 4
theorem nI_x7 (a : Nat) : nI a * 7 = nI (a * 7) := nI_mul a 7
theorem nI_x8 (a : Nat) : nI a * 8 = nI (a * 8) := nI_mul a 8
theorem nI_x896 (a : Nat) : nI a * 896 = nI (a * 896) := nI_mul a 896
theorem nI_x61 (a : Nat) : 61 * nI a = nI (61 * a) := nI_mul 61 a
theorem nI_x60 (a : Nat) : 60 * nI a = nI (60 * a) := nI_mul 60 a
theorem nI_2 (a : Nat) : nI a + 2 = nI (a + 2) := nI_add a 2
theorem nI_s65 {a : Nat} (h : 65 ≤ a) : nI a - 65 = nI (a - 65) := pk_sub h
theorem eR_f {c : Nat} (h : c < 1000) : eR c = nI c := by unfold eR; rw [if_pos h]
theorem eR_t {c : Nat} (h : 1000 ≤ c) : eR c = nI 100000 := by unfold eR; rw [if_neg (by omega)]
theorem eC_f {c : Nat} (h : c < 1000) : eC c = nI c := by unfold eC; rw [if_pos h]
theorem eC_t {c : Nat} (h : 1000 ≤ c) : eC c = nI 1000000 := by unfold eC; rw [if_neg (by omega)]
def eRn (c : Nat) : Nat := if c < 1000 then c else 100000
theorem eR_n (c : Nat) : eR c = nI (eRn c) := by unfold eR eRn; split <;> rfl
theorem eRn_b (c : Nat) : (c < 1000 ∧ eRn c = c) ∨ (1000 ≤ c ∧ eRn c = 100000) := by unfold eRn; split <;> omega
theorem eR_lt (c : Nat) : (eR c < 100000) ↔ (c < 1000) := by
  have h := eRn_b c
  rw [eR_n, show (100000 : Int32) = nI 100000 from rfl, nI_ltI (by omega) (by omega)]
  omega
theorem eR_ge (c : Nat) : (100000 ≤ eR c) ↔ (1000 ≤ c) := by
  have h := eRn_b c
  rw [eR_n, show (100000 : Int32) = nI 100000 from rfl, nI_leI (by omega) (by omega)]
  omega
theorem s_less (N : Nat) (S : St) {a b : Nat} (ha : a ≤ 1000) (hb : b ≤ 1000) : fX8_less N (eR a) (eR b) S = some (eR (min a b), S) := by
  have h1 := eRn_b a
  have h2 := eRn_b b
  have hi : eR b ≤ eR a ↔ eRn b ≤ eRn a := by rw [eR_n a, eR_n b]; exact nI_leI (by omega) (by omega)
  unfold fX8_less fX8_less_10
  by_cases h : eRn b ≤ eRn a
  · rw [if_pos (hi.mpr h), show min a b = b by omega]
  · rw [if_neg (fun q => h (hi.mp q)), show min a b = a by omega]
theorem s_sum (N : Nat) (S : St) {a b : Nat} (ha : a ≤ 1000) (hb : b ≤ 1000) : fX8_sum N (eR a) (eR b) S = some (eR (sat a b), S) := by
  unfold fX8_sum fX8_sum_12 fX8_sum_26
  by_cases h1 : 1000 ≤ a
  · rw [if_pos ((eR_ge a).mpr h1), sat_t (Or.inl h1)]; rfl
  · rw [if_neg (fun q => h1 ((eR_ge a).mp q))]
    by_cases h2 : b < 1000
    · rw [if_pos ((eR_lt b).mpr h2), eR_f (by omega), eR_f h2, nI_add, sat_v (by omega) h2]
      unfold fX8_less fX8_less_10
      have hi : (999 : Int32) ≤ nI (a + b) ↔ 999 ≤ a + b := nI_leI (a := 999) (by omega) (by omega)
      by_cases h3 : 999 ≤ a + b
      · rw [if_pos (hi.mpr h3), show min 999 (a + b) = 999 by omega]; rfl
      · rw [if_neg (fun q => h3 (hi.mp q)), show min 999 (a + b) = a + b by omega, eR_f (by omega)]; rfl
    · rw [if_neg (fun q => h2 ((eR_lt b).mp q)), sat_t (Or.inr (by omega))]; rfl
/-- the second program's places of a row, in the first's order -/
def co (x : Nat) : Nat := if x < 4 then x else if x < 8 then x + 24 else x - 4
def oc (c : Nat) : Nat := if c < 4 then c else if c < 28 then c + 4 else c - 24
theorem co_lt {x : Nat} (h : x < 32) : co x < 32 := by unfold co; split; omega; split <;> omega
theorem oc_lt {x : Nat} (h : x < 32) : oc x < 32 := by unfold oc; split; omega; split <;> omega
theorem co_oc {c : Nat} (h : c < 32) : co (oc c) = c := by
  unfold co oc
  split
  · first | rfl | rw [if_pos (by omega)]
  · split
    · rw [if_neg (by omega), if_neg (by omega)]; omega
    · rw [if_neg (by omega), if_pos (by omega)]; omega
theorem oc_co {c : Nat} (h : c < 32) : oc (co c) = c := by
  unfold co oc
  split
  · first | rfl | rw [if_pos (by omega)]
  · split
    · rw [if_neg (by omega), if_neg (by omega)]; omega
    · rw [if_neg (by omega), if_pos (by omega)]; omega
/-- a row of the second program that stands for f -/
def Rr (a : Nat) (f : Nat → Nat) (S : St) : Prop := ∀ x, x < 32 → S.1 a x = eR (f (co x))
theorem s_clears (N : Nat) (hN : 60 < N) {a : Nat} (ha : alen a = 32) (S : St) : WP (fX8_clears N a S) (fun S' => Fr [a] S S' ∧ Rr a (fun _ => 1000) S') := by
  unfold fX8_clears
  refine WP.bnd (P := fun S' => Fr [a] S S' ∧ Rr a (fun _ => 1000) S') ?_ (fun y hy => WP.ret hy)
  unfold fX8_clears_2
  refine WP.fr1 32 N (fun i S' => Fr [a] S S' ∧ ∀ x, x < i → S'.1 a x = eR 1000) (by omega) ?_ ?_ 0 (by omega) ⟨Fr.refl _ _, fun x hx => absurd hx (by omega)⟩
  · rintro i T hi ⟨h1, h2⟩
    unfold bfX8_clears_2
    refine WP.no (nI_ge (a := i) (b := 32) hi (by omega)) ?_
    rw [ha]
    refine WP.ix hi (by omega) (WP.ret ⟨_, by rw [nI_1, nI_cl (by omega)], h1.i (List.mem_singleton.mpr rfl), fun x hx => ?_⟩)
    rw [si_if]
    by_cases q : x = i
    · rw [if_pos q]; rfl
    · rw [if_neg q]; exact h2 x (by omega)
  · rintro T ⟨h1, h2⟩
    unfold bfX8_clears_2
    exact WP.yes (show (32 : Int32) ≤ nI 32 by decide) (WP.ret ⟨_, rfl, h1, h2⟩)
/-- what the rows of this program change: cells of A; of 128 the places of J alone -/
def FrJ (J A : List Nat) (S S' : St) : Prop := S'.2 = S.2 ∧ (∀ c, c ∉ A → c ≠ 128 → S'.1 c = S.1 c) ∧ ∀ j, j ∉ J → S'.1 128 j = S.1 128 j
theorem FrJ.refl (J A : List Nat) (S : St) : FrJ J A S S := ⟨rfl, fun _ _ _ => rfl, fun _ _ => rfl⟩
theorem FrJ.trans {J A : List Nat} {S T U : St} (h : FrJ J A S T) (k : FrJ J A T U) : FrJ J A S U := ⟨k.1.trans h.1, fun c hc h8 => (k.2.1 c hc h8).trans (h.2.1 c hc h8), fun j h1 => (k.2.2 j h1).trans (h.2.2 j h1)⟩
theorem FrJ.mono {J A B : List Nat} {S T : St} (h : FrJ J A S T) (hs : ∀ c, c ∈ A → c ∈ B) : FrJ J B S T := ⟨h.1, fun c hc h8 => h.2.1 c (fun q => hc (hs c q)) h8, h.2.2⟩
theorem FrJ.wid {J K A : List Nat} {S T : St} (h : FrJ J A S T) (hs : ∀ c, c ∈ J → c ∈ K) : FrJ K A S T := ⟨h.1, h.2.1, fun j hj => h.2.2 j (fun q => hj (hs j q))⟩
theorem FrJ.i {J A : List Nat} {S T : St} (h : FrJ J A S T) {a i : Nat} {v : Int32} (ha : a ∈ A) (h8 : a ≠ 128) : FrJ J A S (st_i T a i v) := by
  refine ⟨h.1, fun c hc hc8 => ?_, fun j h1 => ?_⟩
  · have hca : c ≠ a := fun q => hc (by rw [q]; exact ha)
    rw [si_nx _ _ hca]; exact h.2.1 c hc hc8
  · rw [si_nx _ _ (Ne.symm h8)]; exact h.2.2 j h1
theorem FrJ.m {J A : List Nat} {S T : St} (h : FrJ J A S T) {v : Int32} {i : Nat} (hi : i ∈ J) : FrJ J A S (st_i T 128 i v) := by
  refine ⟨h.1, fun c hc hc8 => ?_, fun j h1 => ?_⟩
  · rw [si_nx _ _ hc8]; exact h.2.1 c hc hc8
  · have hji : j ≠ i := fun q => h1 (by rw [q]; exact hi)
    rw [si_ni _ _ hji]; exact h.2.2 j h1
abbrev FrR (A : List Nat) (S S' : St) : Prop := FrJ [23] A S S'
theorem FrR.refl (A : List Nat) (S : St) : FrR A S S := FrJ.refl _ _ _
theorem Fr.R {A J : List Nat} {S T : St} (h : Fr A S T) (h8 : 128 ∉ A) : FrJ J A S T := ⟨h.1, fun c hc _ => h.2 c hc, fun j _ => by rw [h.2 128 h8]⟩
theorem s_puts (N : Nat) (S : St) {o u v old : Nat} (ho : o < 8) (hu : u < 4) (hv : v ≤ 1000) (hd : old ≤ 1000) (h : S.1 142 (o * 4 + u) = eR old) : fX8_puts N (nI o) (nI u) (eR v) S = some (st_i S 142 (o * 4 + u) (eR (min old v))) := by
  unfold fX8_puts
  rw [nI_x4, nI_add]
  have hin : ¬ (nI (o * 4 + u) < 0 ∨ 32 ≤ Int32.toNatClampNeg (nI (o * 4 + u))) := nI_in (by omega) (by omega)
  simp only [if_neg hin]
  rw [nI_cl (by omega), h, s_less N S hd hv]
  rfl
theorem s_putsMid (N : Nat) (S : St) {o u v old : Nat} (ho : o < 8) (hu : u < 4) (hv : v ≤ 1000) (hd : old ≤ 1000) (h : S.1 143 (o * 4 + u) = eR old) : fX8_putsMid N (nI o) (nI u) (eR v) S = some (st_i S 143 (o * 4 + u) (eR (min old v))) := by
  unfold fX8_putsMid
  rw [nI_x4, nI_add]
  have hin : ¬ (nI (o * 4 + u) < 0 ∨ 32 ≤ Int32.toNatClampNeg (nI (o * 4 + u))) := nI_in (by omega) (by omega)
  simp only [if_neg hin]
  rw [nI_cl (by omega), h, s_less N S hd hv]
  rfl
theorem s_allOf (N : Nat) (S : St) {r sp tk s o u : Nat} (hr : r < 8) (hsp : sp ≤ 60) (hk : tk ≤ 6) (hs : s < 4) (ho : o < 8) (hu : u < 4) : fX8_allOf N (nI r) (nI sp) (nI tk) (nI s) (nI o) (nI u) S = some (S.1 139 ((61 * r + sp) * 896 + (tk * 4 + s) * 32 + (o * 4 + u)), S) := by
  unfold fX8_allOf fX8_cell
  simp only [Option.bind_some, nI_x4, nI_x8, nI_x61, nI_x896, nI_add]
  rw [if_neg (nI_in (by omega) (by omega)), nI_cl (by omega), show (61 * r + sp) * 896 + (((tk * 4 + s) * 8 + o) * 4 + u) = (61 * r + sp) * 896 + (tk * 4 + s) * 32 + (o * 4 + u) by omega]
theorem s_metOf (N : Nat) (S : St) {sp tk s : Nat} {P : Prop} (hsp : sp ≤ 60) (hk : tk ≤ 6) (hs : s < 4) (h : S.1 140 ((sp * 7 + tk) * 4 + s) = bP P) : fX8_metOf N (nI sp) (nI tk) (nI s) S = some (bP P, S) := by
  unfold fX8_metOf
  simp only [nI_x4, nI_x7, nI_add]
  rw [if_neg (nI_in (by omega) (by omega)), nI_cl (by omega), h, if_pos (bP_01 P)]
theorem s_letter (N : Nat) (S : St) {c : Nat} (hc : c < 256) : fX8_isLetter N (nI c) S = some (if ltr c then 1 else 0, S) := by
  unfold fX8_isLetter fX8_isLetter_17
  have i1 : nI c < 65 ↔ c < 65 := nI_ltI (b := 65) (by omega) (by omega)
  have i2 : 70 < nI c ↔ 70 < c := nI_ltI (a := 70) (by omega) (by omega)
  by_cases h1 : c < 65
  · rw [if_pos (i1.mpr h1), if_neg (show ¬ ltr c by omega)]; rfl
  · rw [if_neg (fun q => h1 (i1.mp q))]
    by_cases h2 : 70 < c
    · rw [if_pos (i2.mpr h2), if_neg (show ¬ ltr c by omega)]; rfl
    · rw [if_neg (fun q => h2 (i2.mp q)), if_pos (show ltr c by omega)]; rfl
/-- two loops, one within the other, over o and u -/
theorem dbl {N A B : Nat} {bo : Int32 × St → Option ((Int32 × St) ⊕ St)} {bi : Int32 → Int32 × St → Option ((Int32 × St) ⊕ St)} (J : Nat → St → Prop) (hA : A < N) (hB : B < N) (hA2 : A < 2147483648) (hB2 : B < 2147483648)
    (hbo : ∀ x : Int32 × St, bo x = if nI A ≤ x.1 then some (.inr x.2) else (whl N (bi x.1) (0, x.2)).bind (fun y => some (.inl ((x.1 + 1), y))))
    (hbe : ∀ o S, bi o (nI B, S) = some (.inr S))
    (hst : ∀ o u S, o < A → u < B → J (o * B + u) S → WP (bi (nI o) (nI u, S)) (fun z => ∃ S', z = .inl (nI (u + 1), S') ∧ J (o * B + u + 1) S'))
    (k : Nat) (hk : k ≤ A) {S : St} (h : J (k * B) S) : WP (whl N bo (nI k, S)) (fun S' => J (A * B) S') := by
  refine WP.fr1 A N (fun o S => J (o * B) S) hA (fun o T ho hT => ?_) (fun T hT => ?_) k hk h
  · rw [hbo]
    refine WP.no (nI_ge ho hA2) ?_
    refine WP.bnd (P := fun T' => J ((o + 1) * B) T') ?_ (fun y hy => WP.ret ⟨y, by show _ = Sum.inl (nI (o + 1), y); rw [← nI_1], hy⟩)
    refine WP.fr1 B N (fun u T' => J (o * B + u) T') hB (fun u T' hu hT' => hst o u T' ho hu hT') (fun T' hT' => ?_) 0 (Nat.zero_le _) (by rw [Nat.add_zero]; exact hT)
    rw [hbe]
    exact WP.ret ⟨_, rfl, by rw [Nat.succ_mul]; exact hT'⟩
  · rw [hbo]
    exact WP.yes (nI_le (Nat.le_refl _) hA2) (WP.ret ⟨_, rfl, hT⟩)
/-- a row, lowered up to a place -/
def Rp (a : Nat) (f g : Nat → Nat) (m : Nat) (S : St) : Prop := ∀ x, x < 32 → S.1 a x = eR (if x < m then min (f (co x)) (g (co x)) else f (co x))
theorem Rp_0 {a : Nat} {f g : Nat → Nat} {S : St} (h : Rr a f S) : Rp a f g 0 S := fun x hx => by rw [if_neg (by omega)]; exact h x hx
theorem Rp_32 {a : Nat} {f g : Nat → Nat} {S : St} (h : Rp a f g 32 S) : Rr a (fun c => min (f c) (g c)) S := fun x hx => by rw [h x hx, if_pos hx]
theorem Rp_s {a : Nat} {f g : Nat → Nat} {S : St} {m : Nat} (h : Rp a f g m S) : Rp a f g (m + 1) (st_i S a m (eR (min (f (co m)) (g (co m))))) := by
  intro x hx
  rw [si_if]
  by_cases q : x = m
  · rw [if_pos q, if_pos (by omega), q]
  · rw [if_neg q, h x hx]
    by_cases q2 : x < m
    · rw [if_pos q2, if_pos (by omega)]
    · rw [if_neg q2, if_neg (by omega)]
theorem Rp_m {a : Nat} {f g : Nat → Nat} {S : St} {m : Nat} (h : Rp a f g m S) (hm : m < 32) : S.1 a m = eR (f (co m)) := by
  rw [h m hm, if_neg (by omega)]
