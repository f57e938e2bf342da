/-! ===== the first program: a told text, and lowering ===== -/
theorem TA_out : ∀ n, n < 12 → ∀ o, o < 9 → TA n + o ∉ [0, 1, 2, 3, 13, 14, 15, 16, 17, 18, 19, 20, 30, 31, 32, 33, 34, 35, 36, 46] ∧ TA n + o < 128 := by decide +kernel
theorem TA_ne (n o : Nat) (ho : o < 9) {c : Nat} (hc : c ∈ [0, 1, 2, 3, 13, 14, 15, 16, 17, 18, 19, 20, 30, 31, 32, 33, 34, 35, 36, 46]) : TA n + o ≠ c := by
  intro q
  have := TA_cases (P := fun t => t + o ∉ [0, 1, 2, 3, 13, 14, 15, 16, 17, 18, 19, 20, 30, 31, 32, 33, 34, 35, 36, 46]) (fun n h => (TA_out n h o ho).1) n
  rw [q] at this
  exact this hc
theorem TA_lt (n o : Nat) (ho : o < 9) : TA n + o < 128 := TA_cases (P := fun t => t + o < 128) (fun n h => (TA_out n h o ho).2) n
/-- the cells that are no Told's -/
def nT : List Nat := [0, 1, 2, 3, 13, 14, 15, 16, 17, 18, 19, 20, 30, 31, 32, 33, 34, 35, 36, 46]
def itn (ch mt : Nat → Nat) : Nat → Nat → Nat
  | 0, p => p
  | k + 1, p => itn ch mt k (nxt ch mt p)
theorem itn_s (ch mt : Nat → Nat) : ∀ (k p : Nat), itn ch mt (k + 1) p = nxt ch mt (itn ch mt k p)
  | 0, _ => rfl
  | k + 1, p => itn_s ch mt k (nxt ch mt p)
def sbn (ch mt : Nat → Nat) (i q : Nat) : Prop := (ch i = 63 ∧ (q = i + 1 ∨ q = mt (i + 1) + 1)) ∨ (ch i = 42 ∧ q = i + 1) ∨ (ch i = 84 ∧ (q = i + 1 ∨ (ch (skp ch mt 6 (mt (i + 1) + 1)) = 90 ∧ q = skp ch mt 6 (mt (i + 1) + 1) + 1)))
def sbt (ch mt : Nat → Nat) (i p : Nat) : Prop := ch i = 84 ∧ ∃ r, r < 6 ∧ ltr (ch (skp ch mt r (mt (i + 1) + 1))) ∧ p = skp ch mt r (mt (i + 1) + 1)
theorem sbn_sbr {ch mt : Nat → Nat} {i q : Nat} (h : sbn ch mt i q) : sbr ch mt i q := by
  rcases h with h | h | ⟨h1, h2 | h2⟩
  · exact Or.inl h
  · exact Or.inr (Or.inl h)
  · exact Or.inr (Or.inr ⟨h1, Or.inl h2⟩)
  · exact Or.inr (Or.inr ⟨h1, Or.inr (Or.inr h2)⟩)
theorem sbt_sbr {ch mt : Nat → Nat} {i p : Nat} (h : sbt ch mt i p) : sbr ch mt i (p + 1) := by
  obtain ⟨h1, r, h2, h3, h4⟩ := h
  exact Or.inr (Or.inr ⟨h1, Or.inr (Or.inl ⟨r, h2, h3, by rw [h4]⟩)⟩)
/-- what a text's blocks are -/
def TK (n B : Nat) (ch mt bn fs kp : Nat → Nat) (ag : Nat → Prop) : Prop :=
  (WF ch mt n ∧ ∀ i, ch i < 256) ∧ (0 < B ∧ B ≤ 31 ∧ fs 0 = 0 ∧ kp 0 = 6) ∧ (∀ b, b < B → spt ch (fs b)) ∧ (∀ b b', b < b' → b' < B → fs b < fs b') ∧ (∀ q, ch q = 123 → bn q < B ∧ fs (bn q) = q + 1) ∧ (∀ b, b < B → kp b ≤ 6 ∧ (ag b → kp b < 6)) ∧
  (∀ b k, b < B → (∀ j, j ≤ k → itn ch mt j (fs b) < enp n mt (fs b)) → (ch (itn ch mt k (fs b)) = 94 → ag b) ∧ (∀ q, sbn ch mt (itn ch mt k (fs b)) q → (ag (bn q) → ag b) ∧ kp (bn q) = kp b) ∧ (∀ p, sbt ch mt (itn ch mt k (fs b)) p → kp (bn (p + 1)) = ch p - 65))
/-- the Told of a number holds it -/
def TD (m n B : Nat) (ch mt bn fs kp : Nat → Nat) (ag : Nat → Prop) (S : St) : Prop :=
  S.1 (TA m) 1 = nI n ∧ (∀ i, i < n → S.1 (TA m + 1) i = nI (ch i)) ∧ S.1 (TA m) 8 = nI B ∧ (∀ b, b < B → S.1 (TA m + 3) b = nI (fs b)) ∧ (∀ b, b < B → S.1 (TA m + 4) b = nI (enp n mt (fs b))) ∧ (∀ q, ch q = 123 → S.1 (TA m + 2) q = nI (bn q)) ∧ (∀ b, b < B → S.1 (TA m + 5) b = eP (kp b)) ∧ (∀ b, b < B → S.1 (TA m + 6) b = bP (ag b))
theorem TD.mv {m n B : Nat} {ch mt bn fs kp : Nat → Nat} {ag : Nat → Prop} {S T : St} (h : TD m n B ch mt bn fs kp ag S) {A : List Nat} (f : Fr A S T) (hA : ∀ c, c ∈ A → c ∈ nT) : TD m n B ch mt bn fs kp ag T := by
  have g : ∀ o, o < 9 → T.1 (TA m + o) = S.1 (TA m + o) := fun o ho => f.2 _ (fun q => TA_ne m o ho (hA _ q) rfl)
  unfold TD
  rw [show T.1 (TA m) = S.1 (TA m) from g 0 (by omega), g 1 (by omega), g 2 (by omega), g 3 (by omega), g 4 (by omega), g 5 (by omega), g 6 (by omega)]
  exact h
section C1
variable {N m n B : Nat} {ch mt bn fs kp : Nat → Nat} {ag : Nat → Prop} {S : St}
/-- the sign at a place, as this program has it -/
def cA (n : Nat) (ch : Nat → Nat) (i : Nat) : Int32 := if i < n then nI (ch i) else -1
theorem cA_is {i k : Nat} (hW : WF ch mt n) (hc : ∀ i, ch i < 256) (hk : 0 < k) (hk2 : k < 256) : (cA n ch i = nI k) ↔ ch i = k := by
  unfold cA
  by_cases q : i < n
  · rw [if_pos q]; exact nI_eq (by have := hc i; omega) (by omega)
  · rw [if_neg q, hW.2.1 i (by omega)]
    constructor
    · intro h; exact absurd h.symm (by rw [nI_m1 (by omega)]; exact id)
    · intro h; omega
theorem s_at (hW : WF ch mt n) (h : TD m n B ch mt bn fs kp ag S) {i : Nat} (hi : i < 1000) : fX5_at N m (nI i) S = some (cA n ch i, S) := by
  have h60 := hW.1
  unfold fX5_at fX5_at_31 cA
  rw [if_neg (nI_pos (by omega)), h.1]
  by_cases q : i < n
  · rw [if_neg (nI_ge q (by omega)), if_neg (show ¬ (60 : Int32) ≤ nI i from nI_ge (b := 60) (by omega) (by omega)), if_neg (nI_in (by omega) (by omega)), nI_cl (by omega), h.2.1 i q, if_pos q]
  · rw [if_pos (nI_le (by omega) (by omega)), if_neg q]
theorem s_isBlock (hB : B ≤ 31) (h : TD m n B ch mt bn fs kp ag S) {b : Nat} (hb : b < B) : fX5_isBlock N m (nI b) S = some (1, S) := by
  unfold fX5_isBlock fX5_isBlock_23
  rw [if_neg (nI_pos (by omega)), h.2.2.1, if_neg (nI_ge hb (by omega)), if_neg (show ¬ (31 : Int32) ≤ nI b from nI_ge (b := 31) (by omega) (by omega)), if_pos (Or.inr rfl)]
theorem s_firstOf (hB : B ≤ 31) (h : TD m n B ch mt bn fs kp ag S) {b : Nat} (hb : b < B) : fX5_firstOf N m (nI b) S = some (nI (fs b), S) := by
  unfold fX5_firstOf fX5_firstOf_21
  rw [s_isBlock hB h hb]
  simp only [Option.bind_some, if_neg z10]
  rw [if_neg (nI_in (by omega) (by omega)), nI_cl (by omega), h.2.2.2.1 b hb]
theorem s_closeOf (hB : B ≤ 31) (h : TD m n B ch mt bn fs kp ag S) {b : Nat} (hb : b < B) : fX5_closeOf N m (nI b) S = some (nI (enp n mt (fs b)), S) := by
  unfold fX5_closeOf fX5_closeOf_21
  rw [s_isBlock hB h hb]
  simp only [Option.bind_some, if_neg z10]
  rw [if_neg (nI_in (by omega) (by omega)), nI_cl (by omega), h.2.2.2.2.1 b hb]
theorem s_keeperOf (hB : B ≤ 31) (h : TD m n B ch mt bn fs kp ag S) {b : Nat} (hb : b < B) : fX5_keeperOf N m (nI b) S = some (eP (kp b), S) := by
  unfold fX5_keeperOf fX5_keeperOf_18
  rw [s_isBlock hB h hb]
  simp only [Option.bind_some, if_neg z10]
  rw [if_neg (nI_in (by omega) (by omega)), nI_cl (by omega), h.2.2.2.2.2.2.1 b hb]
theorem s_again (hB : B ≤ 31) (h : TD m n B ch mt bn fs kp ag S) {b : Nat} (hb : b < B) : fX5_raisesAgain N m (nI b) S = some (bP (ag b), S) := by
  unfold fX5_raisesAgain fX5_raisesAgain_27
  rw [if_neg (nI_pos (by omega)), if_neg (show ¬ (31 : Int32) ≤ nI b from nI_ge (b := 31) (by omega) (by omega)), if_neg (nI_in (by omega) (by omega)), nI_cl (by omega), h.2.2.2.2.2.2.2 b hb]
  by_cases q : ag b
  · rw [if_neg (fun z => bP_eq0.mp z q), bP_1 q]; rfl
  · rw [if_pos (bP_0 q), bP_0 q]; rfl
theorem s_blockAt (hW : WF ch mt n) (hc : ∀ i, ch i < 256) (h : TD m n B ch mt bn fs kp ag S) {q : Nat} (hq : ch q = 123) : fX5_blockAt N m (nI q) S = some (nI (bn q), S) := by
  have hb := hW.br hq
  have h60 := hW.1
  unfold fX5_blockAt fX5_blockAt_20
  rw [s_at hW h (by omega)]
  simp only [Option.bind_some]
  rw [if_pos (show cA n ch q = 123 from (cA_is hW hc (k := 123) (by omega) (by omega)).mpr hq), if_neg (nI_in (by omega) (by omega)), nI_cl (by omega), h.2.2.2.2.2.1 q hq]
theorem s_kindAt (hW : WF ch mt n) (hc : ∀ i, ch i < 256) (h : TD m n B ch mt bn fs kp ag S) {i : Nat} (hi : i < 1000) : fX5_kindAt N m (nI i) S = some (if ltr (ch i) then nI (ch i - 65) else -1, S) := by
  unfold fX5_kindAt fX5_kindAt_21
  rw [s_at hW h hi]
  simp only [Option.bind_some]
  by_cases q : ltr (ch i)
  · have hin : i < n := by
      rcases Nat.lt_or_ge i n with z | z
      · exact z
      · rw [hW.2.1 i z] at q; omega
    have e : cA n ch i - 65 = nI (ch i - 65) := by unfold cA; rw [if_pos hin]; exact nI_s65 q.1
    rw [e, s_isKind1 N S (show ch i - 65 < 6 by omega), if_pos q]
    rfl
  · have e : fX7_isKind N (cA n ch i - 65) S = some (0, S) := by
      refine s_isKind0 N S ?_
      unfold cA
      by_cases z : i < n
      · rw [if_pos z]
        have hci := hc i
        rcases Nat.lt_or_ge (ch i) 65 with w | w
        · left
          rw [Int32.lt_iff_toInt_lt, show (65 : Int32) = nI 65 from rfl, pk_sub_toInt (by omega) (by omega), show (0 : Int32).toInt = 0 from rfl]
          omega
        · right
          rw [nI_s65 w]
          exact nI_le (by omega) (by omega)
      · rw [if_neg z]; left; decide
    rw [e, if_neg q]
    rfl
/-! lowering -/
def eCn (c : Nat) : Nat := if c < 1000 then c else 1000000
theorem eC_n (c : Nat) : eC c = nI (eCn c) := by unfold eC eCn; split <;> rfl
theorem eCn_b (c : Nat) : (c < 1000 ∧ eCn c = c) ∨ (1000 ≤ c ∧ eCn c = 1000000) := by unfold eCn; split <;> omega
def cap (v : Nat) : Nat := if v < 1000000 then min v 999 else 1000
theorem cap_le (v : Nat) : cap v ≤ 1000 := by unfold cap; split <;> omega
theorem cap_2 {a b : Nat} (ha : a ≤ 1000) (hb : b ≤ 1000) : cap (eCn a + eCn b) = sat a b := by
  have h1 := eCn_b a
  have h2 := eCn_b b
  by_cases q : 1000 ≤ a ∨ 1000 ≤ b
  · rw [sat_t q]; unfold cap; rw [if_neg (by omega)]
  · rw [sat_v (by omega) (by omega)]; unfold cap; rw [if_pos (by omega)]; omega
theorem cap_1 {a : Nat} (ha : a ≤ 1000) : cap (eCn a) = a := by
  have h1 := eCn_b a
  unfold cap
  split <;> omega
theorem cap_i {a : Nat} (ha : a ≤ 1000) : cap (eCn a + 1) = sat a 1 := by
  have h := cap_2 ha (show (1 : Nat) ≤ 1000 by omega)
  exact h
theorem cap_3 {a b : Nat} (ha : a ≤ 1000) (hb : b ≤ 1000) : cap (eCn a + 1 + eCn b) = sat a (sat 1 b) := by
  have h1 := eCn_b a
  have h2 := eCn_b b
  by_cases q : 1000 ≤ a ∨ 1000 ≤ b
  · rw [← sat_assoc]
    have : 1000 ≤ sat a 1 ∨ 1000 ≤ b := by
      rcases q with q | q
      · left; rw [sat_t (Or.inl q)]; omega
      · exact Or.inr q
    rw [sat_t this]; unfold cap; rw [if_neg (by omega)]
  · rw [sat_v (a := 1) (b := b) (by omega) (by omega), sat_v (by omega) (by omega)]; unfold cap; rw [if_pos (by omega)]; omega
/-- one place of a row is lowered -/
def Lw (a i k : Nat) (S S' : St) : Prop := Fr [a] S S' ∧ S'.1 a i = eC k ∧ ∀ j, j ≠ i → S'.1 a j = S.1 a j
theorem s_lower {a i v old : Nat} (hi : i < alen a) (ha : alen a < 2147483648) (hv : v < 2147483648) (ho : old ≤ 1000) (h : S.1 a i = eC old) : WP (fX7_lower N a (nI i) (nI v) S) (Lw a i (min old (cap v)) S) := by
  have h1 := eCn_b old
  unfold fX7_lower fX7_lower_31
  refine WP.no (nI_pos (by omega)) (WP.no (nI_ge hi ha) ?_)
  have key : ∀ k : Nat, k ≤ 999 → cap v = k → WP (if nI i < 0 ∨ alen a ≤ Int32.toNatClampNeg (nI i) then none else (if (S.1 a (Int32.toNatClampNeg (nI i))) ≤ nI k then some S else (if nI i < 0 ∨ alen a ≤ Int32.toNatClampNeg (nI i) then none else some (st_i S a (Int32.toNatClampNeg (nI i)) (nI k))))) (Lw a i (min old (cap v)) S) := by
    intro k hk hc
    refine WP.ix hi ha ?_
    rw [nI_cl (by omega), h, hc]
    by_cases q : old ≤ k
    · refine WP.yes ?_ (WP.ret ⟨Fr.refl _ _, by rw [h, Nat.min_eq_left q], fun _ _ => rfl⟩)
      rw [eC_n]; exact nI_le (by omega) (by omega)
    · refine WP.no ?_ (WP.no ?_ (WP.ret ⟨(Fr.refl _ _).i (List.mem_singleton.mpr rfl), ?_, fun j hj => si_ni _ _ hj⟩))
      · rw [eC_n]; exact nI_ge (by omega) (by omega)
      · rintro (z | z)
        · exact nI_pos (by omega) z
        · omega
      · rw [si_at, Nat.min_eq_right (by omega), eC_f (by omega)]
  by_cases q : v < 1000000
  · refine WP.yes (nI_lt (b := 1000000) q (by omega)) ?_
    by_cases q2 : v ≤ 999
    · refine WP.yes (nI_le (b := 999) q2 (by omega)) (key v q2 ?_)
      unfold cap; rw [if_pos q]; omega
    · refine WP.no (nI_ge (a := 999) (by omega) (by omega)) (key 999 (by omega) ?_)
      unfold cap; rw [if_pos q]; omega
  · refine WP.no (nI_nlt (b := 1000000) (by omega) (by omega)) (WP.ret ⟨Fr.refl _ _, ?_, fun _ _ => rfl⟩)
    have : cap v = 1000 := by unfold cap; rw [if_neg q]
    rw [h, this, Nat.min_eq_left ho]
/-- rows of this program -/
def Cr (a : Nat) (f : Nat → Nat) (S : St) : Prop := ∀ c, c < 32 → S.1 a c = eC (f c)
theorem s_fillC {a k : Nat} (ha : alen a = k) (hk : k < N) (h31 : k < 2147483648) : WP (fJ7_fill_53178 N a 1000000 S) (fun S' => Fr [a] S S' ∧ ∀ c, c < k → S'.1 a c = eC 1000) := by
  refine WP.eq (s_fill N a 1000000 S (by omega) (by omega)) ⟨⟨rfl, fun c hc => sc_ne _ _ (fun q => hc (List.mem_singleton.mpr q))⟩, fun c hc => ?_⟩
  rw [sc_same, if_pos (by omega)]; rfl
end C1
