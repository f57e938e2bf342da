/-! ===== the first program's reader: counts of braces and takers; the small parts ===== -/
def cb (ch : Nat → Nat) : Nat → Nat
  | 0 => 0
  | i + 1 => cb ch i + (if ch i = 123 then 1 else 0)
def cT (ch : Nat → Nat) : Nat → Nat
  | 0 => 0
  | i + 1 => cT ch i + (if ltr (ch i) ∧ 0 < i ∧ ch (i - 1) = 125 then 1 else 0)
theorem cb_y {ch : Nat → Nat} {i : Nat} (h : ch i = 123) : cb ch (i + 1) = cb ch i + 1 := by
  show cb ch i + (if ch i = 123 then 1 else 0) = _
  rw [if_pos h]
theorem cb_n {ch : Nat → Nat} {i : Nat} (h : ch i ≠ 123) : cb ch (i + 1) = cb ch i := by
  show cb ch i + (if ch i = 123 then 1 else 0) = _
  rw [if_neg h]; rfl
theorem cb_le (ch : Nat → Nat) (i : Nat) : ∀ d, cb ch i ≤ cb ch (i + d)
  | 0 => Nat.le_refl _
  | d + 1 => Nat.le_trans (cb_le ch i d) (Nat.le_add_right _ _)
theorem cb_mono {ch : Nat → Nat} {i j : Nat} (h : i ≤ j) : cb ch i ≤ cb ch j := by
  have := cb_le ch i (j - i)
  rwa [show i + (j - i) = j by omega] at this
theorem cT_y {ch : Nat → Nat} {i : Nat} (h : ltr (ch i) ∧ 0 < i ∧ ch (i - 1) = 125) : cT ch (i + 1) = cT ch i + 1 := by
  show cT ch i + (if ltr (ch i) ∧ 0 < i ∧ ch (i - 1) = 125 then 1 else 0) = _
  rw [if_pos h]
theorem cT_n {ch : Nat → Nat} {i : Nat} (h : ¬ (ltr (ch i) ∧ 0 < i ∧ ch (i - 1) = 125)) : cT ch (i + 1) = cT ch i := by
  show cT ch i + (if ltr (ch i) ∧ 0 < i ∧ ch (i - 1) = 125 then 1 else 0) = _
  rw [if_neg h]; rfl
theorem cT_le (ch : Nat → Nat) (i : Nat) : ∀ d, cT ch i ≤ cT ch (i + d)
  | 0 => Nat.le_refl _
  | d + 1 => Nat.le_trans (cT_le ch i d) (Nat.le_add_right _ _)
theorem cT_mono {ch : Nat → Nat} {i j : Nat} (h : i ≤ j) : cT ch i ≤ cT ch j := by
  have := cT_le ch i (j - i)
  rwa [show i + (j - i) = j by omega] at this
/-- a brace's block is its own -/
theorem cb_inj {ch : Nat → Nat} {p q : Nat} (hp : ch p = 123) (hq : ch q = 123) (h : cb ch (p + 1) = cb ch (q + 1)) : p = q := by
  rcases Nat.lt_trichotomy p q with w | w | w
  · have := cb_mono (ch := ch) (show p + 1 ≤ q by omega)
    have := cb_y hq
    omega
  · exact w
  · have := cb_mono (ch := ch) (show q + 1 ≤ p by omega)
    have := cb_y hp
    omega
/-- the told text that is being read -/
def Rt (m n : Nat) (ch : Nat → Nat) (S : St) : Prop := S.2 9 = m ∧ S.1 (TA m) 1 = nI n ∧ ∀ i, i < n → S.1 (TA m + 1) i = nI (ch i)
/-- the cells that the reader changes -/
def rdF (m : Nat) : List Nat := [3, TA m, TA m + 2, TA m + 3, TA m + 4, TA m + 5, TA m + 6, TA m + 8]
section R1
variable {N m n : Nat} {ch : Nat → Nat} {S : St}
theorem r_at (hn : n ≤ 60) (h : Rt m n ch S) {i : Nat} (hi : i < 1000) : fX5_at N m (nI i) S = some (cA n ch i, S) := by
  unfold fX5_at fX5_at_31 cA
  rw [if_neg (nI_pos (by omega)), h.2.1]
  by_cases q : i < n
  · rw [if_neg (nI_ge q (by omega)), if_neg (show ¬ (60 : Int32) ≤ nI i from nI_ge (b := 60) (by omega) (by omega)), if_neg (nI_in (by omega) (by omega)), nI_cl (by omega), h.2.2 i q, if_pos q]
  · rw [if_pos (nI_le (by omega) (by omega)), if_neg q]
theorem rA_is {i k : Nat} (hz : ∀ q, n ≤ q → ch q = 0) (hc : ∀ i, ch i < 256) (hk : 0 < k) (hk2 : k < 256) : (cA n ch i = nI k) ↔ ch i = k := by
  unfold cA
  by_cases q : i < n
  · rw [if_pos q]; exact nI_eq (by have := hc i; omega) (by omega)
  · rw [if_neg q, hz i (by omega)]
    constructor
    · intro h; exact absurd h.symm (by rw [nI_m1 (by omega)]; exact id)
    · intro h; omega
theorem r_refuse (f p : Nat) : WP (fX3_refuse N (nI f) (nI p) S) (fun z => z.1 = -1 ∧ Fr (rdF m) S z.2 ∧ z.2.1 3 1 = nI f ∧ z.2.1 3 2 = nI p) := by
  unfold fX3_refuse
  refine WP.ret ⟨rfl, ((Fr.refl _ S).i (by unfold rdF; simp)).i (by unfold rdF; simp), ?_, ?_⟩
  · show (st_i (st_i S 3 1 (nI f)) 3 2 (nI p)).1 3 1 = _
    rw [si_ni _ _ (by omega), si_at]
  · exact si_at _ _ _ _
/-- a block is opened -/
theorem r_open {B f : Nat} (k : Int32) (hB : S.1 (TA m) 8 = nI B) (hB2 : B < 31) (hf0 : 0 < f) (hf : f ≤ 60) :
    WP (fX5_openBlock N m (nI f) k S) (fun z => z.1 = nI B ∧ Fr (rdF m) S z.2 ∧ z.2.1 3 = S.1 3 ∧ z.2.1 (TA m + 8) = S.1 (TA m + 8) ∧ z.2.1 (TA m) = upd (S.1 (TA m)) 8 (nI (B + 1)) ∧ z.2.1 (TA m + 2) = upd (S.1 (TA m + 2)) (f - 1) (nI B) ∧ z.2.1 (TA m + 3) = upd (S.1 (TA m + 3)) B (nI f) ∧ z.2.1 (TA m + 4) = upd (S.1 (TA m + 4)) B (nI f) ∧ z.2.1 (TA m + 5) = upd (S.1 (TA m + 5)) B k ∧ z.2.1 (TA m + 6) = upd (S.1 (TA m + 6)) B 0) := by
  have e1 : (nI f : Int32) - 1 = nI (f - 1) := pk_sub (b := 1) (by omega)
  have h3' : ∀ o, o < 9 → 3 ≠ TA m + o := fun o ho q => TA_ne m o ho (c := 3) (by simp) q.symm
  unfold fX5_openBlock
  rw [hB, if_pos (show nI B < 31 from (nI_ltI (a := B) (b := 31) (by omega) (by omega)).mpr hB2), if_neg (nI_in hB2 (by omega)), if_neg (nI_in hB2 (by omega)), if_neg (nI_in hB2 (by omega)), if_neg (nI_in hB2 (by omega)), if_neg (show ¬ nI f ≤ 0 from nI_ge (b := f) (a := 0) (by omega) (by omega)), if_neg (show ¬ (60 : Int32) < nI f from fun q => by have := (nI_ltI (a := 60) (b := f) (by omega) (by omega)).mp q; omega), e1, if_neg (nI_in (show f - 1 < 60 by omega) (by omega)), nI_cl (by omega), nI_cl (by omega)]
  refine WP.ret ⟨rfl, ?_, ?_, ?_, ?_, ?_, ?_, ?_, ?_, ?_⟩
  · exact ((((((Fr.refl _ S).i (by unfold rdF; simp)).i (by unfold rdF; simp)).i (by unfold rdF; simp)).i (by unfold rdF; simp)).i (by unfold rdF; simp)).i (by unfold rdF; simp)
  all_goals simp only [si_c]
  · rw [sc_ne _ _ (h3' 2 (by omega)), sc_ne _ _ (h3' 6 (by omega)), sc_ne _ _ (h3' 5 (by omega)), sc_ne _ _ (h3' 4 (by omega)), sc_ne _ _ (h3' 3 (by omega)), sc_ne _ _ (show 3 ≠ TA m from h3' 0 (by omega))]
  · rw [sc_ne _ _ (by omega), sc_ne _ _ (by omega), sc_ne _ _ (by omega), sc_ne _ _ (by omega), sc_ne _ _ (by omega), sc_ne _ _ (by omega)]
  · rw [sc_ne _ _ (by omega), sc_ne _ _ (by omega), sc_ne _ _ (by omega), sc_ne _ _ (by omega), sc_ne _ _ (by omega), sc_same]
    rw [show nI B + 1 = nI (B + 1) from nI_add B 1]
  · rw [sc_same, sc_ne _ _ (by omega), sc_ne _ _ (by omega), sc_ne _ _ (by omega), sc_ne _ _ (by omega), sc_ne _ _ (by omega)]
  · rw [sc_ne _ _ (by omega), sc_ne _ _ (by omega), sc_ne _ _ (by omega), sc_ne _ _ (by omega), sc_same, sc_ne _ _ (by omega)]
  · rw [sc_ne _ _ (by omega), sc_ne _ _ (by omega), sc_ne _ _ (by omega), sc_same, sc_ne _ _ (by omega), sc_ne _ _ (by omega)]
  · rw [sc_ne _ _ (by omega), sc_ne _ _ (by omega), sc_same, sc_ne _ _ (by omega), sc_ne _ _ (by omega), sc_ne _ _ (by omega)]
  · rw [sc_ne _ _ (by omega), sc_same, sc_ne _ _ (by omega), sc_ne _ _ (by omega), sc_ne _ _ (by omega), sc_ne _ _ (by omega)]
    rfl
theorem r_isBlock {B b : Nat} (hB : S.1 (TA m) 8 = nI B) (hB2 : B ≤ 31) (hb : b < B) : fX5_isBlock N m (nI b) S = some (1, S) := by
  unfold fX5_isBlock fX5_isBlock_23
  rw [if_neg (nI_pos (by omega)), hB, if_neg (nI_ge hb (by omega)), if_neg (show ¬ (31 : Int32) ≤ nI b from nI_ge (b := 31) (by omega) (by omega)), if_pos (Or.inr rfl)]
theorem r_keeper {B b : Nat} (hB : S.1 (TA m) 8 = nI B) (hB2 : B ≤ 31) (hb : b < B) : fX5_keeperOf N m (nI b) S = some (S.1 (TA m + 5) b, S) := by
  unfold fX5_keeperOf fX5_keeperOf_18
  rw [r_isBlock hB hB2 hb]
  simp only [Option.bind_some, if_neg z10]
  rw [if_neg (nI_in (by omega) (by omega)), nI_cl (by omega)]
theorem r_close {B b : Nat} (v : Int32) (hB : S.1 (TA m) 8 = nI B) (hB2 : B ≤ 31) (hb : b < B) : fX5_closeBlock N m (nI b) v S = some (st_i S (TA m + 4) b v) := by
  unfold fX5_closeBlock
  rw [r_isBlock hB hB2 hb]
  simp only [Option.bind_some, if_neg z10]
  rw [if_neg (nI_in (by omega) (by omega)), nI_cl (by omega)]
theorem r_mark {B b : Nat} (hB : S.1 (TA m) 8 = nI B) (hB2 : B ≤ 31) (hb : b < B) : fX5_markAgain N m (nI b) S = some (st_i S (TA m + 6) b 1) := by
  unfold fX5_markAgain
  rw [r_isBlock hB hB2 hb]
  simp only [Option.bind_some, if_neg z10]
  rw [if_neg (nI_in (by omega) (by omega)), nI_cl (by omega)]
  rfl
theorem r_again {b : Nat} (hb : b < 31) (h01 : S.1 (TA m + 6) b = 0 ∨ S.1 (TA m + 6) b = 1) : fX5_raisesAgain N m (nI b) S = some (S.1 (TA m + 6) b, S) := by
  unfold fX5_raisesAgain fX5_raisesAgain_27
  rw [if_neg (nI_pos (by omega)), if_neg (show ¬ (31 : Int32) ≤ nI b from nI_ge (b := 31) (by omega) (by omega)), if_neg (nI_in (by omega) (by omega)), nI_cl (by omega)]
  rcases h01 with q | q
  · rw [q]; rfl
  · rw [q]; rfl
theorem r_addTaker {c p : Nat} (hc : S.1 (TA m) 10 = nI c) (hc2 : c < 20) : fX5_addTaker N m (nI p) S = some (st_i (st_i S (TA m + 8) c (nI p)) (TA m) 10 (nI (c + 1))) := by
  unfold fX5_addTaker
  rw [hc, if_neg (show ¬ (20 : Int32) ≤ nI c from nI_ge (b := 20) (by omega) (by omega)), if_neg (nI_in (by omega) (by omega)), nI_cl (by omega), si_nx _ _ (by omega), hc, show nI c + 1 = nI (c + 1) from nI_add c 1]
end R1
