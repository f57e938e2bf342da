/-! ===== lost, takers, taker on both sides ===== -/
theorem nI_nn {b : Int32} (h : ¬ b < 0) : ∃ k, k < 2147483648 ∧ b = nI k := by
  have h0 : 0 ≤ b.toInt := by
    have h1 := Int32.not_lt.mp h
    have h2 := Int32.le_iff_toInt_le.mp h1
    rw [show (0 : Int32).toInt = 0 from rfl] at h2
    exact h2
  have h1 := Int32.toInt_lt b
  refine ⟨b.toInt.toNat, by omega, ?_⟩
  apply Int32.toInt_inj.mp
  rw [nI_toInt (by omega)]
  omega
section TKR
variable {N : Nat} {nF : Nat → Nat} {cF mF : Nat → Nat → Nat} {ab : Nat → Nat → Bool} {S : St}
theorem RC.cf {T : St} (h : RC nF cF mF ab S) (f : CF S T) : RC nF cF mF ab T := by
  unfold RC RY at *
  rw [f.2.1 128 (by omega), f.2.1 129 (by omega), f.2.1 132 (by omega), f.2.1 133 (by omega), f.2.1 134 (by omega), f.2.1 141 (by omega)]
  exact h
theorem vLo_u {r : Nat} {v w : Int32} (h : vLo nF cF mF ab r v) (k : vLo nF cF mF ab r w) : v = w := b_ext (fun i hi => by
  have := (h i hi).trans (k i hi).symm
  cases hv : bt v i with
  | true => rw [hv] at this; exact (this.mp rfl).symm
  | false =>
    rw [hv] at this
    cases hw : bt w i with
    | true => rw [hw] at this; exact absurd (this.mpr rfl) (by simp)
    | false => rfl)
theorem vTk_u {r q : Nat} {v w : Int32} (h : vTk nF cF mF ab r q v) (k : vTk nF cF mF ab r q w) : v = w := b_ext (fun i hi => by
  have := (h i hi).trans (k i hi).symm
  cases hv : bt v i with
  | true => rw [hv] at this; exact (this.mp rfl).symm
  | false =>
    rw [hv] at this
    cases hw : bt w i with
    | true => rw [hw] at this; exact absurd (this.mpr rfl) (by simp)
    | false => rfl)
def CtX (nF : Nat → Nat) (cF mF : Nat → Nat → Nat) (ab : Nat → Nat → Bool) (S : St) : Prop := KC nF cF mF ab S ∧ RC nF cF mF ab S
/-- a pair of calls that only asks -/
def Ask (nF : Nat → Nat) (cF mF : Nat → Nat → Nat) (ab : Nat → Nat → Bool) (S S2 : St) : Prop := ∃ S1, CF S S1 ∧ KC nF cF mF ab S1 ∧ RP S1 S2 ∧ RC nF cF mF ab S2
theorem Ask.refl (h : CtX nF cF mF ab S) : Ask nF cF mF ab S S := ⟨S, CF.refl S, h.1, FrJ.refl _ _ _, h.2⟩
theorem st_lost (hN : 900000 < N) (hW : ∀ r, r < 8 → WF (cF r) (mF r) (nF r) ∧ ∀ i, cF r i < 256) (h : CtX nF cF mF ab S) (a : Int32) : ∃ v S1 S2, fX7_lost N a S = some (v, S1) ∧ fX8_lost N a S1 = some (v, S2) ∧ Ask nF cF mF ab S S2 := by
  rcases nI_cases a 8 (by decide) with ⟨r, hr, rfl⟩ | ha
  · obtain ⟨z, e1, f1, k1, v1⟩ := c_lost (N := N) (by omega) h.1 hr
    obtain ⟨y, e2, f2, k2, v2⟩ := r_lost hN hW (h.2.cf f1) hr
    exact ⟨z.1, z.2, y.2, e1, by rw [e2, vLo_u v1 v2], z.2, f1, k1, f2, k2⟩
  · refine ⟨-1, S, S, ?_, ?_, Ask.refl h⟩
    · unfold fX7_lost
      rw [s_isRoutine0 N S ha]
      simp only [Option.bind_some, if_pos]
    · unfold fX8_lost
      rw [s_r80 N S ha]
      simp only [Option.bind_some, if_pos]
theorem st_takers (hN : 900000 < N) (hm : ∀ r, r < 8 → mF r = mtp (cF r)) (hW : ∀ r, r < 8 → WF (cF r) (mF r) (nF r) ∧ ∀ i, cF r i < 256) (h : CtX nF cF mF ab S) (hT : ∀ q, q < 8 → TkF (S.2 q) (nF q) (cF q) S) (a : Int32) : ∃ v S1 S2, fX7_takers N a S = some (v, S1) ∧ fX8_takers N a S1 = some (v, S2) ∧ Ask nF cF mF ab S S2 := by
  rcases nI_cases a 8 (by decide) with ⟨r, hr, rfl⟩ | ha
  · have hY := h.2.1 r hr
    have hw := hW r hr
    rw [hm r hr] at hY hw
    refine ⟨nI (cT (cF r) (nF r)), S, S, ?_, r_takers (by omega) hr hw.1 hw.2 hY (hT r hr).2.2, Ask.refl h⟩
    unfold fX7_takers fX7_takers_20 fX5_takerCount
    rw [s_isRoutine1 N S hr]
    simp only [Option.bind_some, if_neg z10]
    rw [if_neg (nI_in hr (by omega)), nI_cl (by omega), (hT r hr).1]
  · refine ⟨-1, S, S, ?_, ?_, Ask.refl h⟩
    · unfold fX7_takers fX7_takers_20
      rw [s_isRoutine0 N S ha]
      simp only [Option.bind_some, if_pos]
    · unfold fX8_takers
      rw [s_r80 N S ha]
      simp only [Option.bind_some, if_pos]
theorem s_tplace {m n : Nat} {ch : Nat → Nat} (hn : n ≤ 60) (h : TkF m n ch S) {h' q : Nat} (hq : q < n) (ht : Tkr ch q) (hc : cT ch q = h') : fX5_takerPlace N m (nI h') S = some (nI q, S) := by
  have h1 := cT_lt ht hq
  obtain ⟨g1, g2, g3⟩ := h
  unfold fX5_takerPlace fX5_takerPlace_31
  rw [if_neg (nI_pos (by omega)), g1, if_neg (nI_ge (by omega) (by omega)), if_neg (show ¬ (20 : Int32) ≤ nI h' from nI_ge (b := 20) (by omega) (by omega)), if_neg (nI_in (show h' < 20 by omega) (by omega)), nI_cl (by omega), ← hc, g2 q hq ht]
/-- what a taker's asking answers, the taken KINDS being w -/
noncomputable def tvl (w : Int32) (ch mt : Nat → Nat) (q : Nat) (c : Int32) : Int32 := if c = 0 then nI (ch q - 65) else if c = 1 then nI q else if c = 2 then w else if c = 3 then bP (w ≠ 0 ∧ mt (q + 1) = q + 2) else if c = 4 then bP (w = 0) else -1
theorem s_t41 {r n B : Nat} {ch mt bn fs kp : Nat → Nat} {ag : Nat → Prop} (hr : r < 8) (hK : TK n B ch mt bn fs kp ag) (hD : TD (S.2 r) n B ch mt bn fs kp ag S) (hT : TkF (S.2 r) n ch S) {h' q : Nat} (hq : q < n) (ht : Tkr ch q) (hc : cT ch q = h') (h123 : ch (q + 1) = 123) (c : Int32) : fX7_taker_41 N (nI r) (nI h') c S = some (tvl (tkb (S.2 r) S q) ch mt q c, S) := by
  have hW := hK.1.1
  have hcc := hK.1.2
  have hB := hK.2.1.2.1
  have hn := hW.1
  have hl := ht.1
  obtain ⟨b1, f1⟩ := hK.2.2.2.2.1 _ h123
  have hpl := s_tplace (N := N) hn hT hq ht hc
  have eq1 : nI q + 1 = nI (q + 1) := nI_add q 1
  have etk : tkb (S.2 r) S q = S.1 (TA (S.2 r) + 7) (bn (q + 1)) := by
    unfold tkb
    rw [hD.2.2.2.2.2.1 _ h123, nI_cl (by omega)]
  have htk : fX5_takenKinds N (S.2 r) (nI h') S = some (tkb (S.2 r) S q, S) := by
    unfold fX5_takenKinds fX5_takenKinds_30
    rw [hpl]
    simp only [Option.bind_some]
    rw [eq1, s_blockAt hW hcc hD h123]
    simp only [Option.bind_some]
    rw [s_isBlock hB hD b1]
    simp only [Option.bind_some, if_neg z10]
    rw [if_neg (nI_in (show bn (q + 1) < 31 by omega) (by omega)), nI_cl (by omega), etk]
  have hem : fX5_isEmptyTaker N (S.2 r) (nI h') S = some (bP (mt (q + 1) = q + 2), S) := by
    have hbr := hW.br h123
    unfold fX5_isEmptyTaker fX5_isEmptyTaker_30
    rw [hpl]
    simp only [Option.bind_some]
    rw [eq1, s_blockAt hW hcc hD h123]
    simp only [Option.bind_some]
    rw [s_firstOf hB hD b1, f1]
    simp only [Option.bind_some]
    rw [s_closeOf hB hD b1, hK.end h123]
    simp only [Option.bind_some]
    by_cases w : mt (q + 1) = q + 2
    · rw [if_pos (show nI (q + 1 + 1) = nI (mt (q + 1)) by rw [w]), if_pos (Or.inr trivial), bP_1 w]
    · rw [if_neg (fun z => w ((nI_eq (show q + 1 + 1 < 2147483648 by omega) (by omega)).mp z).symm), if_pos (Or.inl trivial), bP_0 w]
  unfold fX7_taker_41 tvl
  rw [if_neg (nI_in hr (by omega)), nI_cl (by omega)]
  by_cases c0 : c = 0
  · rw [if_pos c0, if_pos c0]
    unfold fX5_takerKind
    rw [hpl]
    simp only [Option.bind_some]
    rw [s_kindAt hW hcc hD (by omega), if_pos hl]
    rfl
  rw [if_neg c0, if_neg c0]
  by_cases c1 : c = 1
  · rw [if_pos c1, if_pos c1, hpl]
    rfl
  rw [if_neg c1, if_neg c1]
  by_cases c2 : c = 2
  · rw [if_pos c2, if_pos c2, htk]
    rfl
  rw [if_neg c2, if_neg c2]
  by_cases c3 : c = 3
  · rw [if_pos c3, if_pos c3, htk]
    simp only [Option.bind_some]
    unfold fX7_taker_127 fX7_taker_128
    by_cases w : tkb (S.2 r) S q = 0
    · rw [if_pos w, bP_0 (fun z => z.1 w), show fX7_bit N 0 S = some (bP False, S) from by rw [show (0 : Int32) = bP False from (bP_0 id).symm]; exact s_bit False S]
      rw [bP_0 id]
      rfl
    · rw [if_neg w, hem]
      simp only [Option.bind_some]
      by_cases y : mt (q + 1) = q + 2
      · rw [bP_1 y, if_neg z10, bP_1 (show tkb (S.2 r) S q ≠ 0 ∧ mt (q + 1) = q + 2 from ⟨w, y⟩), show fX7_bit N 1 S = some (bP True, S) from by rw [show (1 : Int32) = bP True from (bP_1 trivial).symm]; exact s_bit True S]
        rw [bP_1 trivial]
        rfl
      · rw [bP_0 y, if_pos rfl, bP_0 (fun z => y z.2), show fX7_bit N 0 S = some (bP False, S) from by rw [show (0 : Int32) = bP False from (bP_0 id).symm]; exact s_bit False S]
        rw [bP_0 id]
        rfl
  rw [if_neg c3, if_neg c3]
  by_cases c4 : c = 4
  · rw [if_pos c4, if_pos c4, htk]
    simp only [Option.bind_some]
    unfold fX7_taker_146
    by_cases w : tkb (S.2 r) S q = 0
    · rw [if_pos w, bP_1 w, show fX7_bit N 1 S = some (bP True, S) from by rw [show (1 : Int32) = bP True from (bP_1 trivial).symm]; exact s_bit True S]
      rw [bP_1 trivial]
      rfl
    · rw [if_neg w, bP_0 w, show fX7_bit N 0 S = some (bP False, S) from by rw [show (0 : Int32) = bP False from (bP_0 id).symm]; exact s_bit False S]
      rw [bP_0 id]
      rfl
  rw [if_neg c4, if_neg c4]
theorem r_taker (hN : 900000 < N) (hm : ∀ r, r < 8 → mF r = mtp (cF r)) (hW : ∀ r, r < 8 → WF (cF r) (mF r) (nF r) ∧ ∀ i, cF r i < 256) (h : RC nF cF mF ab S) {r h' q : Nat} (hr : r < 8) (hh : h' < 2147483648) (hq : q < nF r) (ht : Tkr (cF r) q) (hc : cT (cF r) q = h') (c : Int32) :
    WP (fX8_taker N (nI r) (nI h') c S) (fun z => RP S z.2 ∧ RC nF cF mF ab z.2 ∧ ∃ w, z.1 = tvl w (cF r) (mF r) q c ∧ vTk nF cF mF ab r q w) := by
  have hY := h.1 r hr
  have hw := hW r hr
  have hw' := hw
  rw [hm r hr] at hw'
  have h60 := hw.1.1
  have hl := ht.1
  have h123 : cF r (q + 1) = 123 := ((hw'.1.lq hq).1.mpr ht).2
  have hbr := hw.1.br h123
  obtain ⟨v, ev, hv⟩ := s_place (N := N) (h' := h') (by omega) hr hw'.1 hw'.2 (by rw [← hm r hr]; exact hY) hh
  have ev2 : v = nI q := by
    rcases hv with ⟨q', q1, q2, q3, q4⟩ | ⟨q1, _⟩
    · rw [q4, cT_inj q2 ht (q3.trans hc.symm)]
    · have := cT_lt ht hq; omega
  rw [ev2] at ev
  -- any w will do for the easy ones
  obtain ⟨T, eT, f1, k1, v1⟩ := r_taken (S := S) hN hW h hr (show q < 1000 by omega) hl
  unfold fX8_taker
  rw [s_r81 N S hr]
  simp only [Option.bind_some, if_neg z10]
  rw [if_pos (show (0 : Int32) ≤ nI h' from nI_le (a := 0) (by omega) hh), ev]
  simp only [Option.bind_some]
  rw [if_neg (by rw [nI_m1 (by omega)]; exact id)]
  rcases nI_cases c 5 (by decide) with ⟨k, hk, rfl⟩ | hcc
  · rw [if_neg (nI_pos (by omega)), if_pos (show nI k ≤ 4 from nI_le (b := 4) (by omega) (by omega))]
    have kk : ∀ j, j < 5 → (nI k = nI j ↔ k = j) := fun j hj => nI_eq (by omega) (by omega)
    unfold tvl
    by_cases c0 : k = 0
    · subst c0
      rw [if_pos (show nI 0 = 0 from rfl), s_sgY hr hw.1 hY (show q < 1000 by omega)]
      simp only [Option.bind_some]
      exact WP.ret ⟨FrJ.refl _ _ _, h, T.1, by rw [if_pos (show nI 0 = 0 from rfl)]; exact nI_s65 hl.1, v1⟩
    rw [if_neg (show ¬ nI k = 0 from fun z => c0 ((kk 0 (by omega)).mp z))]
    by_cases c1 : k = 1
    · subst c1
      rw [if_pos (show nI 1 = 1 from rfl)]
      exact WP.ret ⟨FrJ.refl _ _ _, h, T.1, by rw [if_neg (show ¬ nI 1 = 0 by decide), if_pos (show nI 1 = 1 from rfl)], v1⟩
    rw [if_neg (show ¬ nI k = 1 from fun z => c1 ((kk 1 (by omega)).mp z)), eT]
    simp only [Option.bind_some]
    by_cases c2 : k = 2
    · subst c2
      rw [if_pos (show nI 2 = 2 from rfl)]
      exact WP.ret ⟨f1, k1, T.1, by rw [if_neg (show ¬ nI 2 = 0 by decide), if_neg (show ¬ nI 2 = 1 by decide), if_pos (show nI 2 = 2 from rfl)], v1⟩
    rw [if_neg (show ¬ nI k = 2 from fun z => c2 ((kk 2 (by omega)).mp z))]
    by_cases c4 : k = 4
    · subst c4
      unfold fX8_taker_93
      rw [if_pos (show nI 4 = 4 from rfl)]
      by_cases w : T.1 = 0
      · rw [if_pos w]
        exact WP.ret ⟨f1, k1, T.1, by rw [if_neg (show ¬ nI 4 = 0 by decide), if_neg (show ¬ nI 4 = 1 by decide), if_neg (show ¬ nI 4 = 2 by decide), if_neg (show ¬ nI 4 = 3 by decide), if_pos (show nI 4 = 4 from rfl), bP_1 w], v1⟩
      · rw [if_neg w]
        exact WP.ret ⟨f1, k1, T.1, by rw [if_neg (show ¬ nI 4 = 0 by decide), if_neg (show ¬ nI 4 = 1 by decide), if_neg (show ¬ nI 4 = 2 by decide), if_neg (show ¬ nI 4 = 3 by decide), if_pos (show nI 4 = 4 from rfl), bP_0 w], v1⟩
    rw [if_neg (show ¬ nI k = 4 from fun z => c4 ((kk 4 (by omega)).mp z))]
    obtain rfl : k = 3 := by omega
    unfold fX8_taker_120
    by_cases w : T.1 = 0
    · rw [if_pos w]
      exact WP.ret ⟨f1, k1, T.1, by rw [if_neg (show ¬ nI 3 = 0 by decide), if_neg (show ¬ nI 3 = 1 by decide), if_neg (show ¬ nI 3 = 2 by decide), if_pos (show nI 3 = 3 from rfl), bP_0 (fun z => z.1 w)], v1⟩
    · rw [if_neg w, show nI q + 1 = nI (q + 1) from nI_add q 1, s_shY hr hw.1 (k1.1 r hr) h123, nI_2]
      simp only [Option.bind_some]
      by_cases y : mF r (q + 1) = q + 2
      · rw [if_pos (by rw [y])]
        exact WP.ret ⟨f1, k1, T.1, by rw [if_neg (show ¬ nI 3 = 0 by decide), if_neg (show ¬ nI 3 = 1 by decide), if_neg (show ¬ nI 3 = 2 by decide), if_pos (show nI 3 = 3 from rfl), bP_1 (show T.1 ≠ 0 ∧ mF r (q + 1) = q + 2 from ⟨w, y⟩)], v1⟩
      · rw [if_neg (fun z => y ((nI_eq (by omega) (by omega)).mp z))]
        exact WP.ret ⟨f1, k1, T.1, by rw [if_neg (show ¬ nI 3 = 0 by decide), if_neg (show ¬ nI 3 = 1 by decide), if_neg (show ¬ nI 3 = 2 by decide), if_pos (show nI 3 = 3 from rfl), bP_0 (fun z => y z.2)], v1⟩
  · have tm : ∀ w, (-1 : Int32) = tvl w (cF r) (mF r) q c := fun w => by
      have ne : ∀ j, j < 5 → ¬ c = nI j := fun j hj z => by
        rw [z] at hcc
        rcases hcc with y | y
        · exact nI_pos (by omega) y
        · exact nI_ge (a := j) (b := 5) (by omega) (by omega) y
      unfold tvl
      rw [if_neg (show ¬ c = 0 from ne 0 (by omega)), if_neg (show ¬ c = 1 from ne 1 (by omega)), if_neg (show ¬ c = 2 from ne 2 (by omega)), if_neg (show ¬ c = 3 from ne 3 (by omega)), if_neg (show ¬ c = 4 from ne 4 (by omega))]
    by_cases y : c < 0
    · rw [if_pos y]
      exact WP.ret ⟨FrJ.refl _ _ _, h, T.1, tm _, v1⟩
    · rw [if_neg y, if_neg (show ¬ c ≤ 4 from fun z => Int32.not_lt.mpr z (Int32.lt_of_lt_of_le (show (4 : Int32) < nI 5 by decide) (hcc.resolve_left y)))]
      exact WP.ret ⟨FrJ.refl _ _ _, h, T.1, tm _, v1⟩
theorem TkF.cf {T : St} {q n : Nat} {ch : Nat → Nat} (hq : q < 8) (h : TkF (S.2 q) n ch S) (f : CF S T) : TkF (T.2 q) n ch T := by
  unfold TkF at *
  rw [f.1 q (by omega) (by omega), f.2.2.2.2.2 _ 10 (by omega), f.2.2.2.2.1 _ 8 (by omega) (by omega) (by omega)]
  exact h
theorem st_taker (hN : 900000 < N) (hm : ∀ r, r < 8 → mF r = mtp (cF r)) (hW : ∀ r, r < 8 → WF (cF r) (mF r) (nF r) ∧ ∀ i, cF r i < 256) (h : CtX nF cF mF ab S) (hT : ∀ q, q < 8 → TkF (S.2 q) (nF q) (cF q) S) (a b c : Int32) : ∃ v S1 S2, fX7_taker N a b c S = some (v, S1) ∧ fX8_taker N a b c S1 = some (v, S2) ∧ Ask nF cF mF ab S S2 := by
  rcases nI_cases a 8 (by decide) with ⟨r, hr, rfl⟩ | ha
  · have hw' := hW r hr
    rw [hm r hr] at hw'
    have hn := hw'.1.1
    by_cases b0 : b < 0
    · refine ⟨-1, S, S, ?_, ?_, Ask.refl h⟩
      · unfold fX7_taker
        rw [s_isRoutine1 N S hr]
        simp only [Option.bind_some, if_neg z10]
        rw [if_pos b0]
      · unfold fX8_taker
        rw [s_r81 N S hr]
        simp only [Option.bind_some, if_neg z10]
        rw [if_neg (Int32.not_le.mpr b0)]
    · obtain ⟨h', hh, rfl⟩ : ∃ h', h' < 2147483648 ∧ b = nI h' := nI_nn b0
      have e10 := (hT r hr).1
      have h3 := (hT r hr).2.2
      by_cases q : h' < cT (cF r) (nF r)
      · obtain ⟨p, p1, p2, p3⟩ := cT_ex (nF r) q
        have h123 : cF r (p + 1) = 123 := ((hw'.1.lq p1).1.mpr p2).2
        -- the first program
        have c1 : ∃ S1, fX7_taker N (nI r) (nI h') c S = some (tvl (tkb (S1.2 r) S1 p) (cF r) (mF r) p c, S1) ∧ CF S S1 ∧ KC nF cF mF ab S1 ∧ (c ≤ 1 ∨ vTk nF cF mF ab r p (tkb (S1.2 r) S1 p)) := by
          have hd : fX7_taker N (nI r) (nI h') c S = if c ≤ 1 then fX7_taker_41 N (nI r) (nI h') c S else ((fX7_measure N (nI r) S).bind (fun q13 => (fX7_trace N (nI r) q13).bind (fun q14 => fX7_taker_41 N (nI r) (nI h') c q14))) := by
            unfold fX7_taker fX5_takerCount
            rw [s_isRoutine1 N S hr]
            simp only [Option.bind_some, if_neg z10]
            rw [if_neg (nI_pos hh), if_neg (nI_in hr (by omega)), nI_cl (by omega), e10, if_pos ((nI_ltI hh (by omega)).mpr q)]
          rw [hd]
          by_cases cl : c ≤ 1
          · rw [if_pos cl]
            obtain ⟨B, bn, fs, kp, ag, hK, hD, _⟩ := h.1.1.1 r hr
            exact ⟨S, s_t41 hr hK hD (hT r hr) p1 p2 p3 h123 c, CF.refl S, h.1, Or.inl cl⟩
          · rw [if_neg cl]
            obtain ⟨T, e, t1, t2, t3⟩ := s_mtrace (N := N) (by omega) h.1 hr
            cases hms : fX7_measure N (nI r) S with
            | none => rw [hms] at e; cases e
            | some s1 =>
              rw [hms] at e
              have e : fX7_trace N (nI r) s1 = some T := e
              simp only [Option.bind_some]
              rw [e]
              simp only [Option.bind_some]
              obtain ⟨B, bn, fs, kp, ag, hK, hD, _⟩ := t2.1.1 r hr
              refine ⟨T, s_t41 hr hK hD ((hT r hr).cf hr t1) p1 p2 p3 h123 c, t1, t2, Or.inr (fun x hx => ?_)⟩
              have hok := t2.2.2 r hr t3
              rw [hok.1 (fun p' k => p' = p ∧ k = x) (fun _ => False)]
              constructor
              · intro z
                obtain ⟨z1, z2⟩ := hok.2.1 p x h123 hx z
                exact ⟨z1, z2, Or.inl ⟨p, x, z1, ⟨rfl, rfl⟩, h123, z⟩⟩
              · rintro ⟨z1, z2, ⟨p', k, _, ⟨z3, z4⟩, _, z5⟩ | ⟨k, _, z, _⟩⟩
                · rw [z3, z4] at z5; exact z5
                · exact z.elim
        obtain ⟨S1, e1, f1, k1, v1⟩ := c1
        obtain ⟨z, e2, f2, k2, w, hv, hw2⟩ := r_taker hN hm hW (h.2.cf f1) hr hh p1 p2 p3 c
        refine ⟨_, S1, z.2, e1, ?_, S1, f1, k1, f2, k2⟩
        rw [e2]
        refine congrArg some (Prod.ext ?_ rfl)
        show z.1 = _
        rw [hv]
        rcases v1 with cl | v1
        · unfold tvl
          by_cases c0 : c = 0
          · rw [if_pos c0, if_pos c0]
          rw [if_neg c0, if_neg c0]
          by_cases c1 : c = 1
          · rw [if_pos c1, if_pos c1]
          have big : ∀ j : Int32, ¬ j ≤ 1 → ¬ c = j := fun j hj z => hj (by rw [← z]; exact cl)
          rw [if_neg c1, if_neg c1, if_neg (big 2 (by decide)), if_neg (big 2 (by decide)), if_neg (big 3 (by decide)), if_neg (big 3 (by decide)), if_neg (big 4 (by decide)), if_neg (big 4 (by decide))]
        · rw [vTk_u hw2 v1]
      · refine ⟨-1, S, S, ?_, ?_, Ask.refl h⟩
        · unfold fX7_taker fX5_takerCount
          rw [s_isRoutine1 N S hr]
          simp only [Option.bind_some, if_neg z10]
          rw [if_neg (nI_pos hh), if_neg (nI_in hr (by omega)), nI_cl (by omega), e10, if_neg (fun z => q ((nI_ltI hh (by omega)).mp z))]
        · have hY := h.2.1 r hr
          rw [hm r hr] at hY
          obtain ⟨v, ev, hv⟩ := s_place (N := N) (h' := h') (by omega) hr hw'.1 hw'.2 hY hh
          have ev2 : v = -1 := by
            rcases hv with ⟨q', q1, q2, q3, q4⟩ | ⟨_, q1⟩
            · have := cT_lt q2 q1; omega
            · exact q1
          unfold fX8_taker
          rw [s_r81 N S hr]
          simp only [Option.bind_some, if_neg z10]
          rw [if_pos (show (0 : Int32) ≤ nI h' from nI_le (a := 0) (by omega) hh), ev, ev2]
          simp only [Option.bind_some]
          rw [if_pos trivial]
  · refine ⟨-1, S, S, ?_, ?_, Ask.refl h⟩
    · unfold fX7_taker
      rw [s_isRoutine0 N S ha]
      simp only [Option.bind_some, if_pos]
    · unfold fX8_taker
      rw [s_r80 N S ha]
      simp only [Option.bind_some, if_pos]
end TKR
