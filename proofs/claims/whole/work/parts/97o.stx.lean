/-! ===== telling a text, on both sides ===== -/
theorem b8 {x : Int32} {c : Nat} (hc : c < 128) (h : x &&& 255 = nI c) : Int8.toInt32 (Int32.toInt8 x) = nI c := by
  have d1 : ∀ k, k < 256 → Int8.toInt32 (Int8.ofNat k) &&& 255 = nI k := by decide +kernel
  have d2 : ∀ k, k < 128 → Int8.toInt32 (Int8.ofNat k) = nI k := by decide +kernel
  have hb := bp_b x
  rw [h] at hb
  obtain ⟨k, hk, ek⟩ : ∃ k, k < 256 ∧ Int32.toInt8 x = Int8.ofNat k := by
    refine ⟨(Int32.toInt8 x).toBitVec.toNat, (Int32.toInt8 x).toBitVec.isLt, ?_⟩
    apply Int8.toBitVec_inj.mp
    rw [Int8.toBitVec_ofNat', BitVec.ofNat_toNat, BitVec.setWidth_eq]
  rw [ek] at hb ⊢
  rw [d1 k hk] at hb
  have : k = c := (nI_eq (by omega) (by omega)).mp hb
  rw [this]
  exact d2 c hc
theorem TrOK.X {m n : Nat} {ch mt : Nat → Nat} {ab : Nat → Nat → Bool} {X X' : Nat → Nat} {T : St} (hW : WF ch mt n) (h : ∀ p, p < 8 → clb ch p → ∀ y, p * 112 ≤ y → y < p * 112 + 112 → X y = X' y) (k : TrOK m n ch mt ab X T) : TrOK m n ch mt ab X' T := by
  refine ⟨fun hb lb => ?_, k.2⟩
  rw [← k.1 hb lb]
  exact ⟨Mtb_X hW (fun p h1 h2 y h3 h4 => (h p h1 h2 y h3 h4).symm) 61 0 (by omega) (Or.inl rfl) 0 0, Mtb_X hW h 61 0 (by omega) (Or.inl rfl) 0 0⟩
/-- who doesn't come to r calls none that does -/
theorem cTo_cl {S : St} {r q p : Nat} (hr : r < 8) (hq : q < 8) (hp : p < 8) (h : ¬ cTo S r q) (hc : bt (clS S q) p = true) : ¬ cTo S r p := by
  have hup : sub8 (clS S q) (cAll (clS S) 8 (clS S q)) := by
    have := cAll_up (clS S) (clS S q) 0 8
    rw [Nat.zero_add] at this
    exact this
  have hcl := cAll_cl (clS S) (clS S q)
  have hpin := hup p hp hc
  rintro (w | w)
  · subst w; exact h (Or.inr hpin)
  · refine h (Or.inr ?_)
    exact cAll_min (clS S) (A := clS S p) (P := fun x => bt (cAll (clS S) 8 (clS S q)) x = true) (fun x hx hb => hcl p hp hpin x hx hb) (fun x y hx hy h1 h2 => hcl x hx h1 y hy h2) 8 r hr w
section STX
variable {N : Nat} {nF : Nat → Nat} {cF : Nat → Nat → Nat} {ab : Nat → Nat → Bool} {S : St}
/-- the cells of another Told stay -/
theorem tx_ta {S T : St} {q : Nat} (hI : (∀ q, q < 9 → S.2 q < 12) ∧ ∀ q p, q < 9 → p < 9 → S.2 q = S.2 p → q = p) (hq : q < 8) (f : txF (S.2 8) S T) {o : Nat} (ho : o < 9) : T.1 (TA (S.2 q) + o) = S.1 (TA (S.2 q) + o) := by
  refine f.1 _ (TA_ne _ o ho (by simp)) (TA_ne _ o ho (by simp)) (TA_ne _ o ho (by simp)) (fun p hp => ?_)
  refine TA_dis _ (hI.1 q (by omega)) _ (hI.1 8 (by omega)) (fun z => ?_) o ho p hp
  have := hI.2 q 8 (by omega) (by omega) z
  omega
theorem tx_neg {T U : St} {a p : Nat} (hB : BI nF cF ab S) (h : CtX nF cF (fun q => mtp (cF q)) ab S) (h1 : TxN (S.2 8) a p S T) (h2 : TyN a p T U) : Inv U := by
  obtain ⟨f1, g2, g3, g4, g5, g6, g7⟩ := h1
  obtain ⟨f2, k5, k6, k4⟩ := h2
  have hI := h.1.2.1
  have c1 : ∀ c, c < 128 → U.1 c = T.1 c := fun c hc => f2.2.1 c (fun z => by unfold A4 at z; simp at z; omega) (by omega)
  have d1 : ∀ c, 128 ≤ c → T.1 c = S.1 c := fun c hc => f1.1 c (by omega) (by omega) (by omega) (fun o ho => by have := TA_lt (S.2 8) o ho; omega)
  have d2 : ∀ c, c ∈ [129, 130, 131, 132, 133, 134, 141] → U.1 c = S.1 c := fun c hc => by
    simp only [List.mem_cons, List.not_mem_nil, or_false] at hc
    rw [f2.2.1 c (fun z => by unfold A4 at z; simp at z; omega) (by omega), d1 c (by omega)]
  have e1 : ∀ c, c ∈ [2, 14, 15, 17, 19] → U.1 c = S.1 c := fun c hc => by
    have hc' : c ∈ nT ∧ c ≠ 0 ∧ c ≠ 1 ∧ c ≠ 3 ∧ c < 128 := by
      simp only [List.mem_cons, List.not_mem_nil, or_false] at hc
      rcases hc with z | z | z | z | z <;> subst z <;> decide
    rw [c1 c hc'.2.2.2.2, f1.1 c hc'.2.1 hc'.2.2.1 hc'.2.2.2.1 (fun o ho => Ne.symm (TA_ne _ o ho hc'.1))]
  have hta : ∀ q, q < 8 → ∀ o, o < 9 → U.1 (TA (S.2 q) + o) = S.1 (TA (S.2 q) + o) := fun q hq o ho => by
    rw [c1 _ (TA_lt _ o ho)]; exact tx_ta hI hq f1 ho
  have hU2 : ∀ j, j < 9 → U.2 j = S.2 j := fun j hj => by rw [f2.1]; exact g2 j (by omega)
  have j1 : ∀ j, j ∉ [4, 5, 6, 7, 8, 15] → U.1 128 j = S.1 128 j := fun j hj => by rw [f2.2.2 j hj, d1 128 (by omega)]
  obtain ⟨⟨b1, b2⟩, b3, b4, b5, b6, b7⟩ := hB
  refine ⟨nF, cF, ab, ⟨⟨?_, ?_⟩, ?_, ⟨0, by omega, ?_, k4, fun i hi => absurd hi (by omega)⟩, ⟨?_, ?_⟩, fun q hq => ?_, ?_⟩, ?_, ?_⟩
  · unfold IK at *
    rw [e1 14 (by simp), e1 15 (by simp), d2 129 (by simp)]; exact b1
  · rw [e1 14 (by simp)]; exact b2
  · rw [e1 17 (by simp), d2 130 (by simp)]; exact b3
  · rw [c1 1 (by omega)]; exact g7
  · rw [c1 0 (by omega), g3, k5]
  · rw [c1 0 (by omega), g4, k6]
  · have := b6 q hq
    unfold TkF at *
    rw [hU2 q (by omega), show U.1 (TA (S.2 q)) = S.1 (TA (S.2 q)) from hta q hq 0 (by omega), hta q hq 8 (by omega)]
    exact this
  · rw [d2 132 (by simp)]; exact b7
  · exact h.1.lo hU2 hta (e1 15 (by simp)) (e1 19 (by simp)) (by rw [c1 0 (by omega), g5]) (by rw [c1 0 (by omega), g6])
  · exact h.2.lo (j1 19 (by decide)) (j1 20 (by decide)) (j1 29 (by decide)) (d2 129 (by simp)) (d2 132 (by simp)) (d2 133 (by simp)) (d2 134 (by simp)) (d2 141 (by simp))
theorem tx_pos {T U : St} {n r : Nat} {ch : Nat → Nat} (hr : r < 8) (hn : n ≤ 60) (hz : ∀ q, n ≤ q → ch q = 0) (hc : ∀ i, ch i < 256) (hpr : pr n ch 40 0 0 0 false false = some (.inl n)) (hch : ∀ i, i < n → T.1 131 i &&& 255 = nI (ch i)) (hB : BI nF cF ab S) (h : CtX nF cF (fun q => mtp (cF q)) ab S) (h1 : TxY (S.2 8) n r ch S T) (h2 : TyY n r ch T U) : Inv U := by
  obtain ⟨f1, ⟨g1, g2, g3⟩, g4, g5, g6, hRdn, g7, g8⟩ := h1
  obtain ⟨f2, ⟨k1, k2, k3, k4⟩, k5, k6, k7, k8, k9⟩ := h2
  have hI := h.1.2.1
  have hWn : WF ch (mtp ch) n := pr_WF hn hz hpr
  have hWo := h.W
  have c1 : ∀ c, c < 128 → U.1 c = T.1 c := fun c hc => f2.2.1 c (fun z => by simp at z; omega) (by omega)
  have d1 : ∀ c, 128 ≤ c → T.1 c = S.1 c := fun c hc => f1.1 c (by omega) (by omega) (by omega) (fun o ho => by have := TA_lt (S.2 8) o ho; omega)
  have d2 : ∀ c, c ∈ [129, 130, 131] → U.1 c = S.1 c := fun c hc => by
    simp only [List.mem_cons, List.not_mem_nil, or_false] at hc
    rw [f2.2.1 c (fun z => by simp at z; omega) (by omega), d1 c (by omega)]
  have e1 : ∀ c, c ∈ [2, 14, 15, 17, 19] → U.1 c = S.1 c := fun c hc => by
    have hc' : c ∈ nT ∧ c ≠ 0 ∧ c ≠ 1 ∧ c ≠ 3 ∧ c < 128 := by
      simp only [List.mem_cons, List.not_mem_nil, or_false] at hc
      rcases hc with z | z | z | z | z <;> subst z <;> decide
    rw [c1 c hc'.2.2.2.2, f1.1 c hc'.2.1 hc'.2.2.1 hc'.2.2.2.1 (fun o ho => Ne.symm (TA_ne _ o ho hc'.1))]
  have hta : ∀ q, q < 8 → ∀ o, o < 9 → T.1 (TA (S.2 q) + o) = S.1 (TA (S.2 q) + o) := fun q hq o ho => tx_ta hI hq f1 ho
  have cU : ∀ m o, o < 9 → U.1 (TA m + o) = T.1 (TA m + o) := fun m o ho => c1 _ (TA_lt _ o ho)
  have j1 : ∀ j, j ∉ [4, 5, 6, 7, 8, 15, 29] → U.1 128 j = S.1 128 j := fun j hj => by rw [f2.2.2 j hj, d1 128 (by omega)]
  -- the new family
  have eF : ∀ q, q ≠ r → (if q = r then n else nF q) = nF q ∧ (if q = r then ch else cF q) = cF q := fun q hq => ⟨if_neg hq, if_neg hq⟩
  have hqT : ∀ q, q < 8 → q ≠ r → T.2 q = S.2 q := fun q hq hne => g3 q hne (by omega) (by omega)
  have hTX : ∀ q, q < 8 → TX (fun q => if q = r then n else nF q) (fun q => if q = r then ch else cF q) (fun q => mtp (if q = r then ch else cF q)) q T := fun q hq => by
    by_cases w : q = r
    · obtain ⟨B, bn, fs, kp, ag, x1, x2, x3⟩ := hRdn.tx hn hz hc hWn
      refine ⟨B, bn, fs, kp, ag, ?_, ?_, ?_⟩
      · show TK (if q = r then n else nF q) B (if q = r then ch else cF q) (mtp (if q = r then ch else cF q)) bn fs kp ag
        rw [if_pos w, if_pos w]; exact x1
      · show TD (T.2 q) (if q = r then n else nF q) B (if q = r then ch else cF q) (mtp (if q = r then ch else cF q)) bn fs kp ag T
        rw [if_pos w, if_pos w, w, g1]; exact x2
      · show ∀ p, p < 32 → (bt (T.1 (TA (T.2 q)) 11) p = true ↔ p < 8 ∧ clb (if q = r then ch else cF q) p)
        rw [if_pos w, w, g1]; exact x3
    · obtain ⟨B, bn, fs, kp, ag, x1, x2, x3⟩ := (h.1.1.1 q hq).lo (U := T) (hqT q hq w) (hta q hq)
      refine ⟨B, bn, fs, kp, ag, ?_, ?_, ?_⟩
      · show TK (if q = r then n else nF q) B (if q = r then ch else cF q) (mtp (if q = r then ch else cF q)) bn fs kp ag
        rw [if_neg w, if_neg w]; exact x1
      · show TD (T.2 q) (if q = r then n else nF q) B (if q = r then ch else cF q) (mtp (if q = r then ch else cF q)) bn fs kp ag T
        rw [if_neg w, if_neg w]; exact x2
      · show ∀ p, p < 32 → (bt (T.1 (TA (T.2 q)) 11) p = true ↔ p < 8 ∧ clb (if q = r then ch else cF q) p)
        rw [if_neg w]; exact x3
  have hclS : ∀ q p, q < 8 → p < 8 → (bt (clS T q) p = true ↔ clb (if q = r then ch else cF q) p) := fun q p hq hp => by
    obtain ⟨B, bn, fs, kp, ag, _, _, x3⟩ := hTX q hq
    have := x3 p (by omega)
    exact this.trans ⟨fun z => z.2, fun z => ⟨hp, z⟩⟩
  -- who doesn't come to r
  have hne : ∀ q, ¬ cTo T r q → q ≠ r := fun q z w => z (Or.inl w)
  have hC : ∀ q p, q < 8 → p < 8 → ¬ cTo T r q → clb (cF q) p → ¬ cTo T r p := fun q p hq hp z w => by
    refine cTo_cl hr hq hp z ((hclS q p hq hp).mpr ?_)
    rw [if_neg (hne q z)]; exact w
  have hXs : ∀ x, x < 896 → ¬ cTo T r (x / 112) → Xs (Fx (fun q => if q = r then n else nF q) (fun q => if q = r then ch else cF q) (fun q => mtp (if q = r then ch else cF q)) ab) x = Xs (Fx nF cF (fun q => mtp (cF q)) ab) x := fun x hx hq => Xs_fam (C := fun q => ¬ cTo T r q) (fun q hq => (hWo q hq).1) hC (fun q _ hq => by
    refine ⟨if_neg (hne q hq), if_neg (hne q hq), ?_⟩
    show mtp (if q = r then ch else cF q) = mtp (cF q)
    rw [if_neg (hne q hq)]) 896 x hx hq
  obtain ⟨⟨b1, b2⟩, b3, b4, b5, b6, b7⟩ := hB
  obtain ⟨⟨o1, o2, ⟨X, o3, o4⟩, o5⟩, _, o6⟩ := h.1
  have hU2 : ∀ j, U.2 j = T.2 j := fun j => by rw [f2.1]
  refine ⟨fun q => if q = r then n else nF q, fun q => if q = r then ch else cF q, ab, ⟨⟨?_, ?_⟩, ?_, ⟨0, by omega, ?_, k3, fun i hi => absurd hi (by omega)⟩, ⟨?_, ?_⟩, fun q hq => ?_, fun q hq i hi => ?_⟩, ⟨⟨fun q hq => (hTX q hq).lo (hU2 q) (fun o ho => cU _ o ho), fun k j a b => by rw [e1 15 (by simp)]; exact o2 k j a b, ⟨X, o3, fun x hx => by rw [e1 19 (by simp)]; exact o4 x hx⟩, fun q hq hb => ?_⟩, ⟨fun q hq => ?_, fun q p hq hp e => ?_⟩, fun q hq hb => ?_⟩, ⟨fun q hq => ?_, ⟨?_, ?_⟩, Or.inl k4⟩⟩
  · unfold IK at *
    rw [e1 14 (by simp), e1 15 (by simp), d2 129 (by simp)]; exact b1
  · rw [e1 14 (by simp)]; exact b2
  · rw [e1 17 (by simp), d2 130 (by simp)]; exact b3
  · rw [c1 1 (by omega)]; exact g6
  · rw [c1 0 (by omega), g4, k1]
  · rw [c1 0 (by omega), g5, k2]
  · show TkF (U.2 q) (if q = r then n else nF q) (if q = r then ch else cF q) U
    by_cases w : q = r
    · rw [if_pos w, if_pos w, w, hU2, g1]
      unfold TkF
      rw [show U.1 (TA (S.2 8)) = T.1 (TA (S.2 8)) from cU _ 0 (by omega), cU _ 8 (by omega)]
      exact ⟨hRdn.1.2.2.2.1, hRdn.2.2.2.1, hRdn.1.2.2.2.2.2⟩
    · rw [if_neg w, if_neg w, hU2, hqT q hq w]
      have := b6 q hq
      unfold TkF at *
      rw [show U.1 (TA (S.2 q)) = T.1 (TA (S.2 q)) from cU _ 0 (by omega), cU _ 8 (by omega), show T.1 (TA (S.2 q)) = S.1 (TA (S.2 q)) from hta q hq 0 (by omega), hta q hq 8 (by omega)]
      exact this
  · have hi : i < (if q = r then n else nF q) := hi
    show U.1 132 (60 * q + i) = nI ((if q = r then ch else cF q) i)
    by_cases w : q = r
    · rw [if_pos w] at hi ⊢
      rw [w, k6 i hi]
      exact b8 (hWn.lq hi).2.1 (hch i hi)
    · rw [if_neg w] at hi ⊢
      have h60 := (hWo q hq).1.1
      rw [k7 _ (by omega), d1 132 (by omega)]
      exact b7 q hq i hi
  · rw [c1 0 (by omega)] at hb ⊢
    obtain ⟨y1, y2⟩ := (g7 q hq).mp hb
    obtain ⟨z1, z2⟩ := o5 q hq y1
    refine ⟨fun x hx => ?_, fun p hp hcl => ?_⟩
    · rw [e1 19 (by simp), z1 x hx, hXs x (by omega) (by rw [hx]; exact y2)]
    · have hcl : clb (if q = r then ch else cF q) p := hcl
      rw [if_neg (hne q y2)] at hcl
      exact (g7 p hp).mpr ⟨z2 p hp hcl, hC q p hq hp y2 hcl⟩
  · rw [hU2]
    by_cases w : q = r
    · rw [w, g1]; exact hI.1 8 (by omega)
    · by_cases w8 : q = 8
      · rw [w8, g2]; exact hI.1 r (by omega)
      · rw [g3 q w w8 (by omega)]; exact hI.1 q hq
  · rw [hU2, hU2] at e
    have sw : ∀ q, q < 9 → ∃ q', q' < 9 ∧ T.2 q = S.2 q' ∧ ((q = r ∧ q' = 8) ∨ (q = 8 ∧ q' = r) ∨ (q ≠ r ∧ q ≠ 8 ∧ q' = q)) := fun q hq => by
      by_cases w : q = r
      · exact ⟨8, by omega, by rw [w, g1], Or.inl ⟨w, rfl⟩⟩
      · by_cases w8 : q = 8
        · exact ⟨r, by omega, by rw [w8, g2], Or.inr (Or.inl ⟨w8, rfl⟩)⟩
        · exact ⟨q, hq, g3 q w w8 (by omega), Or.inr (Or.inr ⟨w, w8, rfl⟩)⟩
    obtain ⟨q', a1, a2, a3⟩ := sw q hq
    obtain ⟨p', b1, b2, b3⟩ := sw p hp
    rw [a2, b2] at e
    have := hI.2 q' p' a1 b1 e
    omega
  · rw [c1 0 (by omega)] at hb
    obtain ⟨y1, y2⟩ := (g8 q hq).mp hb
    have w := hne q y2
    have hold := o6 q hq y1
    show TrOK (U.2 q) (if q = r then n else nF q) (if q = r then ch else cF q) (mtp (if q = r then ch else cF q)) ab _ U
    rw [if_neg w, if_neg w, hU2, hqT q hq w]
    have hm := hold.mv (T := U) (by rw [cU _ 7 (by omega), hta q hq 7 (by omega)]) (by rw [cU _ 2 (by omega), hta q hq 2 (by omega)]) (by rw [show U.1 (TA (S.2 q)) = T.1 (TA (S.2 q)) from cU _ 0 (by omega), show T.1 (TA (S.2 q)) = S.1 (TA (S.2 q)) from hta q hq 0 (by omega)])
    exact hm.X (hWo q hq).1 (fun p hp hcl y z1 z2 => (hXs y (by omega) (by rw [show y / 112 = p by omega]; exact hC q p hq hp y2 hcl)).symm)
  · have hY := h.2.1 q hq
    show RY q (if q = r then n else nF q) (if q = r then ch else cF q) (mtp (if q = r then ch else cF q)) ab U
    by_cases w : q = r
    · rw [if_pos w, if_pos w]
      refine ⟨by rw [k5, if_pos w], fun i hi => ?_, fun x hx => ?_, ?_⟩
      · rw [w, k6 i hi, bp_b]; exact hch i hi
      · rw [w]
        refine k8 x ?_ hx
        rcases Nat.lt_or_ge x n with u | u
        · exact u
        · rw [hz x u] at hx; omega
      · rw [d2 129 (by simp)]
        exact hY.2.2.2
    · rw [if_neg w, if_neg w]
      have h60 := (hWo q hq).1.1
      obtain ⟨y1, y2, y3, y4⟩ := hY
      refine ⟨by rw [k5, if_neg w, d1 133 (by omega)]; exact y1, fun i hi => ?_, fun x hx => ?_, ?_⟩
      · rw [k7 _ (by omega), d1 132 (by omega)]; exact y2 i hi
      · have hx60 : x < nF q := by
          have := (hWo q hq).1.br hx
          omega
        rw [k9 _ (by omega), d1 134 (by omega)]; exact y3 x hx
      · rw [d2 129 (by simp)]; exact y4
  · rw [j1 19 (by decide)]; exact h.2.2.1.1
  · rw [j1 20 (by decide)]; exact h.2.2.1.2
theorem st_text (hN : 900000 < N) (hB : BI nF cF ab S) (h : CtX nF cF (fun q => mtp (cF q)) ab S) (a b : Int32) : ∃ v S1 S2, fX7_text N a b S = some (v, S1) ∧ fX8_text N a b S1 = some (v, S2) ∧ Inv S2 := by
  have hI : Inv S := ⟨nF, cF, ab, hB, h⟩
  obtain ⟨sz, s0, s1, s2, s3⟩ := hB.2.2.1
  rcases nI_cases a 8 (by decide) with ⟨r, hr, rfl⟩ | ha
  · have r8 : ¬ (8 : Int32) ≤ nI r := nI_ge (b := 8) (by omega) (by omega)
    by_cases b0 : b < 0
    · refine ⟨-1, S, S, ?_, ?_, hI⟩
      · unfold fX7_text
        rw [s_isRoutine1 N S hr]
        simp only [Option.bind_some, if_neg z10]
        rw [if_pos b0]
      · unfold fX8_text
        rw [if_neg (nI_pos (by omega)), if_neg r8, if_pos b0]
    · obtain ⟨n, hn', rfl⟩ := nI_nn b0
      by_cases n60 : n ≤ 60
      · have ge60 : ¬ (60 : Int32) < nI n := fun z => by have := (nI_ltI (a := 60) (b := n) (by omega) (by omega)).mp z; omega
        by_cases ns : n ≤ sz
        · -- the signs
          have hx : ∀ i, i < n → ∃ c, c < 256 ∧ S.1 2 i = nI c := fun i hi => by
            rw [s3 i (by omega)]; exact and255 _
          have hch : ∀ i, i < n → S.1 2 i = nI (if i < n then Int32.toNatClampNeg (S.1 2 i) else 0) := fun i hi => by
            obtain ⟨c, c1, c2⟩ := hx i hi
            rw [if_pos hi, c2, nI_cl (by omega)]
          have hz : ∀ q, n ≤ q → (if q < n then Int32.toNatClampNeg (S.1 2 q) else 0) = 0 := fun q hq => if_neg (by omega)
          have hc : ∀ i, (if i < n then Int32.toNatClampNeg (S.1 2 i) else 0) < 256 := fun i => by
            by_cases w : i < n
            · obtain ⟨c, c1, c2⟩ := hx i w
              rw [if_pos w, c2, nI_cl (by omega)]; exact c1
            · rw [if_neg w]; omega
          generalize hcd : (fun i => if i < n then Int32.toNatClampNeg (S.1 2 i) else 0) = ch at *
          have hce : ∀ i, (if i < n then Int32.toNatClampNeg (S.1 2 i) else 0) = ch i := fun i => by rw [← hcd]
          have hch : ∀ i, i < n → S.1 2 i = nI (ch i) := fun i hi => by rw [← hce i]; exact hch i hi
          have hz : ∀ q, n ≤ q → ch q = 0 := fun q hq => by rw [← hce q]; exact hz q hq
          have hc : ∀ i, ch i < 256 := fun i => by rw [← hce i]; exact hc i
          obtain ⟨res, hres, v, T, e1, t1⟩ := c_text (N := N) (r := r) (S := S) (by omega) hr n60 hz hc s0 ns s1 hch
          have dT : ∀ f : txF (S.2 8) S T, T.1 128 4 = nI sz ∧ ∀ i, i < n → T.1 131 i &&& 255 = nI (ch i) := fun f => by
            have d1 : ∀ c, 128 ≤ c → T.1 c = S.1 c := fun c hc => f.1 c (by omega) (by omega) (by omega) (fun o ho => by have := TA_lt (S.2 8) o ho; omega)
            refine ⟨by rw [d1 128 (by omega)]; exact s2, fun i hi => ?_⟩
            rw [d1 131 (by omega), ← s3 i (by omega)]; exact hch i hi
          cases res with
          | inr x =>
            obtain ⟨t2, t3⟩ := t1
            obtain ⟨y1, y2⟩ := dT t3.1
            obtain ⟨w, U, e2, u1, u2⟩ := r_text (N := N) (r := r) (S := T) (by omega) hr n60 hz hc s0 ns y1 y2 hres
            exact ⟨v, T, U, e1, by rw [e2, u1, t2], tx_neg hB h t3 u2⟩
          | inl j =>
            obtain ⟨t2, t3⟩ := t1
            by_cases w : j = n
            · obtain ⟨t4, t5⟩ := t2 w
              obtain ⟨y1, y2⟩ := dT t5.1
              obtain ⟨w', U, e2, u1, u2⟩ := r_text (N := N) (r := r) (S := T) (by omega) hr n60 hz hc s0 ns y1 y2 hres
              obtain ⟨u3, u4⟩ := u1 w
              exact ⟨v, T, U, e1, by rw [e2, u3, t4], tx_pos hr n60 hz hc (by rw [w] at hres; exact hres) y2 hB h t5 u4⟩
            · obtain ⟨t4, t5, t6, t7⟩ := t3 w
              obtain ⟨y1, y2⟩ := dT t7.1
              obtain ⟨w', U, e2, u1, u2⟩ := r_text (N := N) (r := r) (S := T) (by omega) hr n60 hz hc s0 ns y1 y2 hres
              obtain ⟨u3, u4⟩ := u2 t4 t5
              exact ⟨v, T, U, e1, by rw [e2, u3, t6], tx_neg hB h t7 u4⟩
        · refine ⟨-1, S, S, ?_, ?_, hI⟩
          · unfold fX7_text fX4_size
            rw [s_isRoutine1 N S hr]
            simp only [Option.bind_some, if_neg z10]
            rw [if_neg b0, if_neg ge60, s1, if_neg (nI_ge (by omega) (by omega))]
          · unfold fX8_text
            rw [if_neg (nI_pos (by omega)), if_neg r8, if_neg b0, if_neg ge60, s2, if_neg (nI_ge (by omega) (by omega))]
      · have ge60 : (60 : Int32) < nI n := (nI_ltI (a := 60) (b := n) (by omega) hn').mpr (by omega)
        refine ⟨-1, S, S, ?_, ?_, hI⟩
        · unfold fX7_text
          rw [s_isRoutine1 N S hr]
          simp only [Option.bind_some, if_neg z10]
          rw [if_neg b0, if_pos ge60]
        · unfold fX8_text
          rw [if_neg (nI_pos (by omega)), if_neg r8, if_neg b0, if_pos ge60]
  · refine ⟨-1, S, S, ?_, ?_, hI⟩
    · unfold fX7_text
      rw [s_isRoutine0 N S ha]
      simp only [Option.bind_some, if_pos]
    · unfold fX8_text
      by_cases w : a < 0
      · rw [if_pos w]
      · rw [if_neg w, if_pos (show (8 : Int32) ≤ a from ha.resolve_left w)]
end STX
