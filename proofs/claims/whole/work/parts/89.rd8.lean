/-! ===== the first program's reader follows the pure one: statements, a block ===== -/
def Ref (m : Nat) (x : Nat × Nat) (S : St) (z : Int32 × St) : Prop := z.1 = -1 ∧ Fr (rdF m) S z.2 ∧ z.2.1 3 1 = nI x.1 ∧ z.2.1 3 2 = nI x.2
def Ext (m : Nat) (ch : Nat → Nat) (mode o : Nat) (e : Int32) (i j : Nat) (S T : St) : Prop := match mode with
  | 0 => BOk ch (T.1 (TA m + 5)) (T.1 (TA m + 6)) o i j
  | 1 => BO1 ch (T.1 (TA m + 5)) (T.1 (TA m + 6)) o i j
  | 2 => T.1 (TA m + 5) (cb ch (i + 1)) = (if e = -1 then S.1 (TA m + 5) o else e) ∧ (e = -1 → T.1 (TA m + 6) (cb ch (i + 1)) = 1 → T.1 (TA m + 6) o = 1) ∧ 3 * cT ch j + i + 2 ≤ 3 * cT ch i + j ∧ ch (j - 1) = 125
  | _ => ∀ t, t + 1 = i → ch t = 84 → BO1 ch (T.1 (TA m + 5)) (T.1 (TA m + 6)) o t j
def RdQ (m : Nat) (ch : Nat → Nat) (mode o : Nat) (e : Int32) (i : Nat) (S : St) (r : Rs) (f : Option (Int32 × St)) : Prop := match r with
  | some (.inl j) => WP f (fun z => z.1 = nI j ∧ Pst m ch o i j S z.2 ∧ Ext m ch mode o e i j S z.2)
  | some (.inr x) => WP f (fun z => Ref m x S z)
  | none => True
def Bnd (ch : Nat → Nat) (mode i : Nat) : Prop := match mode with
  | 0 => 2 * cb ch i ≤ i ∧ 3 * cT ch i ≤ i
  | 1 => 2 * cb ch i ≤ i ∧ 3 * cT ch i ≤ i
  | 2 => 2 * cb ch i + 1 ≤ i ∧ 3 * cT ch i ≤ i
  | _ => 2 * cb ch i + 1 ≤ i ∧ 3 * cT ch i + 1 ≤ i
/-- the state before a place, with the keeper of its block -/
def Pq (m n : Nat) (ch : Nat → Nat) (tk : Bool) (o i : Nat) (S : St) : Prop := Pre m n ch tk o i S ∧ (S.1 (TA m + 5) o = -1 ∨ ∃ k, k < 6 ∧ S.1 (TA m + 5) o = nI k)
theorem Pst.pq {m n : Nat} {ch : Nat → Nat} {tk : Bool} {o i j : Nat} {S T : St} (h : Pst m ch o i j S T) (p : Pq m n ch tk o i S) : Pq m n ch tk o j T := by
  refine ⟨h.pre p.1, ?_⟩
  rw [(h.2.2.2.1 o p.1.2.1).2.2.1]; exact p.2
theorem RdQ.sq {m : Nat} {ch : Nat → Nat} {mode mode' o : Nat} {e e' : Int32} {i k : Nat} {S U : St} {r : Rs} {f : Option (Int32 × St)} (h1 : Pst m ch o i k S U) (ho : o ≤ cb ch i) (hG : GB ch i k) (h : RdQ m ch mode' o e' k U r f) (hx : ∀ j V, r = some (.inl j) → Pst m ch o k j U V → Ext m ch mode' o e' k j U V → Ext m ch mode o e i j S V) : RdQ m ch mode o e i S r f := by
  match r, h, hx with
  | none, _, _ => exact trivial
  | some (.inr x), h, _ => exact WP.imp h (fun z hz => ⟨hz.1, h1.1.1.trans hz.2.1, hz.2.2⟩)
  | some (.inl j), h, hx => exact WP.imp h (fun z hz => ⟨hz.1, h1.trans hz.2.1 ho hG, hx j z.2 rfl hz.2.1 hz.2.2⟩)
theorem BO1.mv {m : Nat} {ch : Nat → Nat} {o i p j k : Nat} {U V : St} (h : BO1 ch (U.1 (TA m + 5)) (U.1 (TA m + 6)) o p j) (hp : i ≤ p) (hij : i ≤ j) (ho : o ≤ cb ch i) (hP : Pst m ch o j k U V) : BO1 ch (V.1 (TA m + 5)) (V.1 (TA m + 6)) o p j := by
  have hK := hP.2.2.2.1
  have hc := cb_mono (ch := ch) hij
  refine h.st hp (fun b h1 h2 => ⟨(hK b h2).2.2.1, (hK b h2).2.2.2 (by omega)⟩) (hK o (by omega)).2.2.1 (fun z => ?_)
  rcases hP.2.2.2.2.1 with w | ⟨w, _⟩
  · rw [w]; exact z
  · exact w
theorem rA_y {n : Nat} {ch : Nat → Nat} {i k : Nat} (hz : ∀ q, n ≤ q → ch q = 0) (hc : ∀ i, ch i < 256) (hk : 0 < k) (hk2 : k < 256) (h : ch i = k) : cA n ch i = nI k := (rA_is hz hc hk hk2).mpr h
theorem rA_n {n : Nat} {ch : Nat → Nat} {i k : Nat} (hz : ∀ q, n ≤ q → ch q = 0) (hc : ∀ i, ch i < 256) (hk : 0 < k) (hk2 : k < 256) (h : ch i ≠ k) : ¬ cA n ch i = nI k := fun w => h ((rA_is hz hc hk hk2).mp w)
theorem rd_sts {N m n d o : Nat} {ch : Nat → Nat} {tk : Bool} {F : Nat → Int32 → Int32 → Int32 → Int32 → St → Option (Int32 × St)} {G : Nat → Rs} (hn : n ≤ 60) (hz : ∀ q, n ≤ q → ch q = 0) (hc : ∀ i, ch i < 256)
    (hF : ∀ i T, i < n → Pq m n ch tk o i T → Bnd ch 1 i → RdQ m ch 1 o 0 i T (G i) (F 1 (nI i) (nI d) (nI o) 0 T)) (ok : ∀ i j, i < n → G i = some (.inl j) → pOk n ch 1 i j) :
    ∀ mm i T N', i ≤ n → mm ≤ 60 → mm + 2 ≤ N' → Pq m n ch tk o i T → Bnd ch 0 i → RdQ m ch 0 o 0 i T (prS G n ch mm i) (whl N' (bfX3_readStatements_6 F N (nI d) (nI o)) (nI i, nI (60 - mm), T))
  | 0, i, T, N', hi, hm, hN, hp, hb => by
    obtain ⟨N', rfl⟩ : ∃ k, N' = k + 1 := ⟨N' - 1, by omega⟩
    show WP _ (fun z : Int32 × St => z.1 = nI i ∧ Pst m ch o i i T z.2 ∧ BOk ch (z.2.1 (TA m + 5)) (z.2.1 (TA m + 6)) o i i)
    refine WP.eq (y := (nI i, T)) (whl_e ?_) ⟨rfl, Pst.lf hp.1 0 (fun q a b => by omega), BOk.nil (Nat.le_refl _)⟩
    unfold bfX3_readStatements_6
    exact if_pos (show (60 : Int32) ≤ nI 60 from nI_le (a := 60) (b := 60) (by omega) (by omega))
  | mm + 1, i, T, N', hi, hm, hN, hp, hb => by
    obtain ⟨N', rfl⟩ : ∃ k, N' = k + 1 := ⟨N' - 1, by omega⟩
    have ec : nI (60 - (mm + 1)) + 1 = nI (60 - mm) := by
      rw [show 60 - mm = 60 - (mm + 1) + 1 by omega]; exact nI_add _ 1
    have eP : prS G n ch (mm + 1) i = if i < n ∧ ch i ≠ 125 then (match G i with
      | some (.inl j) => prS G n ch mm j
      | some (.inr x) => some (.inr x)
      | none => none) else some (.inl i) := rfl
    have e60 : ¬ (60 : Int32) ≤ nI (60 - (mm + 1)) := nI_ge (b := 60) (by omega) (by omega)
    have em1 : ¬ nI i = (-1 : Int32) := by rw [nI_m1 (by omega)]; exact id
    have eL : fX5_length N m T = some (nI n, T) := by unfold fX5_length; rw [hp.1.1.2.1]
    have e9 : T.2 9 = m := hp.1.1.1
    have hR : ∀ c U, bfX3_readStatements_6 F N (nI d) (nI o) (-1, c, U) = some (.inr (-1, U)) := fun c U => by
      unfold bfX3_readStatements_6
      dsimp only
      by_cases w : (60 : Int32) ≤ c
      · rw [if_pos w]
      · rw [if_neg w, if_pos rfl]
    rw [eP]
    by_cases q : i < n ∧ ch i ≠ 125
    · rw [if_pos q]
      have hS : ∀ z, F 1 (nI i) (nI d) (nI o) 0 T = some z → bfX3_readStatements_6 F N (nI d) (nI o) (nI i, nI (60 - (mm + 1)), T) = some (.inl (z.1, nI (60 - mm), z.2)) := fun z hz' => by
        unfold bfX3_readStatements_6
        dsimp only
        rw [if_neg e60, if_neg em1, e9, eL]
        simp only [Option.bind_some]
        rw [if_neg (nI_ge q.1 (by omega)), e9, r_at hn hp.1.1 (by omega)]
        simp only [Option.bind_some]
        rw [if_neg (show ¬ cA n ch i = 125 from rA_n hz hc (k := 125) (by omega) (by omega) q.2), hz', ec]
        rfl
      have h1 := hF i T q.1 hp hb
      cases hG : G i with
      | none => exact trivial
      | some y =>
        rw [hG] at h1
        cases y with
        | inr x =>
          obtain ⟨z, e1, h2⟩ := h1
          obtain ⟨N'', rfl⟩ : ∃ k, N' = k + 1 := ⟨N' - 1, by omega⟩
          show WP _ (fun z => Ref m x T z)
          rw [whl_s (hS z e1), h2.1]
          exact WP.eq (whl_e (hR _ _)) ⟨rfl, h2.2⟩
        | inl j =>
          obtain ⟨z, e1, h2, h3, h4⟩ := h1
          have hk := ok i j q.1 hG
          obtain ⟨k1, k2, k3, k4, k5, k6⟩ := hk
          have h4 : BO1 ch (z.2.1 (TA m + 5)) (z.2.1 (TA m + 6)) o i j := h4
          obtain ⟨hb1, hb2⟩ : 2 * cb ch i ≤ i ∧ 3 * cT ch i ≤ i := hb
          have w1 := h3.2.1.2.2.1
          have w2 := h3.2.1.2.2.2
          rw [whl_s (hS z e1), h2]
          refine RdQ.sq h3 hp.1.2.1 k3 (rd_sts hn hz hc hF ok mm j z.2 N' k1 (by omega) (by omega) (h3.pq hp) (show 2 * cb ch j ≤ j ∧ 3 * cT ch j ≤ j from ⟨by omega, by omega⟩)) (fun k V hr hP hE => ?_)
          show BOk ch (V.1 (TA m + 5)) (V.1 (TA m + 6)) o i k
          have hE : BOk ch (V.1 (TA m + 5)) (V.1 (TA m + 6)) o j k := hE
          have h5 := h4.mv (Nat.le_refl i) (by omega) hp.1.2.1 hP
          rw [← k6] at h5 hE
          exact BOk.cons (h5.wd k) hE
    · rw [if_neg q]
      show WP _ (fun z : Int32 × St => z.1 = nI i ∧ Pst m ch o i i T z.2 ∧ BOk ch (z.2.1 (TA m + 5)) (z.2.1 (TA m + 6)) o i i)
      refine WP.eq (y := (nI i, T)) (whl_e ?_) ⟨rfl, Pst.lf hp.1 0 (fun q a b => by omega), BOk.nil (Nat.le_refl _)⟩
      unfold bfX3_readStatements_6
      dsimp only
      rw [if_neg e60, if_neg em1, e9, eL]
      simp only [Option.bind_some]
      by_cases w : i < n
      · rw [if_neg (nI_ge w (by omega)), e9, r_at hn hp.1.1 (by omega)]
        simp only [Option.bind_some]
        have w2 : ch i = 125 := by
          rcases Nat.decEq (ch i) 125 with g | g
          · exact absurd ⟨w, g⟩ q
          · exact g
        rw [if_pos (show cA n ch i = 125 from rA_y hz hc (k := 125) (by omega) (by omega) w2)]
      · rw [if_pos (nI_le (by omega) (by omega))]
theorem rd_blk {N m n d o i : Nat} {ch : Nat → Nat} {tk kd : Bool} {e : Int32} {F : Nat → Int32 → Int32 → Int32 → Int32 → St → Option (Int32 × St)} {r : Rs} {S : St} (hn : n ≤ 60) (hz : ∀ q, n ≤ q → ch q = 0) (hc : ∀ i, ch i < 256) (hp : Pq m n ch tk o i S) (hi : i ≤ 61) (hd : d ≤ 8) (hb : Bnd ch 2 i) (he : (kd = false ∧ e = -1) ∨ (kd = true ∧ ∃ k, k < 6 ∧ e = nI k))
    (hF : ∀ T, i + 1 ≤ n → d < 8 → Pq m n ch (kd || tk) (cb ch (i + 1)) (i + 1) T → Bnd ch 0 (i + 1) → RdQ m ch 0 (cb ch (i + 1)) 0 (i + 1) T r (F 0 (nI (i + 1)) (nI (d + 1)) (nI (cb ch (i + 1))) 0 T))
    (ok : ∀ j, i + 1 ≤ n → r = some (.inl j) → pOk n ch 0 (i + 1) j) :
    RdQ m ch 2 o e i S (if ch i = 123 then (if d < 8 then (match r with
        | some (.inl e) => if ch e = 125 then some (.inl (e + 1)) else some (.inr (1, e))
        | some (.inr x) => some (.inr x)
        | none => none) else some (.inr (2, i))) else some (.inr (1, i))) (fX3_readBlock F N (nI i) (nI d) (nI o) e S) := by
  have e9 : S.2 9 = m := hp.1.1.1
  obtain ⟨hb1, hb2⟩ : 2 * cb ch i + 1 ≤ i ∧ 3 * cT ch i ≤ i := hb
  have eA := r_at (N := N) hn hp.1.1 (i := i) (by omega)
  by_cases q : ch i = 123
  · have hin : i < n := by
      rcases Nat.lt_or_ge i n with w | w
      · exact w
      · rw [hz i w] at q; omega
    rw [if_pos q]
    by_cases q8 : d < 8
    · rw [if_pos q8]
      have hB := hp.1.2.2.1
      have ho := hp.1.2.1
      have eF : fX3_readBlock F N (nI i) (nI d) (nI o) e S = fX3_readBlock_59 F N (nI i) (nI d) (nI o) e m (nI (i + 1)) (if e = -1 then S.1 (TA m + 5) o else e) S := by
        unfold fX3_readBlock
        rw [e9, eA]
        simp only [Option.bind_some]
        rw [if_pos (show cA n ch i = 123 from rA_y hz hc (k := 123) (by omega) (by omega) q), if_pos (show nI d < 8 from (nI_ltI (a := d) (b := 8) (by omega) (by omega)).mpr q8), show nI i + 1 = nI (i + 1) from nI_add i 1, e9]
        by_cases w : e = -1
        · rw [if_pos w, if_pos w, r_keeper hB (by omega) (by omega)]
          rfl
        · rw [if_neg w, if_neg w]
      rw [eF]
      have hkk : ((if e = -1 then S.1 (TA m + 5) o else e) = -1 ↔ (kd || tk) = false) := by
        rcases he with ⟨h1, h2⟩ | ⟨h1, k, h2, h3⟩
        · rw [if_pos h2, h1, Bool.false_or]; exact hp.1.2.2.2.2
        · rw [h3, if_neg (by rw [nI_m1 (by omega)]; exact id), h1, nI_m1 (by omega)]; simp
      have hk6 : (if e = -1 then S.1 (TA m + 5) o else e) = -1 ∨ ∃ k, k < 6 ∧ (if e = -1 then S.1 (TA m + 5) o else e) = nI k := by
        rcases he with ⟨h1, h2⟩ | ⟨h1, k, h2, h3⟩
        · rw [if_pos h2]; exact hp.2
        · rw [h3, if_neg (by rw [nI_m1 (by omega)]; exact id)]; exact Or.inr ⟨k, h2, rfl⟩
      have hkS : e = -1 → (if e = -1 then S.1 (TA m + 5) o else e) = S.1 (TA m + 5) o := fun w => if_pos w
      generalize hgk : (if e = -1 then S.1 (TA m + 5) o else e) = kk at hkk hk6 hkS ⊢
      have ey := cb_y q
      have eT : cT ch (i + 1) = cT ch i := cT_n (fun z => by have := z.1; omega)
      obtain ⟨z1, eo, h1, hO⟩ := r_open (N := N) (m := m) (S := S) (B := 1 + cb ch i) (f := i + 1) kk hB (by omega) (by omega) (by omega)
      have hO : Opn m (1 + cb ch i) (i + 1) kk S z1.2 := hO
      have hP1 : Pq m n ch (kd || tk) (cb ch (i + 1)) (i + 1) z1.2 := by
        refine ⟨hO.pre hp.1 q hkk, ?_⟩
        rw [hO.2.2.2.2.2.2.2.1, show cb ch (i + 1) = 1 + cb ch i by omega, up_at]; exact hk6
      have hR := hF z1.2 (by omega) q8 hP1 (show 2 * cb ch (i + 1) ≤ i + 1 ∧ 3 * cT ch (i + 1) ≤ i + 1 from ⟨by omega, by omega⟩)
      unfold fX3_readBlock_59
      rw [eo]
      simp only [Option.bind_some]
      rw [h1, show nI i + 1 = nI (i + 1) from nI_add i 1, show nI d + 1 = nI (d + 1) from nI_add d 1, show 1 + cb ch i = cb ch (i + 1) by omega]
      match r, hR, ok with
      | none, _, _ => exact trivial
      | some (.inr x), hR, _ =>
        obtain ⟨z2, e2, h2⟩ := hR
        show WP _ (fun z => Ref m x S z)
        rw [e2]
        simp only [Option.bind_some]
        rw [if_pos h2.1]
        exact WP.ret ⟨rfl, hO.1.trans h2.2.1, h2.2.2⟩
      | some (.inl e'), hR, ok =>
        obtain ⟨z2, e2, h2, h3, h4⟩ := hR
        have h4 : BOk ch (z2.2.1 (TA m + 5)) (z2.2.1 (TA m + 6)) (cb ch (i + 1)) (i + 1) e' := h4
        obtain ⟨k1, k2, k3, k4⟩ := ok e' (by omega) rfl
        have hP2 := h3.pre hP1.1
        have e92 : z2.2.2 9 = m := hP2.1.1
        have w1 := h3.2.1.2.2.1
        have w2 := h3.2.1.2.2.2
        have w3 := h3.1.2.2.2
        have hcm := cb_mono (ch := ch) w3
        have eA2 := r_at (N := N) hn hP2.1 (i := e') (by omega)
        have em2 : ¬ z2.1 = -1 := by rw [h2, nI_m1 (by omega)]; exact id
        show RdQ m ch 2 o e i S (if ch e' = 125 then some (.inl (e' + 1)) else some (.inr (1, e'))) _
        rw [e2]
        simp only [Option.bind_some]
        rw [if_neg em2, e92, h2, eA2]
        simp only [Option.bind_some]
        by_cases qe : ch e' = 125
        · rw [if_pos qe, if_pos (show cA n ch e' = 125 from rA_y hz hc (k := 125) (by omega) (by omega) qe), e92, r_close (nI e') hP2.2.2.1 (by omega) (by omega)]
          simp only [Option.bind_some]
          have hm := mtp_b (q := i) k2 qe (by omega)
          obtain ⟨hPb, hP5⟩ := Pst.bk hp.1 q hO h3 h4 qe hm hk6
          have ecT : cT ch (e' + 1) = cT ch e' := cT_n (fun z => by have := z.1; omega)
          have ecb : cb ch (e' + 1) = cb ch e' := cb_n (by omega)
          have hNB := hPb.2.2.2.2.2.2.2.2 i (by omega) (by omega) q
          obtain ⟨n1, n2, n3, n4, n5, n6⟩ := hNB
          have e93 : (st_i z2.2 (TA m + 4) (cb ch (i + 1)) (nI e')).2 9 = m := e92
          have r5 : (st_i z2.2 (TA m + 4) (cb ch (i + 1)) (nI e')).1 (TA m + 5) = z2.2.1 (TA m + 5) := si_nx _ _ (by omega)
          have hB2 := hPb.2.1.1
          have ho2 := hPb.2.2.2.1
          generalize hgU : st_i z2.2 (TA m + 4) (cb ch (i + 1)) (nI e') = U at *
          have hU5 : U.1 (TA m + 5) (cb ch (i + 1)) = kk := by rw [r5]; exact hP5
          show WP _ (fun z : Int32 × St => z.1 = nI (e' + 1) ∧ Pst m ch o i (e' + 1) S z.2 ∧ (z.2.1 (TA m + 5) (cb ch (i + 1)) = (if e = -1 then S.1 (TA m + 5) o else e) ∧ (e = -1 → z.2.1 (TA m + 6) (cb ch (i + 1)) = 1 → z.2.1 (TA m + 6) o = 1) ∧ 3 * cT ch (e' + 1) + i + 2 ≤ 3 * cT ch i + (e' + 1) ∧ ch (e' + 1 - 1) = 125))
          rw [hgk, Nat.add_sub_cancel]
          have fin : ∀ V, Pst m ch o i (e' + 1) S V → V.1 (TA m + 5) (cb ch (i + 1)) = kk → (e = -1 → V.1 (TA m + 6) (cb ch (i + 1)) = 1 → V.1 (TA m + 6) o = 1) → WP (fX3_readBlock_145 F N (nI e') V) (fun z => z.1 = nI (e' + 1) ∧ Pst m ch o i (e' + 1) S z.2 ∧ (z.2.1 (TA m + 5) (cb ch (i + 1)) = kk ∧ (e = -1 → z.2.1 (TA m + 6) (cb ch (i + 1)) = 1 → z.2.1 (TA m + 6) o = 1) ∧ 3 * cT ch (e' + 1) + i + 2 ≤ 3 * cT ch i + (e' + 1) ∧ ch e' = 125)) := fun V v1 v2 v3 => by
            unfold fX3_readBlock_145
            exact WP.ret ⟨nI_add e' 1, v1, v2, v3, by omega, qe⟩
          by_cases w : e = -1
          · rw [if_pos w, e93]
            have h01 : U.1 (TA m + 6) (cb ch (i + 1)) = 0 ∨ U.1 (TA m + 6) (cb ch (i + 1)) = 1 := n5.imp id And.left
            rw [r_again (by omega) h01]
            simp only [Option.bind_some]
            rcases n5 with g | ⟨g, g2⟩
            · rw [if_pos g]
              exact fin U hPb hU5 (fun _ y => by rw [g] at y; exact absurd y (by decide))
            · rw [if_neg (by rw [g]; decide), e93, r_mark hB2 (by omega) (by omega)]
              simp only [Option.bind_some]
              have hne : cb ch (i + 1) ≠ o := by omega
              refine fin _ (hPb.mk hp.1 ?_) ?_ (fun _ _ => si_at _ _ _ _)
              · rw [← hkS w, ← hU5]; exact g2
              · rw [si_nx _ _ (by omega)]; exact hU5
          · rw [if_neg w]
            exact fin U hPb hU5 (fun y => absurd y w)
        · rw [if_neg qe, if_neg (show ¬ cA n ch e' = 125 from rA_n hz hc (k := 125) (by omega) (by omega) qe)]
          show WP _ (fun z => Ref m (1, e') S z)
          refine WP.bnd (r_refuse (m := m) 1 e') (fun y hy => WP.ret ⟨hy.1, (hO.1.trans h3.1.1).trans hy.2.1, hy.2.2⟩)
    · rw [if_neg q8]
      show WP _ (fun z => Ref m (2, i) S z)
      unfold fX3_readBlock
      rw [e9, eA]
      simp only [Option.bind_some]
      rw [if_pos (show cA n ch i = 123 from rA_y hz hc (k := 123) (by omega) (by omega) q), if_neg (show ¬ nI d < 8 from fun w => q8 ((nI_ltI (a := d) (b := 8) (by omega) (by omega)).mp w))]
      exact WP.bnd (r_refuse (m := m) 2 i) (fun y hy => WP.ret hy)
  · rw [if_neg q]
    show WP _ (fun z => Ref m (1, i) S z)
    unfold fX3_readBlock
    rw [e9, eA]
    simp only [Option.bind_some]
    rw [if_neg (show ¬ cA n ch i = 123 from rA_n hz hc (k := 123) (by omega) (by omega) q)]
    exact WP.bnd (r_refuse (m := m) 1 i) (fun y hy => WP.ret hy)
