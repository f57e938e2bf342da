/-! ===== the first program's reader follows the pure one: a taking ===== -/
theorem skp_stay {ch mt : Nat → Nat} {c j : Nat} (h : ¬ ltr (ch (skp ch mt c j))) : ∀ d, skp ch mt (c + d) j = skp ch mt c j
  | 0 => rfl
  | d + 1 => by
    have ih := skp_stay h d
    rw [← Nat.add_assoc, skp_s, ih, if_neg h]
/-- a taker's letter and its block -/
theorem Pst.tl {m n : Nat} {ch : Nat → Nat} {tk : Bool} {o j k : Nat} {T V : St} (p : Pre m n ch tk o j T) (hT : Tkr ch j) (h : Pst m ch o (j + 1) k (st_i (st_i T (TA m + 8) (cT ch j) (nI j)) (TA m) 10 (nI (cT ch j + 1))) V) (hs : 3 * cT ch k + (j + 1) + 2 ≤ 3 * cT ch (j + 1) + k) : Pst m ch o j k T V := by
  obtain ⟨⟨b1, b2, b3, b4⟩, ⟨b5, b6, b7, b8⟩, b9, b10, b11, b12, b13, b14, b15⟩ := h
  have hl := hT.1
  have ec : cb ch (j + 1) = cb ch j := cb_n (by omega)
  have eT : cT ch (j + 1) = cT ch j + 1 := cT_y hT
  have hr : ∀ c, 0 < c → c ≠ 8 → (st_i (st_i T (TA m + 8) (cT ch j) (nI j)) (TA m) 10 (nI (cT ch j + 1))).1 (TA m + c) = T.1 (TA m + c) := fun c h0 hc => by rw [si_nx _ _ (by omega), si_nx _ _ (by omega)]
  have h0 : ∀ x, x ≠ 10 → (st_i (st_i T (TA m + 8) (cT ch j) (nI j)) (TA m) 10 (nI (cT ch j + 1))).1 (TA m) x = T.1 (TA m) x := fun x hx => by rw [si_ni _ _ hx, si_nx _ _ (by omega)]
  have h3 : (st_i (st_i T (TA m + 8) (cT ch j) (nI j)) (TA m) 10 (nI (cT ch j + 1))).1 3 = T.1 3 := by rw [si_nx _ _ (show 3 ≠ TA m from rdF_ne m (o := 0) (by omega)), si_nx _ _ (rdF_ne m (o := 8) (by omega))]
  have h8 : ∀ x, (st_i (st_i T (TA m + 8) (cT ch j) (nI j)) (TA m) 10 (nI (cT ch j + 1))).1 (TA m + 8) x = if x = cT ch j then nI j else T.1 (TA m + 8) x := fun x => by rw [si_nx _ _ (by omega), si_if]
  have hf : Fr (rdF m) T (st_i (st_i T (TA m + 8) (cT ch j) (nI j)) (TA m) 10 (nI (cT ch j + 1))) := ((Fr.refl _ T).i (by unfold rdF; simp)).i (by unfold rdF; simp)
  refine ⟨⟨hf.trans b1, b2.trans h3, b3.trans (h0 1 (by omega)), by omega⟩, ⟨b5, b6, by omega, by omega⟩, fun x hx => ?_, fun b hb => ?_, ?_, fun x hx => ?_, fun x hx => ?_, fun x x1 x2 x3 => ?_, fun x x1 x2 x3 => ?_⟩
  · rw [b9 x hx, h0 11 (by omega)]
    constructor
    · rintro (z | ⟨z, y, z1, z2, z3⟩)
      · exact Or.inl z
      · exact Or.inr ⟨z, y, by omega, z2, z3⟩
    · rintro (z | ⟨z, y, z1, z2, z3, z4⟩)
      · exact Or.inl z
      · refine Or.inr ⟨z, y, ?_, z2, z3, z4⟩
        rcases Nat.lt_or_ge j y with w | w
        · exact w
        · have : y = j := by omega
          subst this; omega
  · have := b10 b (by omega)
    rw [hr 3 (by omega) (by omega), hr 4 (by omega) (by omega), hr 5 (by omega) (by omega), hr 6 (by omega) (by omega)] at this
    exact this
  · rw [hr 5 (by omega) (by omega), hr 6 (by omega) (by omega)] at b11
    exact b11
  · rw [b12 x (by omega), hr 2 (by omega) (by omega)]
  · rw [b13 x (by omega), h8, if_neg (by omega)]
  · by_cases w : x = j
    · rw [w, b13 _ (by omega), h8, if_pos rfl]
    · exact b14 x (by omega) x2 x3
  · have w : x ≠ j := fun w => by rw [w] at x3; omega
    exact b15 x (by omega) x2 x3
theorem Pq.tl {m n : Nat} {ch : Nat → Nat} {tk : Bool} {o j : Nat} {T : St} (p : Pq m n ch tk o j T) (hT : Tkr ch j) : Pq m n ch tk o (j + 1) (st_i (st_i T (TA m + 8) (cT ch j) (nI j)) (TA m) 10 (nI (cT ch j + 1))) := by
  have hl := hT.1
  have ec : cb ch (j + 1) = cb ch j := cb_n (by omega)
  have eT : cT ch (j + 1) = cT ch j + 1 := cT_y hT
  have hr : ∀ c, 0 < c → c ≠ 8 → (st_i (st_i T (TA m + 8) (cT ch j) (nI j)) (TA m) 10 (nI (cT ch j + 1))).1 (TA m + c) = T.1 (TA m + c) := fun c h0 hc => by rw [si_nx _ _ (by omega), si_nx _ _ (by omega)]
  have h0 : ∀ x, x ≠ 10 → (st_i (st_i T (TA m + 8) (cT ch j) (nI j)) (TA m) 10 (nI (cT ch j + 1))).1 (TA m) x = T.1 (TA m) x := fun x hx => by rw [si_ni _ _ hx, si_nx _ _ (by omega)]
  refine ⟨⟨p.1.1.mv (((Fr.refl _ T).i (by unfold rdF; simp)).i (by unfold rdF; simp)) (h0 1 (by omega)), by rw [ec]; exact p.1.2.1, ?_, ?_, ?_⟩, ?_⟩
  · rw [h0 8 (by omega), ec]; exact p.1.2.2.1
  · rw [si_at, eT]
  · rw [hr 5 (by omega) (by omega)]; exact p.1.2.2.2.2
  · rw [hr 5 (by omega) (by omega)]; exact p.2
/-- behind a taking's block and some takers -/
def LIn (m n : Nat) (ch : Nat → Nat) (o a : Nat) (S : St) (j c : Nat) (T : St) : Prop := Pst m ch o a j S T ∧ GB ch a j ∧ SB m o (cb ch (a + 1)) T ∧ skp ch (mtp ch) c (mtp ch a + 1) = j ∧ (∀ r, r < c → ltr (ch (skp ch (mtp ch) r (mtp ch a + 1))) ∧ T.1 (TA m + 5) (cb ch (skp ch (mtp ch) r (mtp ch a + 1) + 1 + 1)) = nI (ch (skp ch (mtp ch) r (mtp ch a + 1)) - 65) ∧ skp ch (mtp ch) r (mtp ch a + 1) + 2 ≤ j) ∧ (2 * cb ch j + 1 ≤ j ∧ 3 * cT ch j + 3 ≤ j ∧ ch (j - 1) = 125 ∧ j ≤ n ∧ ch a = 123 ∧ a + 2 ≤ j)
theorem tak_bo {m : Nat} {ch : Nat → Nat} {o a j j' : Nat} {V : St} (hs6 : skp ch (mtp ch) 6 (mtp ch a + 1) = j) (hsb : SB m o (cb ch (a + 1)) V) (htk : ∀ r, r < 6 → ltr (ch (skp ch (mtp ch) r (mtp ch a + 1))) → V.1 (TA m + 5) (cb ch (skp ch (mtp ch) r (mtp ch a + 1) + 1 + 1)) = nI (ch (skp ch (mtp ch) r (mtp ch a + 1)) - 65)) (hz : ch j = 90 → SB m o (cb ch (j + 1 + 1)) V) : ∀ t, t + 1 = a → ch t = 84 → BO1 ch (V.1 (TA m + 5)) (V.1 (TA m + 6)) o t j' := by
  intro t ht h84
  subst ht
  refine ⟨fun w => by omega, fun q _ _ hs => ?_, fun p _ _ hs => ?_⟩
  · rcases hs with ⟨w, _⟩ | ⟨w, _⟩ | ⟨_, w | ⟨w1, w2⟩⟩
    · omega
    · omega
    · rw [w]; exact hsb
    · rw [hs6] at w1 w2
      rw [w2]; exact hz w1
  · obtain ⟨_, r, hr, hl, e⟩ := hs
    rw [e]; exact htk r hr hl
theorem LIn.tk {m n : Nat} {ch : Nat → Nat} {o a j c : Nat} {S T : St} (h : LIn m n ch o a S j c T) (hl : ¬ ltr (ch j)) (hc : c ≤ 6) : skp ch (mtp ch) 6 (mtp ch a + 1) = j ∧ ∀ r, r < 6 → ltr (ch (skp ch (mtp ch) r (mtp ch a + 1))) → r < c := by
  obtain ⟨h1, h2, h3, h4, h5, h6⟩ := h
  have hl' : ¬ ltr (ch (skp ch (mtp ch) c (mtp ch a + 1))) := by rw [h4]; exact hl
  refine ⟨?_, fun r hr hlr => ?_⟩
  · have := skp_stay hl' (6 - c)
    rw [show c + (6 - c) = 6 by omega] at this
    rw [this, h4]
  · rcases Nat.lt_or_ge r c with w | w
    · exact w
    · have := skp_stay hl' (r - c)
      rw [show c + (r - c) = r by omega] at this
      rw [this] at hlr
      exact absurd hlr hl'
theorem rd_lp {N m n d o a : Nat} {ch : Nat → Nat} {tk : Bool} {F : Nat → Int32 → Int32 → Int32 → Int32 → St → Option (Int32 × St)} {G : Nat → Bool → Rs} {S : St} (hn : n ≤ 60) (hz : ∀ q, n ≤ q → ch q = 0) (hc : ∀ i, ch i < 256) (hp : Pq m n ch tk o a S)
    (hF : ∀ k b e T, k ≤ 61 → Pq m n ch tk o k T → Bnd ch 2 k → ((b = false ∧ e = -1) ∨ (b = true ∧ ∃ k, k < 6 ∧ e = nI k)) → RdQ m ch 2 o e k T (G k b) (F 2 (nI k) (nI d) (nI o) e T))
    (ok : ∀ k b j, G k b = some (.inl j) → pOk n ch 2 k j) :
    ∀ mm j c T N', mm + c = 8 → c ≤ 6 → mm + 1 ≤ N' → LIn m n ch o a S j c T → RdQ m ch 3 o 0 a S (prL G ch tk mm j c) ((whl N' (bfX3_readTaking_13 F N (nI d) (nI o)) (nI j, nI c, T)).bind (l2_s (fun y9 => (if y9.1 = (-1) then fX3_readTaking_122 F N y9.1 y9.2.1 y9.2.2 else (fX5_at N (y9.2.2.2 9) y9.1 y9.2.2).bind (fun q12 => (if q12.1 = 90 then (F 2 (y9.1 + 1) (nI d) (nI o) (-1) q12.2).bind (fun q13 => some (q13.1, q13.2)) else fX3_readTaking_122 F N y9.1 y9.2.1 q12.2)))) (fun y10 => some (y10.1, y10.2))))
  | 0, j, c, T, N', h8, h6, _, _ => by omega
  | mm + 1, j, c, T, N', h8, h6, hN, hL => by
    obtain ⟨N', rfl⟩ : ∃ k, N' = k + 1 := ⟨N' - 1, by omega⟩
    have hL0 := hL
    obtain ⟨l1, l2, l3, l4, l5, l6, l7, l8, l9, l10, l11⟩ := hL
    have hpj := l1.pq hp
    have ho := hp.1.2.1
    have hoj := hpj.1.2.1
    have e9 : T.2 9 = m := hpj.1.1.1
    have ej : ¬ nI j = (-1 : Int32) := by rw [nI_m1 (by omega)]; exact id
    have e6 : ¬ (6 : Int32) < nI c := fun w => by have := (nI_ltI (a := 6) (b := c) (by omega) (by omega)).mp w; omega
    have ei : nI j + 1 = nI (j + 1) := nI_add j 1
    have eK := r_kindAt (N := N) hn hz hc hpj.1.1 (i := j) (by omega)
    have eA := r_at (N := N) hn hpj.1.1 (i := j) (by omega)
    have eP : prL G ch tk (mm + 1) j c = if ltr (ch j) then (if c = 6 then some (.inr (3, j)) else (match G (j + 1) true with
      | some (.inl j) => prL G ch tk mm j (c + 1)
      | some (.inr x) => some (.inr x)
      | none => none))
      else if ch j = 90 then G (j + 1) false else if c = 0 then some (.inr (1, j)) else some (.inl j) := rfl
    have hya := cb_y l10
    have hcaj := cb_mono (ch := ch) (show a + 1 ≤ j by omega)
    rw [eP]
    by_cases q : ltr (ch j)
    · rw [if_pos q]
      by_cases q6 : c = 6
      · rw [if_pos q6]
        show WP _ (fun z => Ref m (3, j) S z)
        obtain ⟨y, er, hr⟩ := r_refuse (N := N) (m := m) (S := T) 3 j
        have eb : bfX3_readTaking_13 F N (nI d) (nI o) (nI j, nI c, T) = some (.inr (.inr (y.1, y.2))) := by
          unfold bfX3_readTaking_13
          dsimp only
          rw [if_neg e6, if_neg ej, e9, eK]
          simp only [Option.bind_some]
          rw [if_pos q, if_neg (show ¬ nI (ch j - 65) = -1 by rw [nI_m1 (by omega)]; exact id), if_pos (show nI c = 6 by rw [q6]; rfl)]
          have er' : fX3_refuse N 3 (nI j) T = some y := er
          rw [er']
          rfl
        rw [whl_e eb]
        exact WP.eq rfl ⟨hr.1, l1.1.1.trans hr.2.1, hr.2.2⟩
      · rw [if_neg q6]
        have hT : Tkr ch j := ⟨q, by omega, l8⟩
        have hjn : j < n := by
          rcases Nat.lt_or_ge j n with w | w
          · exact w
          · rw [hz j w] at q; omega
        have hP1 := hpj.tl hT
        have ecj : cb ch (j + 1) = cb ch j := cb_n (by omega)
        have eTj : cT ch (j + 1) = cT ch j + 1 := cT_y hT
        have hR := hF (j + 1) true (nI (ch j - 65)) _ (by omega) hP1 (show 2 * cb ch (j + 1) + 1 ≤ j + 1 ∧ 3 * cT ch (j + 1) ≤ j + 1 from ⟨by omega, by omega⟩) (Or.inr ⟨rfl, ch j - 65, by omega, rfl⟩)
        have eK2 := r_kindAt (N := N) hn hz hc hP1.1.1 (i := j) (by omega)
        have e92 : (st_i (st_i T (TA m + 8) (cT ch j) (nI j)) (TA m) 10 (nI (cT ch j + 1))).2 9 = m := e9
        have eadd := r_addTaker (N := N) (m := m) (S := T) (p := j) hpj.1.2.2.2.1 (by omega)
        have hS : ∀ z, F 2 (nI (j + 1)) (nI d) (nI o) (nI (ch j - 65)) (st_i (st_i T (TA m + 8) (cT ch j) (nI j)) (TA m) 10 (nI (cT ch j + 1))) = some z → bfX3_readTaking_13 F N (nI d) (nI o) (nI j, nI c, T) = some (.inl (z.1, nI (c + 1), z.2)) := fun z hz' => by
          unfold bfX3_readTaking_13
          dsimp only
          rw [if_neg e6, if_neg ej, e9, eK]
          simp only [Option.bind_some]
          rw [if_pos q, if_neg (show ¬ nI (ch j - 65) = -1 by rw [nI_m1 (by omega)]; exact id), if_neg (show ¬ nI c = 6 from fun w => q6 ((nI_eq (a := c) (b := 6) (by omega) (by omega)).mp w)), e9, eadd]
          simp only [Option.bind_some]
          rw [e92, eK2]
          simp only [Option.bind_some]
          rw [if_pos q, ei, hz', show nI c + 1 = nI (c + 1) from nI_add c 1]
          rfl
        generalize hgT : st_i (st_i T (TA m + 8) (cT ch j) (nI j)) (TA m) 10 (nI (cT ch j + 1)) = T' at hP1 hR eK2 e92 eadd hS
        cases hG : G (j + 1) true with
        | none => exact trivial
        | some y =>
          rw [hG] at hR
          cases y with
          | inr x =>
            obtain ⟨z, e1, h2⟩ := hR
            obtain ⟨N'', rfl⟩ : ∃ k, N' = k + 1 := ⟨N' - 1, by omega⟩
            show WP _ (fun z => Ref m x S z)
            have eb : bfX3_readTaking_13 F N (nI d) (nI o) (-1, nI (c + 1), z.2) = some (.inr (.inl (-1, nI (c + 1), z.2))) := by
              unfold bfX3_readTaking_13
              dsimp only
              rw [if_neg (show ¬ (6 : Int32) < nI (c + 1) from fun w => by have := (nI_ltI (a := 6) (b := c + 1) (by omega) (by omega)).mp w; omega), if_pos rfl]
            rw [whl_s (hS z e1), h2.1, whl_e eb]
            refine WP.eq (y := (-1, z.2)) ?_ ⟨rfl, ?_, h2.2.2⟩
            · show (if (-1 : Int32) = -1 then fX3_readTaking_122 F N (-1) (nI (c + 1)) z.2 else (fX5_at N (z.2.2 9) (-1) z.2).bind (fun q12 => (if q12.1 = 90 then (F 2 (-1 + 1) (nI d) (nI o) (-1) q12.2).bind (fun q13 => some (q13.1, q13.2)) else fX3_readTaking_122 F N (-1) (nI (c + 1)) q12.2))) = _
              rw [if_pos rfl]
              unfold fX3_readTaking_122 fX3_readTaking_145
              rw [if_pos rfl]
            · refine l1.1.1.trans (Fr.trans ?_ h2.2.1)
              rw [← hgT]
              exact ((Fr.refl _ T).i (by unfold rdF; simp)).i (by unfold rdF; simp)
          | inl k =>
            obtain ⟨z, e1, h2, h3, h4⟩ := hR
            obtain ⟨k1, k2, k3, k4, k5, k6⟩ := ok _ _ _ hG
            obtain ⟨x1, x2, x3, x4⟩ := h4
            rw [← hgT] at h3
            have h3' := Pst.tl hpj.1 hT h3 x3
            have hgb : GB ch j k := (GB.one (by omega)).tr k3 (by omega)
            have hcyj := cb_y k4
            have w1 := h3'.2.1.2.2.1
            have es : skp ch (mtp ch) (c + 1) (mtp ch a + 1) = k := by
              rw [skp_s, l4, if_pos q, k5]
            rw [whl_s (hS z e1), h2]
            refine rd_lp hn hz hc hp hF ok mm k (c + 1) z.2 N' (by omega) (by omega) (by omega) ⟨l1.trans h3' ho l2, l2.tr hgb (by omega), l3.mv hcaj (by omega) hoj h3', es, fun r hr => ?_, by omega, by omega, x4, k1, l10, by omega⟩
            have hK := h3'.2.2.2.1
            rcases Nat.lt_or_ge r c with w | w
            · obtain ⟨y1, y2, y3⟩ := l5 r w
              refine ⟨y1, ?_, by omega⟩
              rw [(hK _ (cb_mono (by omega))).2.2.1]; exact y2
            · have : r = c := by omega
              subst this
              rw [l4]
              refine ⟨q, ?_, by omega⟩
              rw [x1, if_neg (by rw [nI_m1 (by omega)]; exact id)]
    · rw [if_neg q]
      obtain ⟨hs6, htk⟩ := hL0.tk q h6
      have eb : bfX3_readTaking_13 F N (nI d) (nI o) (nI j, nI c, T) = some (.inr (.inl (nI j, nI c, T))) := by
        unfold bfX3_readTaking_13
        dsimp only
        rw [if_neg e6, if_neg ej, e9, eK]
        simp only [Option.bind_some]
        rw [if_neg q, if_pos rfl]
      have e2 : (whl (N' + 1) (bfX3_readTaking_13 F N (nI d) (nI o)) (nI j, nI c, T)).bind (l2_s (fun y9 => (if y9.1 = (-1) then fX3_readTaking_122 F N y9.1 y9.2.1 y9.2.2 else (fX5_at N (y9.2.2.2 9) y9.1 y9.2.2).bind (fun q12 => (if q12.1 = 90 then (F 2 (y9.1 + 1) (nI d) (nI o) (-1) q12.2).bind (fun q13 => some (q13.1, q13.2)) else fX3_readTaking_122 F N y9.1 y9.2.1 q12.2)))) (fun y10 => some (y10.1, y10.2))) = if cA n ch j = 90 then F 2 (nI (j + 1)) (nI d) (nI o) (-1) T else fX3_readTaking_122 F N (nI j) (nI c) T := by
        rw [whl_e eb]
        show (if nI j = (-1) then fX3_readTaking_122 F N (nI j) (nI c) T else (fX5_at N (T.2 9) (nI j) T).bind (fun q12 => (if q12.1 = 90 then (F 2 (nI j + 1) (nI d) (nI o) (-1) q12.2).bind (fun q13 => some (q13.1, q13.2)) else fX3_readTaking_122 F N (nI j) (nI c) q12.2))) = _
        rw [if_neg ej, e9, eA]
        simp only [Option.bind_some]
        rw [bind_idp, ei]
      rw [e2]
      by_cases q90 : ch j = 90
      · rw [if_pos q90, if_pos (show cA n ch j = 90 from rA_y hz hc (k := 90) (by omega) (by omega) q90)]
        have hjn : j < n := by
          rcases Nat.lt_or_ge j n with w | w
          · exact w
          · rw [hz j w] at q90; omega
        have o1 : Pst m ch o j (j + 1) T T := Pst.lf hpj.1 1 (fun q' a' b' => by
          obtain rfl : q' = j := by omega
          exact ⟨by omega, fun z => q z.1, by omega⟩)
        have ecj : cb ch (j + 1) = cb ch j := cb_n (by omega)
        have eTj : cT ch (j + 1) = cT ch j := cT_n (fun z => q z.1)
        have o2 := l1.trans o1 ho l2
        have og := l2.tr (GB.one (ch := ch) (i := j) (by omega)) (by omega)
        refine RdQ.sq o2 ho og (hF (j + 1) false (-1) T (by omega) (o2.pq hp) (show 2 * cb ch (j + 1) + 1 ≤ j + 1 ∧ 3 * cT ch (j + 1) ≤ j + 1 from ⟨by omega, by omega⟩) (Or.inl ⟨rfl, rfl⟩)) (fun k V hr hP hE => ?_)
        have hK := hP.2.2.2.1
        refine tak_bo hs6 (l3.mv (j := j + 1) (by omega) (by omega) (by omega) hP) (fun r hr hlr => ?_) (fun _ => hE.sb hP (by omega))
        obtain ⟨y1, y2, y3⟩ := l5 r (htk r hr hlr)
        rw [(hK _ (cb_mono (by omega))).2.2.1]; exact y2
      · rw [if_neg q90, if_neg (show ¬ cA n ch j = 90 from rA_n hz hc (k := 90) (by omega) (by omega) q90)]
        unfold fX3_readTaking_122
        rw [if_neg ej]
        by_cases q0 : c = 0
        · rw [if_pos q0, if_pos (show nI c = 0 by rw [q0]; rfl)]
          show WP _ (fun z => Ref m (1, j) S z)
          exact WP.bnd (r_refuse (m := m) 1 j) (fun y hy => WP.eq rfl ⟨hy.1, l1.1.1.trans hy.2.1, hy.2.2⟩)
        · rw [if_neg q0, if_neg (show ¬ nI c = 0 from fun w => q0 ((nI_eq (a := c) (b := 0) (by omega) (by omega)).mp w))]
          exact WP.eq rfl ⟨rfl, l1, tak_bo hs6 l3 (fun r hr hlr => (l5 r (htk r hr hlr)).2.1) (fun w => absurd w q90)⟩
