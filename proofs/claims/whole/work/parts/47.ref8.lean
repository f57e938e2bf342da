/-! ===== the second program: a block, a text ===== -/
section R8
variable {N r n lo : Nat} {ch mt : Nat → Nat} {ab : Nat → Nat → Bool} {X : Nat → Nat} {τ : Nat → Nat → Nat → Nat → Nat} {μ : Nat → Nat → Nat → Prop} {S : St} {hb : Nat → Nat → Prop} {lb : Nat → Prop}
def mkA : List Nat := [142, 143, 144, 145, 146, 147]
theorem s_makes69 (hN : 60 < N) (hK : RK r n ch mt X) (hτ : ∀ sp tk s c, τ sp tk s c ≤ 1000) {l2 l3 l6 : Int32} {e tk : Nat} (he : e ≤ n) (hk : tk ≤ 6) : ∀ (m M p : Nat) (z : (Nat → Nat) × (Nat → Nat)) (S : St) (P : Prop), RX r n ch mt ab X S → RT r lo ch τ μ S → RM hb lb S → lo ≤ p → Wlk ch mt p e → e ≤ m + p → m < M → zle z → R4 145 eR z.1 S → Ro 147 z.2 S → S.1 128 28 = bP P →
    WP (whl M (bfX8_makes_69 N (nI r) l2 l3 (nI e) (nI tk) l6) (nI p, S)) (fun S' => FrJ [23, 28] mkA S S' ∧ R4 145 eR (wkr (un ch mt ab X τ tk) (nxt ch mt) m p e z).1 S' ∧ Ro 147 (wkr (un ch mt ab X τ tk) (nxt ch mt) m p e z).2 S' ∧ S'.1 128 28 = bP (P ∨ wme (un ch mt ab X τ tk) (mun hb lb ch mt ab τ μ tk) (nxt ch mt) m p e z))
  | m, 0, _, _, _, _, _, _, _, _, _, _, hM, _, _, _, _ => absurd hM (by omega)
  | 0, M + 1, p, z, S, P, hX, hT, hm, hlo, hw, hep, _, hz, h5, h7, hP => by
    have hpe : e ≤ p := by omega
    have h60 := hK.2.1.1
    have := hw.le hK.2.1
    refine WP.eq (whl_e (y := S) ?_) ⟨FrJ.refl _ _ _, h5, h7, by rw [hP]; exact bP_congr ⟨Or.inl, fun v => v.elim id (fun w => w.elim)⟩⟩
    unfold bfX8_makes_69
    exact if_pos (nI_le hpe (by omega))
  | m + 1, M + 1, p, z, S, P, hX, hT, hm, hlo, hw, hep, hM, hz, h5, h7, hP => by
    have h60 := hK.2.1.1
    rcases hw.cases with hpe | ⟨hpe, hs, hw'⟩
    · refine WP.eq (whl_e (y := S) ?_) ⟨FrJ.refl _ _ _, ?_, ?_, ?_⟩
      · unfold bfX8_makes_69
        exact if_pos (nI_le (by omega) (by omega))
      · show R4 145 eR (if p < e then _ else z).1 S
        rw [if_neg (by omega)]; exact h5
      · show Ro 147 (if p < e then _ else z).2 S
        rw [if_neg (by omega)]; exact h7
      · rw [hP]
        exact bP_congr ⟨Or.inl, fun v => v.elim id (fun w => absurd w.1 (by omega))⟩
    · have hnx := nxt_ok hK.2.1 hs
      obtain ⟨S1, e1, a1, a2, a3, a4⟩ := s_passes hN hK hX hT hm hτ hlo hs hpe he hk hz h5 h7 hP
      have a1' : FrJ [23, 28] mkA S S1 := a1
      have hX1 := hX.mv a1 ⟨by decide, by decide, by decide, by decide, by decide⟩
      have hT1 := hT.mv a1 ⟨by decide, by decide⟩
      have hm1 := hm.mv a1
      obtain ⟨y, e2, b1, b2, b3, b4⟩ := s_statement hN hK hX1 hT1 hm1 hτ hlo hs hpe he (tk := 0) (t := 0) (by omega) (by omega)
      have b2' : FrJ [23, 28] mkA S1 y.2 := (b2.mono (by decide)).wid (by decide)
      have hstep : bfX8_makes_69 N (nI r) l2 l3 (nI e) (nI tk) l6 (nI p, S) = some (.inl (nI (nxt ch mt p), y.2)) := by
        unfold bfX8_makes_69
        rw [if_neg (show ¬ nI e ≤ nI p from nI_ge hpe (by omega)), e1]
        simp only [Option.bind_some]
        rw [show (fX8_statement N (nI r) (nI p) 0 0 S1) = some y from e2]
        simp only [Option.bind_some]
        rw [b1]
      rw [whl_s hstep]
      refine (s_makes69 hN hK hτ he hk m M (nxt ch mt p) (wst (un ch mt ab X τ tk p) z) y.2 (P ∨ ∃ t, t < 4 ∧ z.1 t < 1000 ∧ mun hb lb ch mt ab τ μ tk p t) (hX1.mv b2 ⟨by decide, by decide, by decide, by decide, by decide⟩) (hT1.mv b2 ⟨by decide, by decide⟩) (hm1.mv b2) (by omega) hw' (by omega) (by omega) (wst_le hz) (fun v hv => by rw [b2.2.1 145 (by decide) (by decide)]; exact a2 v hv) (fun x h4 hx => by rw [b2.2.1 147 (by decide) (by decide)]; exact a3 x h4 hx) (by rw [b2.2.2 28 (by decide)]; exact a4)).imp (fun T g => ⟨(a1'.trans b2').trans g.1, ?_, ?_, ?_⟩)
      · show R4 145 eR (if p < e then _ else z).1 T
        rw [if_pos hpe]; exact g.2.1
      · show Ro 147 (if p < e then _ else z).2 T
        rw [if_pos hpe]; exact g.2.2.1
      · rw [g.2.2.2]
        refine bP_congr ⟨fun v => ?_, fun v => ?_⟩
        · rcases v with (v | v) | v
          · exact Or.inl v
          · exact Or.inr ⟨hpe, Or.inl v⟩
          · exact Or.inr ⟨hpe, Or.inr v⟩
        · rcases v with v | ⟨_, v | v⟩
          · exact Or.inl (Or.inl v)
          · exact Or.inl (Or.inr v)
          · exact Or.inr v
/-- the tables but for one place -/
def Off (r sp : Nat) (S T : St) : Prop := (∀ y, (y < (61 * r + sp) * 896 ∨ (61 * r + sp + 1) * 896 ≤ y) → T.1 139 y = S.1 139 y) ∧ ∀ y, (y < sp * 28 ∨ (sp + 1) * 28 ≤ y) → T.1 140 y = S.1 140 y
theorem Off.refl (r sp : Nat) (S : St) : Off r sp S S := ⟨fun _ _ => rfl, fun _ _ => rfl⟩
theorem Off.trans {r sp : Nat} {S T U : St} (h : Off r sp S T) (k : Off r sp T U) : Off r sp S U := ⟨fun y hy => (k.1 y hy).trans (h.1 y hy), fun y hy => (k.2 y hy).trans (h.2 y hy)⟩
theorem Off.of {r sp : Nat} {J A : List Nat} {S T : St} (f : FrJ J A S T) (hA : 139 ∉ A ∧ 140 ∉ A) : Off r sp S T := ⟨fun y _ => by rw [f.2.1 139 hA.1 (by decide)], fun y _ => by rw [f.2.1 140 hA.2 (by decide)]⟩
theorem ET.off {sp sp' tk t : Nat} {T : St} (h : ET r sp' tk t τ μ S) (o : Off r sp S T) (hne : sp' ≠ sp) (hk : tk ≤ 6) (ht : t < 4) : ET r sp' tk t τ μ T := by
  refine ⟨fun x hx => ?_, ?_⟩
  · rw [o.1 _ (by omega)]; exact h.1 x hx
  · rw [o.2 _ (by omega)]; exact h.2
theorem RT.off {sp : Nat} {T : St} (h : RT r sp ch τ μ S) (o : Off r sp S T) : RT r sp ch τ μ T := fun sp' h1 h2 tk s h3 h4 => (h sp' h1 h2 tk s h3 h4).off o (by omega) h3 h4
theorem s_makes152 (hN : 60 < N) (hr : r < 8) {sp tk s : Nat} (hsp : sp ≤ 60) (hk : tk ≤ 6) (hs : s < 4) {l3 l4 : Int32} {f : Nat → Nat} (h7 : Rr 147 f S) : WP (fX8_makes_152 N (nI r) (nI sp) l3 l4 (nI tk) (nI s) (nI 0, S)) (fun S' => FrJ [23, 28] [139] S S' ∧ (∀ x, x < 32 → S'.1 139 ((61 * r + sp) * 896 + (tk * 4 + s) * 32 + x) = eR (f (co x))) ∧ ∀ y, (y < (61 * r + sp) * 896 + (tk * 4 + s) * 32 ∨ (61 * r + sp) * 896 + (tk * 4 + s) * 32 + 32 ≤ y) → S'.1 139 y = S.1 139 y) := by
  let B := (61 * r + sp) * 896 + (tk * 4 + s) * 32
  let J : Nat → St → Prop := fun m T => FrJ [23, 28] [139] S T ∧ (∀ x, x < m → x < 32 → T.1 139 (B + x) = eR (f (co x))) ∧ ∀ y, (y < B ∨ B + 32 ≤ y) → T.1 139 y = S.1 139 y
  unfold fX8_makes_152
  refine (dbl (A := 8) (B := 4) (bi := fun o => bfX8_makes_162 N (nI r) (nI sp) l3 l4 (nI tk) (nI s) o) J (by omega) (by omega) (by omega) (by omega) (fun _ => rfl) (fun o T => ?_) (fun o u T ho hu hJ => ?_) 0 (by omega) ⟨FrJ.refl _ _ _, fun x hx => absurd hx (by omega), fun _ _ => rfl⟩).imp (fun T g => ⟨g.1, fun x hx => g.2.1 x hx hx, g.2.2⟩)
  · exact if_pos (show (4 : Int32) ≤ nI 4 by decide)
  · show WP (bfX8_makes_162 N (nI r) (nI sp) l3 l4 (nI tk) (nI s) (nI o) (nI u, T)) _
    obtain ⟨j1, j2, j3⟩ := hJ
    unfold bfX8_makes_162 fX8_cell
    refine WP.no (nI_ge (a := u) (b := 4) hu (by omega)) ?_
    simp only [Option.bind_some, nI_x4, nI_x8, nI_x61, nI_x896, nI_add]
    refine WP.ix (by omega) (by omega) (WP.ix (by omega) (by omega) (WP.ret ⟨_, by rw [nI_1], j1.i (by decide) (by decide), fun x hx hx2 => ?_, fun y hy => ?_⟩))
    · rw [nI_cl (by omega), nI_cl (by omega), si_if]
      by_cases q : x = o * 4 + u
      · rw [if_pos (show B + x = (61 * r + sp) * 896 + (((tk * 4 + s) * 8 + o) * 4 + u) by show (61 * r + sp) * 896 + (tk * 4 + s) * 32 + x = _; omega), j1.2.1 147 (by decide) (by decide), q]
        exact h7 _ (by omega)
      · rw [if_neg (show ¬ B + x = (61 * r + sp) * 896 + (((tk * 4 + s) * 8 + o) * 4 + u) by show ¬ (61 * r + sp) * 896 + (tk * 4 + s) * 32 + x = _; omega)]
        exact j2 x (by omega) hx2
    · rw [nI_cl (by omega), nI_cl (by omega), si_if, if_neg]
      · exact j3 y hy
      · have : y < (61 * r + sp) * 896 + (tk * 4 + s) * 32 ∨ (61 * r + sp) * 896 + (tk * 4 + s) * 32 + 32 ≤ y := hy
        omega
theorem s_makes (hN1 : 100 < N) (hK : RK r n ch mt X) (hτ : ∀ sp tk s c, τ sp tk s c ≤ 1000) {sp : Nat} (hsp : spt ch sp) (hX : RX r n ch mt ab X S) (hT : RT r sp ch τ μ S) (hM : RM hb lb S) : WP (fX8_makes N (nI r) (nI sp) (nI sp) (nI (enp n mt sp)) S) (fun S' => FrJ [23, 28] (139 :: 140 :: mkA) S S' ∧ Off r sp S S' ∧ ∀ tk s, tk ≤ 6 → s < 4 → ET r sp tk s (rowT ch mt ab n X τ) (rowM hb lb ch mt ab n X τ μ) S') := by
  have hN : 60 < N := by omega
  have h60 := hK.2.1.1
  have hsp60 := spt_le hK.2.1 hsp
  obtain ⟨hw, hen⟩ := hK.2.1.sp hsp
  have hpe := hw.le hK.2.1
  unfold fX8_makes
  let J : Nat → St → Prop := fun k T => FrJ [23, 28] (139 :: 140 :: mkA) S T ∧ Off r sp S T ∧ ∀ tk s, tk * 4 + s < k → s < 4 → ET r sp tk s (rowT ch mt ab n X τ) (rowM hb lb ch mt ab n X τ μ) T
  refine WP.bnd (P := J 28) ?_ (fun y hy => WP.ret ⟨hy.1, hy.2.1, fun tk s h1 h2 => hy.2.2 tk s (by omega) h2⟩)
  unfold fX8_makes_3
  refine WP.fr1 7 N (fun tk T => J (tk * 4) T) (by omega) ?_ ?_ 0 (by omega) ⟨FrJ.refl _ _ _, Off.refl _ _ _, fun tk s h => absurd h (by omega)⟩
  · intro tk T htk hJ
    unfold bfX8_makes_3
    refine WP.no (nI_nlt (a := 6) (b := tk) (by omega) (by omega)) ?_
    refine WP.bnd (P := fun T' => J ((tk + 1) * 4) T') ?_ (fun y hy => WP.ret ⟨y, by rw [nI_1], hy⟩)
    unfold fX8_makes_13
    refine WP.fr1 4 N (fun s T' => J (tk * 4 + s) T') (by omega) ?_ ?_ 0 (by omega) hJ
    · rintro s T1 hs ⟨j1, j2, j3⟩
      unfold bfX8_makes_13
      refine WP.no (nI_ge (a := s) (b := 4) hs (by omega)) ?_
      refine WP.bnd (s_clears N hN (a := 147) rfl T1) (fun T2 g2 => ?_)
      generalize hT3 : st_i T2 128 28 0 = T3
      have f3 : FrJ [23, 28] mkA T1 T3 := by rw [← hT3]; exact ((g2.1.R (by decide)).mono (by decide)).m (by decide)
      have hP3 : T3.1 128 28 = bP False := by rw [← hT3, si_at, bP_0 id]
      have h73 : Rr 147 (fun _ => 1000) T3 := fun x hx => by rw [← hT3, si_nx _ _ (by decide)]; exact g2.2 x hx
      refine WP.bnd (P := fun T4 => FrJ [23, 28] mkA T3 T4 ∧ T4.1 128 28 = bP False ∧ Rr 147 (fun _ => 1000) T4 ∧ R4 145 eR (un1 s) T4) ?_ (fun T4 g4 => ?_)
      · unfold fX8_makes_34
        refine WP.fr1 4 N (fun u T => FrJ [23, 28] mkA T3 T ∧ T.1 128 28 = bP False ∧ Rr 147 (fun _ => 1000) T ∧ ∀ v, v < u → T.1 145 v = eR (un1 s v)) (by omega) ?_ ?_ 0 (by omega) ⟨FrJ.refl _ _ _, hP3, h73, fun v hv => absurd hv (by omega)⟩
        · rintro u T hu ⟨t1, t2, t3, t4⟩
          unfold bfX8_makes_34 fX8_makes_59
          refine WP.no (nI_ge (a := u) (b := 4) hu (by omega)) ?_
          have key : ∀ v : Int32, v = eR (un1 s u) → WP (if nI u < 0 ∨ 4 ≤ Int32.toNatClampNeg (nI u) then none else some (.inl ((nI u + 1), (st_i T 145 (Int32.toNatClampNeg (nI u)) v))) : Option ((Int32 × St) ⊕ St)) (fun z => ∃ S', z = .inl (nI (u + 1), S') ∧ FrJ [23, 28] mkA T3 S' ∧ S'.1 128 28 = bP False ∧ Rr 147 (fun _ => 1000) S' ∧ ∀ v, v < u + 1 → S'.1 145 v = eR (un1 s v)) := by
            intro v hv
            refine WP.ix hu (by omega) (WP.ret ⟨_, by rw [nI_1, nI_cl (by omega)], t1.i (by decide) (by decide), by rw [si_nx _ _ (by decide)]; exact t2, fun x hx => by rw [si_nx _ _ (by decide)]; exact t3 x hx, fun x hx => ?_⟩)
            rw [si_if]
            by_cases q : x = u
            · rw [if_pos q, hv, q]
            · rw [if_neg q]; exact t4 x (by omega)
          by_cases q : u = s
          · refine WP.yes (by rw [q]) (key 0 ?_)
            unfold un1; rw [if_pos q]; rfl
          · refine WP.no (fun z => q ((nI_eq (by omega) (by omega)).mp z)) (key 100000 ?_)
            unfold un1; rw [if_neg q]; rfl
        · rintro T ⟨t1, t2, t3, t4⟩
          unfold bfX8_makes_34
          exact WP.yes (show (4 : Int32) ≤ nI 4 by decide) (WP.ret ⟨_, rfl, t1, t2, t3, t4⟩)
      have f4 : FrJ [23, 28] mkA T1 T4 := f3.trans g4.1
      have f04 : FrJ [23, 28] (139 :: 140 :: mkA) S T4 := j1.trans (f4.mono (by decide))
      have hX4 := hX.mv f04 ⟨by decide, by decide, by decide, by decide, by decide⟩
      have o4 : Off r sp S T4 := j2.trans (Off.of f4 ⟨by decide, by decide⟩)
      have hT4 := hT.off o4
      refine WP.bnd (P := fun T5 => FrJ [23, 28] mkA T4 T5 ∧ R4 145 eR (wkr (un ch mt ab X τ tk) (nxt ch mt) 61 sp (enp n mt sp) (z0 s)).1 T5 ∧ Ro 147 (wkr (un ch mt ab X τ tk) (nxt ch mt) 61 sp (enp n mt sp) (z0 s)).2 T5 ∧ T5.1 128 28 = bP (False ∨ rowM hb lb ch mt ab n X τ μ sp tk s)) ?_ (fun T5 g5 => ?_)
      · unfold fX8_makes_69
        exact s_makes69 (e := enp n mt sp) (tk := tk) hN hK hτ (by omega) (by omega) 61 N sp (z0 s) T4 False hX4 hT4 (hM.mv f04) (Nat.le_refl _) hw (by omega) (by omega) (z0_le s) g4.2.2.2 (fun x h4 hx => g4.2.2.1 x hx) g4.2.1
      -- the ends
      refine WP.bnd (P := fun T6 => FrJ [23, 28] mkA T5 T6 ∧ T6.1 128 28 = T5.1 128 28 ∧ Rr 147 (fun c => rowT ch mt ab n X τ sp tk s c) T6) ?_ (fun T6 g6 => ?_)
      · unfold fX8_makes_102
        refine WP.fr1 4 N (fun u T => FrJ [23, 28] mkA T5 T ∧ T.1 128 28 = T5.1 128 28 ∧ T.1 145 = T5.1 145 ∧ (∀ v, v < u → T.1 147 v = T5.1 145 v) ∧ ∀ x, 4 ≤ x → T.1 147 x = T5.1 147 x) (by omega) ?_ ?_ 0 (by omega) ⟨FrJ.refl _ _ _, rfl, rfl, fun v hv => absurd hv (by omega), fun _ _ => rfl⟩
        · rintro u T hu ⟨t1, t2, t3, t4, t5⟩
          unfold bfX8_makes_102
          refine WP.no (nI_ge (a := u) (b := 4) hu (by omega)) (WP.ix hu (by omega) (WP.ix (by omega) (by omega) (WP.ret ⟨_, by rw [nI_1, nI_cl (by omega)], t1.i (by decide) (by decide), by rw [si_nx _ _ (by decide)]; exact t2, by rw [si_nx _ _ (by decide)]; exact t3, fun v hv => ?_, fun x hx => ?_⟩)))
          · rw [si_if]
            by_cases q : v = u
            · rw [if_pos q, q, t3]
            · rw [if_neg q]; exact t4 v (by omega)
          · rw [si_ni _ _ (by omega)]; exact t5 x hx
        · rintro T ⟨t1, t2, t3, t4, t5⟩
          unfold bfX8_makes_102
          refine WP.yes (show (4 : Int32) ≤ nI 4 by decide) (WP.ret ⟨_, rfl, t1, t2, fun x hx => ?_⟩)
          show _ = eR (rsr (wkr (un ch mt ab X τ tk) (nxt ch mt) 61 sp (enp n mt sp) (z0 s)) (co x))
          by_cases q : x < 4
          · rw [t4 x q, g5.2.1 x q]
            have : co x = x := by unfold co; rw [if_pos q]
            unfold rsr; rw [this, if_pos q]
          · rw [t5 x (by omega), g5.2.2.1 x (by omega) hx]
            have : ¬ co x < 4 := by unfold co; rw [if_neg q]; split <;> omega
            unfold rsr; rw [if_neg this]
      try dsimp only
      rw [nI_x7, nI_add, nI_x4, nI_add]
      refine WP.ix (by omega) (by omega) ?_
      rw [nI_cl (by omega)]
      generalize hT7 : st_i T6 140 ((sp * 7 + tk) * 4 + s) (T6.1 128 28 &&& 1) = T7
      have f57 : FrJ [23, 28] (139 :: 140 :: mkA) T1 T7 := by
        rw [← hT7]
        exact (((f4.trans g5.1).trans g6.1).mono (by decide)).i (by decide) (by decide)
      have o7 : Off r sp T1 T7 := by
        refine (Off.of ((f4.trans g5.1).trans g6.1) ⟨by decide, by decide⟩).trans ⟨fun y _ => by rw [← hT7, si_nx _ _ (by decide)], fun y hy => ?_⟩
        rw [← hT7, si_ni _ _ (by omega)]
      refine WP.bnd (s_makes152 hN hK.1 hsp60 (show tk ≤ 6 by omega) hs (S := T7) (fun x hx => by rw [← hT7, si_nx _ _ (by decide)]; exact g6.2.2 x hx)) (fun T8 g8 => WP.ret ⟨T8, by rw [nI_1], ?_, ?_, ?_⟩)
      · exact (j1.trans f57).trans (g8.1.mono (by decide))
      · have o8 : Off r sp T7 T8 := by
          constructor
          · intro y hy
            have hkk : tk * 4 + s < 28 := by omega
            refine g8.2.2 y ?_
            rcases hy with hy | hy
            · exact Or.inl (Nat.lt_of_lt_of_le hy (Nat.le_add_right _ _))
            · right; omega
          · intro y _
            rw [g8.1.2.1 140 (by decide) (by decide)]
        exact (j2.trans o7).trans o8
      · intro tk' s' hlt hs'
        by_cases q : tk' * 4 + s' = tk * 4 + s
        · obtain rfl : tk' = tk := by omega
          obtain rfl : s' = s := by omega
          refine ⟨g8.2.1, ?_⟩
          rw [g8.1.2.1 140 (by decide) (by decide), ← hT7, si_at, g6.2.1, g5.2.2.2, bP_and1]
          exact bP_congr ⟨fun v => v.elim False.elim id, Or.inr⟩
        · have h1 := j3 tk' s' (by omega) hs'
          refine ⟨fun x hx => ?_, ?_⟩
          · rw [g8.2.2 _ (by omega), ← hT7, si_nx _ _ (by decide), g6.1.2.1 139 (by decide) (by decide), g5.1.2.1 139 (by decide) (by decide), f4.2.1 139 (by decide) (by decide)]
            exact h1.1 x hx
          · rw [g8.1.2.1 140 (by decide) (by decide), ← hT7, si_ni _ _ (by omega), g6.1.2.1 140 (by decide) (by decide), g5.1.2.1 140 (by decide) (by decide), f4.2.1 140 (by decide) (by decide)]
            exact h1.2
    · intro T1 hJ1
      unfold bfX8_makes_13
      refine WP.yes (show (4 : Int32) ≤ nI 4 by decide) (WP.ret ⟨_, rfl, ?_⟩)
      rw [show (tk + 1) * 4 = tk * 4 + 4 by omega]; exact hJ1
  · intro T hJ
    unfold bfX8_makes_3
    exact WP.yes (show (6 : Int32) < nI 7 by decide) (WP.ret ⟨_, rfl, hJ⟩)
theorem s_goes (hN1 : 100 < N) (hK : RK r n ch mt X) (hX : RX r n ch mt ab X S) (hM : RM hb lb S) : WP (fX8_goesThrough N (nI r) S) (fun S' => FrJ [23, 28] (139 :: 140 :: mkA) S S' ∧ ∀ sp tk s, spt ch sp → tk ≤ 6 → s < 4 → ET r sp tk s (Tab ch mt ab n X) (Mtb hb lb ch mt ab n X) S') := by
  have hN : 60 < N := by omega
  have h60 := hK.2.1.1
  have hτ : ∀ sp tk s c, Tab ch mt ab n X sp tk s c ≤ 1000 := Tab_le X
  unfold fX8_goesThrough
  refine WP.ix hK.1 (by omega) ?_
  have hr := hK.1
  rw [nI_cl (by omega), hX.1]
  let I : Nat → St → Prop := fun i T => FrJ [23, 28] (139 :: 140 :: mkA) S T ∧ RT r i ch (Tab ch mt ab n X) (Mtb hb lb ch mt ab n X) T
  have mk : ∀ (sp : Nat) (T : St), spt ch sp → I sp T → WP (fX8_makes N (nI r) (nI sp) (nI sp) (nI (enp n mt sp)) T) (fun T' => FrJ [23, 28] (139 :: 140 :: mkA) S T' ∧ ∀ sp', sp ≤ sp' → spt ch sp' → ∀ tk s, tk ≤ 6 → s < 4 → ET r sp' tk s (Tab ch mt ab n X) (Mtb hb lb ch mt ab n X) T') := by
    rintro sp T hsp ⟨i1, i2⟩
    refine (s_makes hN1 hK hτ hsp (hX.mv i1 ⟨by decide, by decide, by decide, by decide, by decide⟩) i2 (hM.mv i1)).imp (fun T' g => ⟨i1.trans g.1, fun sp' h1 h2 tk s h3 h4 => ?_⟩)
    by_cases q : sp' = sp
    · subst q
      have h5 := g.2.2 tk s h3 h4
      unfold ET at h5 ⊢
      rw [Tab_eq hK.2.1 X h2, Mtb_eq hK.2.1 X h2]
      exact h5
    · exact (i2 sp' (by omega) h2 tk s h3 h4).off g.2.1 q h3 h4
  refine WP.bnd (P := fun S' => FrJ [23, 28] (139 :: 140 :: mkA) S S' ∧ ∀ sp tk s, spt ch sp → tk ≤ 6 → s < 4 → ET r sp tk s (Tab ch mt ab n X) (Mtb hb lb ch mt ab n X) S') ?_ (fun y hy => WP.ret hy)
  have loop : ∀ (i M : Nat) (T : St), i ≤ n → i < M → I i T → WP (whl M (bfX8_goesThrough_9 N (nI r)) (nI i - 1, T)) (fun S' => FrJ [23, 28] (139 :: 140 :: mkA) S S' ∧ ∀ sp tk s, spt ch sp → tk ≤ 6 → s < 4 → ET r sp tk s (Tab ch mt ab n X) (Mtb hb lb ch mt ab n X) S') := by
    intro i
    induction i with
    | zero =>
      intro M T _ hM' hI
      obtain ⟨M', rfl⟩ : ∃ M', M = M' + 1 := ⟨M - 1, by omega⟩
      obtain ⟨T', e1, g1, g2⟩ := mk 0 T (Or.inl rfl) hI
      have hs : bfX8_goesThrough_9 N (nI r) (nI 0 - 1, T) = some (.inr T') := by
        unfold bfX8_goesThrough_9
        rw [if_pos (show nI 0 - 1 < 0 by decide), if_neg (nI_in hr (by omega)), nI_cl (by omega), hI.1.2.1 133 (by decide) (by decide), hX.1]
        have : enp n mt 0 = n := if_pos rfl
        rw [this] at e1
        rw [show fX8_makes N (nI r) 0 0 (nI n) T = some T' from e1]
        rfl
      exact WP.eq (whl_e hs) ⟨g1, fun sp tk s h1 h2 h3 => g2 sp (Nat.zero_le _) h1 tk s h2 h3⟩
    | succ i ih =>
      intro M T hin hM' hI
      obtain ⟨M', rfl⟩ : ∃ M', M = M' + 1 := ⟨M - 1, by omega⟩
      have hX' := hX.mv hI.1 ⟨by decide, by decide, by decide, by decide, by decide⟩
      rw [nI_pred]
      have hm1 : nI i + (-1) = nI i - 1 := by rw [Int32.sub_eq_add_neg]
      by_cases q : ch i = 123
      · have hbr := hK.2.1.br q
        have hsp : spt ch (i + 1) := Or.inr ⟨by rw [Nat.add_sub_cancel]; exact q, by omega⟩
        obtain ⟨T', e1, g1, g2⟩ := mk (i + 1) T hsp hI
        have hs : bfX8_goesThrough_9 N (nI r) (nI i, T) = some (.inl (nI i - 1, T')) := by
          unfold bfX8_goesThrough_9 fX8_goesThrough_41
          rw [if_neg (nI_pos (by omega)), s_signOf hK hX' (show i < 1000 by omega)]
          simp only [Option.bind_some]
          rw [if_pos (show nI (ch i) = 123 by rw [q]; rfl), s_shutOf hK hX' q]
          simp only [Option.bind_some]
          have : enp n mt (i + 1) = mt i := by unfold enp; rw [if_neg (by omega), Nat.add_sub_cancel]
          rw [this] at e1
          rw [nI_1, e1, hm1]
          rfl
        rw [whl_s hs]
        exact ih M' T' (by omega) (by omega) ⟨g1, fun sp' h1 h2 tk s h3 h4 => g2 sp' (by omega) h2 tk s h3 h4⟩
      · have hs : bfX8_goesThrough_9 N (nI r) (nI i, T) = some (.inl (nI i - 1, T)) := by
          unfold bfX8_goesThrough_9 fX8_goesThrough_41
          rw [if_neg (nI_pos (by omega)), s_signOf hK hX' (show i < 1000 by omega)]
          simp only [Option.bind_some]
          rw [if_neg (show ¬ nI (ch i) = 123 from nI_nq (hK.2.2.1 i) (k := 123) (by omega) q), hm1]
        rw [whl_s hs]
        refine ih M' T (by omega) (by omega) ⟨hI.1, fun sp' h1 h2 tk s h3 h4 => hI.2 sp' ?_ h2 tk s h3 h4⟩
        rcases h2 with h2 | ⟨h2, _⟩
        · omega
        · by_cases w : sp' = i + 1
          · subst w; rw [Nat.add_sub_cancel] at h2; exact absurd h2 q
          · omega
  unfold fX8_goesThrough_9
  refine loop n N S (Nat.le_refl _) (by omega) ⟨FrJ.refl _ _ _, fun sp h1 h2 => ?_⟩
  rcases h2 with h2 | ⟨h2, h3⟩
  · omega
  · rw [hK.2.1.2.1 (sp - 1) (by omega)] at h2
    omega
end R8
