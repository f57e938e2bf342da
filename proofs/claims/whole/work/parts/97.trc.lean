/-! ===== the first program's tracer: the small parts ===== -/
noncomputable def kb (ag : Nat → Prop) (b k : Nat) : Nat := @ite Nat (ag b) (Classical.propDecidable _) k 0
theorem kb_y {ag : Nat → Prop} {b : Nat} (k : Nat) (h : ag b) : kb ag b k = k := by unfold kb; rw [if_pos h]
theorem kb_n {ag : Nat → Prop} {b : Nat} (k : Nat) (h : ¬ ag b) : kb ag b k = 0 := by unfold kb; rw [if_neg h]
theorem kb_lt {ag : Nat → Prop} {b k : Nat} (h : k < 6) : kb ag b k < 6 := by unfold kb; split <;> omega
def TrF (m : Nat) (S T : St) : Prop := T.2 = S.2 ∧ (∀ c, c ∉ [36, 46, TA m, TA m + 7] → T.1 c = S.1 c) ∧ (∀ j, j ≠ 12 → T.1 (TA m) j = S.1 (TA m) j) ∧ ∀ j, j ≠ 5 → T.1 36 j = S.1 36 j
theorem TrF.refl (m : Nat) (S : St) : TrF m S S := ⟨rfl, fun _ _ => rfl, fun _ _ => rfl, fun _ _ => rfl⟩
theorem TrF.trans {m : Nat} {S T U : St} (h : TrF m S T) (k : TrF m T U) : TrF m S U := ⟨k.1.trans h.1, fun c hc => (k.2.1 c hc).trans (h.2.1 c hc), fun j hj => (k.2.2.1 j hj).trans (h.2.2.1 j hj), fun j hj => (k.2.2.2 j hj).trans (h.2.2.2 j hj)⟩
theorem trf_ne (m : Nat) {c : Nat} (hc : c ∈ nT) (h36 : c ≠ 36) (h46 : c ≠ 46) : c ∉ [36, 46, TA m, TA m + 7] := fun q => by
  have h0 : TA m ≠ c := TA_ne m 0 (by omega) hc
  have h7 : TA m + 7 ≠ c := TA_ne m 7 (by omega) hc
  simp only [List.mem_cons, List.not_mem_nil, or_false] at q
  omega
theorem trf_row (m : Nat) {o : Nat} (h0 : 0 < o) (h7 : o < 7) : TA m + o ∉ [36, 46, TA m, TA m + 7] := fun q => by
  have h1 : TA m + o ≠ 36 := TA_ne m o (by omega) (by simp)
  have h2 : TA m + o ≠ 46 := TA_ne m o (by omega) (by simp)
  simp only [List.mem_cons, List.not_mem_nil, or_false] at q
  omega
section TC
variable {N m n B : Nat} {ch mt bn fs kp : Nat → Nat} {ag : Nat → Prop} {ab : Nat → Nat → Bool} {X : Nat → Nat} {S : St}
theorem TrF.td {T : St} (f : TrF m S T) (h : TD m n B ch mt bn fs kp ag S) : TD m n B ch mt bn fs kp ag T := by
  have g : ∀ o, 0 < o → o < 7 → T.1 (TA m + o) = S.1 (TA m + o) := fun o h0 h7 => f.2.1 _ (trf_row m h0 h7)
  unfold TD
  rw [f.2.2.1 1 (by omega), f.2.2.1 8 (by omega), g 1 (by omega) (by omega), g 2 (by omega) (by omega), g 3 (by omega) (by omega), g 4 (by omega) (by omega), g 5 (by omega) (by omega), g 6 (by omega) (by omega)]
  exact h
/-- what the tracer looks at -/
def CT (m n B : Nat) (ch mt bn fs kp : Nat → Nat) (ag : Nat → Prop) (ab : Nat → Nat → Bool) (X : Nat → Nat) (S : St) : Prop := TD m n B ch mt bn fs kp ag S ∧ (S.2 10 = m ∧ S.2 11 = m) ∧ Ab ab S ∧ CbA ab B 0 kp fs ag (Tab ch mt ab n X) S ∧ ∀ p, p < 8 → clb ch p → ∀ x, x / 112 = p → S.1 19 x = eC (X x)
theorem CT.mv {T : St} (h : CT m n B ch mt bn fs kp ag ab X S) (f : TrF m S T) : CT m n B ch mt bn fs kp ag ab X T := by
  obtain ⟨h1, h2, h3, h4, h5⟩ := h
  have e15 := f.2.1 15 (trf_ne m (by decide) (by omega) (by omega))
  have e30 := f.2.1 30 (trf_ne m (by decide) (by omega) (by omega))
  have e19 := f.2.1 19 (trf_ne m (by decide) (by omega) (by omega))
  refine ⟨f.td h1, by rw [f.1]; exact h2, fun k j a b => by rw [e15]; exact h3 k j a b, fun b b1 b2 k b3 b4 s c s1 c1 => by rw [e30]; exact h4 b b1 b2 k b3 b4 s c s1 c1, fun p hp hc x hx => by rw [e19]; exact h5 p hp hc x hx⟩
theorem CT.d10 (h : CT m n B ch mt bn fs kp ag ab X S) : TD (S.2 10) n B ch mt bn fs kp ag S := by rw [h.2.1.1]; exact h.1
/-- what is added: blocks reached, taken, lost -/
def Up (m : Nat) (P Q : Nat → Nat → Prop) (L : Nat → Prop) (S T : St) : Prop := TrF m S T ∧ (∀ b k, b < 31 → k < 32 → (bt (T.1 46 b) k = true ↔ bt (S.1 46 b) k = true ∨ P b k)) ∧ (∀ b k, b < 31 → k < 32 → (bt (T.1 (TA m + 7) b) k = true ↔ bt (S.1 (TA m + 7) b) k = true ∨ Q b k)) ∧ ∀ k, k < 32 → (bt (T.1 (TA m) 12) k = true ↔ bt (S.1 (TA m) 12) k = true ∨ L k)
theorem Up.refl (S : St) : Up m (fun _ _ => False) (fun _ _ => False) (fun _ => False) S S := ⟨TrF.refl m S, fun _ _ _ _ => by simp, fun _ _ _ _ => by simp, fun _ _ => by simp⟩
theorem Up.trans {P Q P' Q' : Nat → Nat → Prop} {L L' : Nat → Prop} {S T U : St} (h : Up m P Q L S T) (k : Up m P' Q' L' T U) : Up m (fun b k => P b k ∨ P' b k) (fun b k => Q b k ∨ Q' b k) (fun k => L k ∨ L' k) S U := by
  refine ⟨h.1.trans k.1, fun b x hb hx => ?_, fun b x hb hx => ?_, fun x hx => ?_⟩
  · rw [k.2.1 b x hb hx, h.2.1 b x hb hx, or_assoc]
  · rw [k.2.2.1 b x hb hx, h.2.2.1 b x hb hx, or_assoc]
  · rw [k.2.2.2 x hx, h.2.2.2 x hx, or_assoc]
theorem Up.as {P Q P' Q' : Nat → Nat → Prop} {L L' : Nat → Prop} {S T : St} (h : Up m P Q L S T) (h1 : ∀ b k, b < 31 → k < 32 → (P b k ↔ P' b k)) (h2 : ∀ b k, b < 31 → k < 32 → (Q b k ↔ Q' b k)) (h3 : ∀ k, k < 32 → (L k ↔ L' k)) : Up m P' Q' L' S T :=
  ⟨h.1, fun b x hb hx => by rw [h.2.1 b x hb hx, h1 b x hb hx], fun b x hb hx => by rw [h.2.2.1 b x hb hx, h2 b x hb hx], fun x hx => by rw [h.2.2.2 x hx, h3 x hx]⟩
theorem Up.al (v : Int32) : Up m (fun _ _ => False) (fun _ _ => False) (fun _ => False) S (st_i S 36 5 v) := by
  have h0 : TA m ≠ 36 := TA_ne m 0 (by omega) (by simp)
  have h7 : TA m + 7 ≠ 36 := TA_ne m 7 (by omega) (by simp)
  refine ⟨⟨rfl, fun c hc => si_nx _ _ (fun q => hc (by rw [q]; simp)), fun j _ => by rw [si_nx _ _ h0], fun j hj => si_ni _ _ hj⟩, fun b k _ _ => ?_, fun b k _ _ => ?_, fun k _ => ?_⟩
  · rw [si_nx _ _ (show (46 : Nat) ≠ 36 by omega)]; simp
  · rw [si_nx _ _ h7]; simp
  · rw [si_nx _ _ h0]; simp
theorem s_rch (hK : TK n B ch mt bn fs kp ag) (hC : CT m n B ch mt bn fs kp ag ab X S) {b k : Nat} (hb : b < B) (hk : k < 6) : ∃ T, fX6_reach N (nI b) (nI k) S = some T ∧ Up m (fun b' k' => b' = b ∧ k' = kb ag b k) (fun _ _ => False) (fun _ => False) S T ∧ T.1 36 = S.1 36 := by
  have hB := hK.2.1.2.1
  have fin : ∀ (v : Int32) (x : Nat), x < 32 → (∀ i, i < 32 → bt v i = decide (i = x)) → Up m (fun b' k' => b' = b ∧ k' = x) (fun _ _ => False) (fun _ => False) S (st_i S 46 b (S.1 46 b ||| v)) ∧ (st_i S 46 b (S.1 46 b ||| v)).1 36 = S.1 36 := fun v x hx hv => by
    have h0 : TA m ≠ 46 := TA_ne m 0 (by omega) (by simp)
    have h7 : TA m + 7 ≠ 46 := TA_ne m 7 (by omega) (by simp)
    refine ⟨⟨⟨rfl, fun c hc => si_nx _ _ (fun q => hc (by rw [q]; simp)), fun j _ => by rw [si_nx _ _ h0], fun j _ => by rw [si_nx _ _ (show (36 : Nat) ≠ 46 by omega)]⟩, fun b' k' _ hk' => ?_, fun b' k' _ _ => ?_, fun k' _ => ?_⟩, si_nx _ _ (by omega)⟩
    · rw [si_if]
      by_cases q : b' = b
      · rw [if_pos q, b_or, hv k' hk', Bool.or_eq_true, decide_eq_true_iff, q]; simp
      · rw [if_neg q]; simp [q]
    · rw [si_nx _ _ h7]; simp
    · rw [si_nx _ _ h0]; simp
  unfold fX6_reach fX6_reach_35
  rw [if_neg (nI_pos (by omega)), if_neg (show ¬ (31 : Int32) ≤ nI b from nI_ge (b := 31) (by omega) (by omega)), if_neg (nI_in (show b < 31 by omega) (by omega)), hC.2.1.2, s_again hB hC.1 hb]
  simp only [Option.bind_some]
  rw [if_neg (nI_in (show b < 31 by omega) (by omega)), if_neg (nI_in (show b < 31 by omega) (by omega)), nI_cl (by omega)]
  by_cases q : ag b
  · rw [bP_1 q, if_neg z10, kb_y k q]
    exact ⟨_, rfl, fin _ k (by omega) (fun i hi => b_one (by omega) hi)⟩
  · rw [bP_0 q, if_pos rfl, kb_n k q]
    refine ⟨_, rfl, fin _ 0 (by omega) (fun i hi => ?_)⟩
    exact b_one (n := 0) (by omega) hi
theorem s_addT (hK : TK n B ch mt bn fs kp ag) (hC : CT m n B ch mt bn fs kp ag ab X S) {b k : Nat} (hb : b < B) (hk : k < 6) : ∃ T, fX5_addTaken N m (nI b) (nI k) S = some T ∧ Up m (fun _ _ => False) (fun b' k' => b' = b ∧ k' = k) (fun _ => False) S T ∧ T.1 36 = S.1 36 := by
  have hB := hK.2.1.2.1
  have h36 : TA m + 7 ≠ 36 := TA_ne m 7 (by omega) (by simp)
  have h46 : TA m + 7 ≠ 46 := TA_ne m 7 (by omega) (by simp)
  unfold fX5_addTaken
  rw [s_isBlock hB hC.1 hb]
  simp only [Option.bind_some, if_neg z10]
  rw [s_isKind1 N S hk]
  simp only [Option.bind_some, if_neg z10]
  rw [if_neg (nI_in (show b < 31 by omega) (by omega)), if_neg (nI_in (show b < 31 by omega) (by omega)), nI_cl (by omega)]
  refine ⟨_, rfl, ⟨⟨rfl, fun c hc => si_nx _ _ (fun q => hc (by rw [q]; simp)), fun j _ => by rw [si_nx _ _ (by omega)], fun j _ => by rw [si_nx _ _ (Ne.symm h36)]⟩, fun b' k' _ _ => ?_, fun b' k' _ hk' => ?_, fun k' _ => ?_⟩, si_nx _ _ (Ne.symm h36)⟩
  · rw [si_nx _ _ (Ne.symm h46)]; simp
  · rw [si_if]
    by_cases q : b' = b
    · rw [if_pos q, b_or, b_one (by omega) hk', Bool.or_eq_true, decide_eq_true_iff, q]; simp
    · rw [if_neg q]; simp [q]
  · rw [si_nx _ _ (by omega)]; simp
theorem eC_far {v : Nat} : (1000000 : Int32) ≤ eC v ↔ 1000 ≤ v := by
  unfold eC
  by_cases q : v < 1000
  · rw [if_pos q]
    exact ⟨fun z => absurd z (nI_ge (b := 1000000) (by omega) (by omega)), fun z => absurd z (by omega)⟩
  · rw [if_neg q]
    exact ⟨fun _ => by omega, fun _ => nI_le (a := 1000000) (b := 1000000) (by omega) (by omega)⟩
theorem s_ways (hN : 60 < N) (hK : TK n B ch mt bn fs kp ag) (hC : CT m n B ch mt bn fs kp ag ab X S) {b k : Nat} (hb : b < B) (hk : k < 6) (hm : ag b → ab k (kp b) = true) : ∃ W, fX2_waysOf N (nI b) (nI k) S = some (W, S) ∧ ∀ w, w < 32 → (bt W w = true ↔ w < 8 ∧ sup (Tab ch mt ab n X (fs b) (k + 1) 0) w) := by
  have hB := hK.2.1.2.1
  have hrow := hC.2.2.2.1 b (Nat.zero_le _) hb k hk hm
  have hR := rix_lt (ag := ag) (b := b) (k := k) (s := 0) (by omega) hk (by omega)
  unfold fX2_waysOf
  rw [show fX2_rowOf N (nI b) (nI k) 0 S = some (nI (rix ag b k 0), S) from s_rowOf hB hC.d10 hb hk (s := 0) (by omega)]
  simp only [Option.bind_some]
  have inner : ∀ (w : Nat) (W0 : Int32), w < 8 → WP (fX2_waysOf_24 N (nI (rix ag b k 0)) (nI w) (W0, 0, S)) (fun z => z.2 = S ∧ ∀ x, x < 32 → (bt z.1 x = true ↔ bt W0 x = true ∨ (x = w ∧ sup (Tab ch mt ab n X (fs b) (k + 1) 0) w))) := fun w W0 hw => by
    unfold fX2_waysOf_24
    refine WP.fr2 4 N (fun t a S' => S' = S ∧ ∀ x, x < 32 → (bt a x = true ↔ bt W0 x = true ∨ (x = w ∧ ∃ u, u < t ∧ Tab ch mt ab n X (fs b) (k + 1) 0 (w * 4 + u) < 1000))) (by omega) (fun t a S' ht hJ => ?_) (fun a S' hJ => ?_) (a := W0) (S := S) 0 (by omega) ⟨rfl, fun x hx => by simp⟩
    · obtain ⟨rfl, hJ⟩ := hJ
      have hcell := hrow 0 (w * 4 + t) (by omega) (by omega)
      unfold bfX2_waysOf_24
      dsimp only
      rw [if_neg (show ¬ (4 : Int32) ≤ nI t from nI_ge (b := 4) (by omega) (by omega)), s_cell (by omega), hcell]
      simp only [Option.bind_some]
      unfold fX2_waysOf_53
      rw [show nI t + 1 = nI (t + 1) from nI_add t 1]
      have hg : Gt (Tab ch mt ab n X) fs b k 0 (w * 4 + t) = Tab ch mt ab n X (fs b) (k + 1) 0 (w * 4 + t) := rfl
      by_cases q : Tab ch mt ab n X (fs b) (k + 1) 0 (w * 4 + t) < 1000
      · rw [if_neg (fun z => by have := eC_far.mp z; rw [hg] at this; omega)]
        refine WP.ret ⟨_, _, rfl, rfl, fun x hx => ?_⟩
        rw [b_or, b_one (by omega) hx, Bool.or_eq_true, decide_eq_true_iff, hJ x hx]
        constructor
        · rintro ((z | ⟨z, u, hu, z2⟩) | z)
          · exact Or.inl z
          · exact Or.inr ⟨z, u, by omega, z2⟩
          · exact Or.inr ⟨z, t, by omega, q⟩
        · rintro (z | ⟨z, u, hu, z2⟩)
          · exact Or.inl (Or.inl z)
          · exact Or.inr z
      · rw [if_pos (eC_far.mpr (by rw [hg]; omega))]
        refine WP.ret ⟨_, _, rfl, rfl, fun x hx => ?_⟩
        rw [hJ x hx]
        constructor
        · rintro (z | ⟨z, u, hu, z2⟩)
          · exact Or.inl z
          · exact Or.inr ⟨z, u, by omega, z2⟩
        · rintro (z | ⟨z, u, hu, z2⟩)
          · exact Or.inl z
          · refine Or.inr ⟨z, u, ?_, z2⟩
            rcases Nat.lt_or_ge u t with w' | w'
            · exact w'
            · obtain rfl : u = t := by omega
              exact absurd z2 q
    · obtain ⟨rfl, hJ⟩ := hJ
      unfold bfX2_waysOf_24
      dsimp only
      rw [if_pos (show (4 : Int32) ≤ nI 4 by decide)]
      refine WP.ret ⟨_, rfl, rfl, fun x hx => ?_⟩
      exact hJ x hx
  have outer : WP (fX2_waysOf_14 N (nI (rix ag b k 0)) (0, 0, S)) (fun z => z.2 = S ∧ ∀ x, x < 32 → (bt z.1 x = true ↔ x < 8 ∧ sup (Tab ch mt ab n X (fs b) (k + 1) 0) x)) := by
    unfold fX2_waysOf_14
    refine WP.fr2 8 N (fun w a S' => S' = S ∧ ∀ x, x < 32 → (bt a x = true ↔ x < w ∧ sup (Tab ch mt ab n X (fs b) (k + 1) 0) x)) (by omega) (fun w a S' hw hJ => ?_) (fun a S' hJ => ?_) (a := 0) (S := S) 0 (by omega) ⟨rfl, fun x hx => by rw [b_0]; simp⟩
    · obtain ⟨rfl, hJ⟩ := hJ
      unfold bfX2_waysOf_14
      dsimp only
      rw [if_neg (show ¬ (8 : Int32) ≤ nI w from nI_ge (b := 8) (by omega) (by omega)), show nI w + 1 = nI (w + 1) from nI_add w 1]
      refine WP.bnd (inner w a hw) (fun z hz => WP.ret ⟨_, _, rfl, hz.1, fun x hx => ?_⟩)
      rw [hz.2 x hx, hJ x hx]
      constructor
      · rintro (⟨z1, z2⟩ | ⟨z1, z2⟩)
        · exact ⟨by omega, z2⟩
        · exact ⟨by omega, by rw [z1]; exact z2⟩
      · rintro ⟨z1, z2⟩
        rcases Nat.lt_or_ge x w with w' | w'
        · exact Or.inl ⟨w', z2⟩
        · obtain rfl : x = w := by omega
          exact Or.inr ⟨rfl, z2⟩
    · obtain ⟨rfl, hJ⟩ := hJ
      unfold bfX2_waysOf_14
      dsimp only
      rw [if_pos (show (8 : Int32) ≤ nI 8 by decide)]
      exact WP.ret ⟨_, rfl, rfl, hJ⟩
  obtain ⟨z, ez, h1, h2⟩ := outer
  rw [ez]
  exact ⟨z.1, by rw [← h1]; rfl, h2⟩
end TC
