section MF
variable {N n : Nat} {ch : Nat → Nat} {l1 l2 : Int32}
/-- a statement that opens a block: the step, the block, what follows -/
theorem stB (hS : SK n ch) {D i d w : Nat} {tk : Bool} {R : St} (hi : i < n) (hd : d ≤ 8) (hc : (ch i = 63 ∧ w = 1) ∨ (ch i = 42 ∧ w = 3) ∨ (ch i = 84 ∧ w = 4)) (h : MP n ch i d R) (ht : tk = true ↔ isT d R)
    (ih : ∀ D' i d tk R, D' < D → i ≤ n → MP n ch i d R → d ≤ 8 → (tk = true ↔ isT d R) → mR N l1 l2 n ch (pr n ch D' 0 i d tk false) i d R)
    (X : Rs) (K : Nat → Rs) (hX : X = match pr n ch D 2 (i + 1) d tk false with
      | some (.inl j) => K j
      | some (.inr x) => some (.inr x)
      | none => none) (hKle : ∀ k j, K k = some (.inl j) → k ≤ n → k ≤ j ∧ j ≤ n)
    (hgo : d < 8 → ∀ k R2 R3, k ≤ n → MP n ch k d R3 → (tk = true ↔ isT d R3) → (∀ g R', fX8_goesOn N (nI w) 0 R3 = some (g, R') → (g = 0 ∨ g = 1) → ∀ M, whl (M + 1) (bT N l1 l2) (1, R2) = whl M (bT N l1 l2) (g, R')) → goR N l1 l2 n ch (K k) k d R2 R3) :
    mR N l1 l2 n ch X i d R := by
  have hn := hS.1
  have hw7 : w < 7 := by omega
  have hw5 : w ≠ 5 := by omega
  have ha : MP n ch (i + 1) d (atR R (i + 1)) := h.at (i + 1)
  rcases ob (N := N) (l1 := l1) (l2 := l2) (D := D) hS (w := w) (kd := false) (tk := tk) (by omega) hd hw7 ⟨fun z => (by cases z), fun z => absurd z hw5⟩ ha (ht.trans (isT_ss (atR_SS R (i + 1) d)).symm) ih with ⟨a, p, e1, e2⟩ | ⟨hc1, hd8, e1, e2⟩
  · have es := x_block hS h (by omega) hc e1 (Or.inl rfl)
    rw [hX]
    cases hf : pr n ch D 2 (i + 1) d tk false with
    | none => exact ⟨fun j hj => (by cases hj), fun a p hj => (by cases hj)⟩
    | some y =>
      have := e2 y hf
      subst this
      refine ⟨fun j hj => (by cases hj), fun a' p' hj => ?_⟩
      cases hj
      exact RF.one h hn hi ((atR_f R (i + 1)).wid (by decide)) es
  · have es := x_block hS h (by omega) hc e1 (Or.inr rfl)
    have st1 := t_step (l1 := l1) (l2 := l2) h hn hi es
    generalize hR1 : opR (atR R (i + 1)) (nI w) (i + 1) d = R1 at *
    have m1 : MP n ch (i + 2) (d + 1) R1 := by rw [← hR1]; exact opR_MP ha _
    have f1 : FrJ [7, 15] A4 R R1 := by rw [← hR1]; exact (atR_f _ _).trans (opR_f _ _ _ _)
    have s1 : SS d R R1 := by rw [← hR1]; exact (atR_SS _ _ _).trans (opR_SS _ _ _ _)
    have h135 : R1.1 135 = R.1 135 := by rw [← hR1, opR_135, atR_135]
    obtain ⟨x1, x2⟩ := e2 R1 m1 (by rw [← hR1]; exact opR_136 _ _ _ _) (by rw [← hR1]; exact opR_137 _ _ _ _) (by rw [← hR1]; exact opR_SS _ _ _ _)
    have hin : i + 1 < n := by
      rcases Nat.lt_or_ge (i + 1) n with v | v
      · exact v
      · rw [hS.2.1 (i + 1) v] at hc1; omega
    rw [hX]
    cases hf : pr n ch D 2 (i + 1) d tk false with
    | none => exact ⟨fun j hj => (by cases hj), fun a p hj => (by cases hj)⟩
    | some y =>
      cases y with
      | inr ap =>
        obtain ⟨a, p⟩ := ap
        refine ⟨fun j hj => (by cases hj), fun a' p' hj => ?_⟩
        cases hj
        exact RF.pre (k0 := 1) (i1 := i + 1 + 1) st1 f1 (by omega) (by omega) (by omega) (x2 a p hf)
      | inl k =>
        obtain ⟨R3, R2, cc, c1, c2, c3, c4, c5, c6, c7, c8, c9⟩ := x1 k hf
        obtain ⟨r1, r2⟩ := hgo hd8 k R2 R3 c2 c5 (ht.trans ((isT_ss (s1.trans c7)).symm)) (fun g R' hg hg01 M => c9 g R' (by rw [if_neg hw5]; exact hg) hg01 M)
        have pre : ∀ M, whl (M + (cc + 1)) (bT N l1 l2) (1, R) = whl M (bT N l1 l2) (1, R2) := fun M => by
          rw [show M + (cc + 1) = M + cc + 1 by omega, st1, c4]
        refine ⟨fun j hj => ?_, fun a p hj => ?_⟩
        · obtain ⟨hkj, hjn⟩ := hKle k j hj c2
          obtain ⟨R', e, e1', e2', e3', e4', e5', e6'⟩ := r1 j hj
          refine ⟨R', ⟨e + (cc + 1), by omega, fun M => by rw [← Nat.add_assoc, pre, e2']⟩, e3', (f1.trans c6).trans e4', (s1.trans c7).trans e5', fun b b1 b2 b3 => ?_, fun b hb => ?_⟩
          · by_cases v : b < k
            · rw [e6'.2 b (Or.inl v)]
              by_cases v2 : b = i
              · rw [v2] at b3; omega
              · exact c8.1 b (by omega) v b3
            · exact e6'.1 b (by omega) b2 b3
          · rw [e6'.2 b (by omega), c8.2 b (by omega), h135]
        · obtain ⟨e, R', e1', e2', e3'⟩ := r2 a p hj
          refine ⟨e + (cc + 1), R', by omega, ((f1.trans c6).wid (by decide)).trans e2', ?_⟩
          rcases e3' with ⟨e3', e4', e5'⟩ | ⟨e3', e4', e5', e6', e7', e8'⟩
          · refine Or.inl ⟨fun M => ?_, e4', e5'⟩
            rw [show M + (e + (cc + 1)) + 1 = M + e + 1 + (cc + 1) by omega, pre]; exact e3' M
          · refine Or.inr ⟨fun M => ?_, e4', e5', by rw [e6', (f1.trans c6).2.2 5 (by decide)], by rw [e7', (f1.trans c6).2.2 6 (by decide)], e8'⟩
            rw [show M + (e + (cc + 1)) + 1 = M + e + 1 + (cc + 1) by omega, pre]; exact e3' M
theorem mB (hN : 60 < N) (hS : SK n ch) : ∀ (D mode i d : Nat) (tk : Bool) (R : St), ((mode = 0 ∧ i ≤ n) ∨ (mode = 1 ∧ i < n ∧ ch i ≠ 125)) → MP n ch i d R → d ≤ 8 → (tk = true ↔ isT d R) → mR N l1 l2 n ch (pr n ch D mode i d tk false) i d R := by
  intro D
  have hn := hS.1
  induction D using Nat.strongRecOn with
  | _ D IH =>
    intro mode i d tk R hm h hd ht
    cases D with
    | zero => exact ⟨fun j hj => (by cases hj), fun a p hj => (by cases hj)⟩
    | succ D =>
      rcases hm with ⟨rfl, hi⟩ | ⟨rfl, hi, h125⟩
      · -- statements, one by one
        show mR N l1 l2 n ch (prS (fun j => pr n ch D 1 j d tk false) n ch 60 i) i d R
        have key : ∀ (m i : Nat) (R : St), i ≤ n → MP n ch i d R → (tk = true ↔ isT d R) → mR N l1 l2 n ch (prS (fun j => pr n ch D 1 j d tk false) n ch m i) i d R := by
          intro m
          induction m with
          | zero =>
            intro i R hi h ht
            refine ⟨fun j hj => ?_, fun a p hj => (by cases hj)⟩
            have : i = j := by cases hj; rfl
            subst this
            exact ⟨R, RQ.refl h⟩
          | succ m ihm =>
            intro i R hi h ht
            show mR N l1 l2 n ch (if i < n ∧ ch i ≠ 125 then (match pr n ch D 1 i d tk false with
              | some (.inl j) => prS (fun j => pr n ch D 1 j d tk false) n ch m j
              | some (.inr x) => some (.inr x)
              | none => none) else some (.inl i)) i d R
            by_cases q : i < n ∧ ch i ≠ 125
            · rw [if_pos q]
              obtain ⟨a1, a2⟩ := IH D (by omega) 1 i d tk R (Or.inr ⟨rfl, q.1, q.2⟩) h hd ht
              cases hf : pr n ch D 1 i d tk false with
              | none => exact ⟨fun j hj => (by cases hj), fun a p hj => (by cases hj)⟩
              | some y =>
                cases y with
                | inr ap =>
                  obtain ⟨a, p⟩ := ap
                  refine ⟨fun j hj => (by cases hj), fun a' p' hj => ?_⟩
                  cases hj
                  exact a2 a p hf
                | inl k =>
                  obtain ⟨R', hR'⟩ := a1 k hf
                  have hok := pr_ok hn hS.2.1 D 1 i d tk false k (fun w => absurd w (by omega)) (fun _ => q.1) hf
                  have hik : i < k := hok.2.2.2.1
                  obtain ⟨b1, b2⟩ := ihm k R' hok.1 hR'.2.1 (ht.trans ((isT_ss hR'.2.2.2.1).symm))
                  refine ⟨fun j hj => ?_, fun a p hj => ?_⟩
                  · obtain ⟨R'', hR''⟩ := b1 j hj
                    have hj2 : prS (fun j => pr n ch D 1 j d tk false) n ch m k = some (.inl j) := hj
                    have hkj := (prS_ok (fun i j hin hF => pr_ok hn hS.2.1 D 1 i d tk false j (fun w => absurd w (by omega)) (fun _ => hin) hF) m k j hok.1 hj2).2.1.1
                    exact ⟨R'', hR'.trans (by omega) hkj hR''⟩
                  · exact hR'.F (by omega) hok.1 (b2 a p hj)
            · rw [if_neg q]
              refine ⟨fun j hj => ?_, fun a p hj => (by cases hj)⟩
              have : i = j := by cases hj; rfl
              subst this
              exact ⟨R, RQ.refl h⟩
        exact key 60 i R hi h ht
      · -- a statement
        have ih0 : ∀ D' i d tk R, D' < D → i ≤ n → MP n ch i d R → d ≤ 8 → (tk = true ↔ isT d R) → mR N l1 l2 n ch (pr n ch D' 0 i d tk false) i d R := fun D' i d tk R hD hi h hd ht => IH D' (by omega) 0 i d tk R (Or.inl ⟨rfl, hi⟩) h hd ht
        show mR N l1 l2 n ch (if ch i = 33 then (if ltr (ch (i + 1)) then some (.inl (i + 2)) else some (.inr (1, i + 1)))
          else if ch i = 42 then pr n ch D 2 (i + 1) d tk false
          else if ch i = 43 ∨ ch i = 45 then (if ch (i + 1) = 48 ∨ ch (i + 1) = 49 then some (.inl (i + 2)) else some (.inr (1, i + 1)))
          else if ch i = 46 then some (.inl (i + 1))
          else if ch i = 63 then (match pr n ch D 2 (i + 1) d tk false with
            | some (.inl j) => pr n ch D 2 j d tk false
            | some (.inr x) => some (.inr x)
            | none => none)
          else if ch i = 64 then (if 97 ≤ ch (i + 1) ∧ ch (i + 1) ≤ 104 then some (.inl (i + 2)) else some (.inr (1, i + 1)))
          else if ch i = 84 then pr n ch D 3 (i + 1) d tk false
          else if ch i = 94 then (if tk = true then some (.inl (i + 1)) else some (.inr (1, i)))
          else some (.inr (1, i))) i d R
        -- two signs
        have two : ∀ (c : Prop) [Decidable c], ch i ≠ 123 → (c → ch (i + 1) ≠ 123) → fX8_readsStatement N R = (if c then some (1, atR R (i + 2)) else some (0, wrR R 1 (i + 1))) → mR N l1 l2 n ch (if c then some (.inl (i + 2)) else some (.inr (1, i + 1))) i d R := by
          intro c _ hc1 hc2 e
          by_cases q : c
          · rw [if_pos q] at e ⊢
            refine ⟨fun j hj => ?_, fun a p hj => (by cases hj)⟩
            have : i + 2 = j := by cases hj; rfl
            subst this
            refine ⟨_, RQ.one h hn hi (by omega) (fun b b1 b2 b3 => ?_) e⟩
            by_cases v : b = i
            · rw [v] at b3; exact hc1 b3
            · rw [show b = i + 1 by omega] at b3; exact hc2 q b3
          · rw [if_neg q] at e ⊢
            refine ⟨fun j hj => (by cases hj), fun a p hj => ?_⟩
            cases hj
            exact RF.one h hn hi (FrJ.refl _ _ _) e
        by_cases q33 : ch i = 33
        · rw [if_pos q33]
          exact two _ (by omega) (fun z => by omega) (x_33 hS h (by omega) q33)
        rw [if_neg q33]
        by_cases q42 : ch i = 42
        · rw [if_pos q42]
          refine stB hS hi hd (w := 3) (Or.inr (Or.inl ⟨q42, rfl⟩)) h ht ih0 _ (fun j => some (.inl j)) ?_ (fun k j hk hkn => ?_) (fun _ k R2 R3 hk h3 ht3 hst => ?_)
          · cases pr n ch D 2 (i + 1) d tk false with
            | none => rfl
            | some y => cases y <;> rfl
          · have : k = j := by cases hk; rfl
            omega
          · refine ⟨fun j hj => ?_, fun a p hj => (by cases hj)⟩
            have : k = j := by cases hj; rfl
            subst this
            exact ⟨R3, 1, by omega, fun M => hst 1 R3 (g_end (Or.inr (Or.inl rfl)) _) (Or.inr rfl) M, h3, FrJ.refl _ _ _, fun _ _ => ⟨rfl, rfl, rfl⟩, fun b b1 b2 => absurd b1 (by omega), fun _ _ => rfl⟩
        rw [if_neg q42]
        by_cases q43 : ch i = 43 ∨ ch i = 45
        · rw [if_pos q43]
          exact two _ (by omega) (fun z => by omega) (x_43 hS h (by omega) q43)
        rw [if_neg q43]
        by_cases q46 : ch i = 46
        · rw [if_pos q46]
          refine ⟨fun j hj => ?_, fun a p hj => (by cases hj)⟩
          have : i + 1 = j := by cases hj; rfl
          subst this
          exact ⟨_, RQ.one h hn hi (by omega) (fun b b1 b2 b3 => by rw [show b = i by omega] at b3; omega) (x_46 hS h (by omega) q46)⟩
        rw [if_neg q46]
        by_cases q63 : ch i = 63
        · rw [if_pos q63]
          refine stB hS hi hd (w := 1) (Or.inl ⟨q63, rfl⟩) h ht ih0 _ (fun j => pr n ch D 2 j d tk false) rfl (fun k j hk hkn => ?_) (fun _ k R2 R3 hk h3 ht3 hst => ?_)
          · have := pr_ok hn hS.2.1 D 2 k d tk false j (fun w => absurd w (by omega)) (fun w => absurd w (by omega)) hk
            exact ⟨this.2.1.1, this.1⟩
          · exact go_last hS (w := 2) (q := k) (Ra := R3) (by omega) (by omega) hk (by omega) hd (Or.inl rfl) h3 (FrJ.refl _ _ _) (fun _ _ => ⟨rfl, rfl, rfl⟩) rfl (fun b b1 b2 => absurd b1 (by omega)) ht3 ih0 (fun g R' ho hg M => hst g R' (g_one _ ho hg) hg M)
        rw [if_neg q63]
        by_cases q64 : ch i = 64
        · rw [if_pos q64]
          exact two _ (by omega) (fun z => by omega) (x_64 hS h (by omega) q64)
        rw [if_neg q64]
        by_cases q84 : ch i = 84
        · rw [if_pos q84]
          cases D with
          | zero => exact ⟨fun j hj => (by cases hj), fun a p hj => (by cases hj)⟩
          | succ D =>
            have ih1 : ∀ D' i d tk R, D' < D → i ≤ n → MP n ch i d R → d ≤ 8 → (tk = true ↔ isT d R) → mR N l1 l2 n ch (pr n ch D' 0 i d tk false) i d R := fun D' i d tk R hD hi h hd ht => ih0 D' i d tk R (by omega) hi h hd ht
            refine stB hS (D := D) hi hd (w := 4) (Or.inr (Or.inr ⟨q84, rfl⟩)) h ht ih1 _ (fun j => prL (fun k b => pr n ch D 2 k d tk b) ch tk 8 j 0) rfl (fun k j hk hkn => ?_) (fun hd8 k R2 R3 hk h3 ht3 hst => ?_)
            · have := prL_ok hS.2.1 (F := fun k b => pr n ch D 2 k d tk b) (tk := tk) (fun i b j hF => pr_ok hn hS.2.1 D 2 i d tk b j (fun w => absurd w (by omega)) (fun w => absurd w (by omega)) hF) 8 k 0 j hkn (by omega) hk
              exact ⟨this.2.1.1, this.1⟩
            · exact go_L hS hd8 ih1 8 k 0 4 R2 R3 hk (Or.inl ⟨rfl, rfl⟩) h3 ht3 hst
        rw [if_neg q84]
        by_cases q94 : ch i = 94
        · rw [if_pos q94]
          obtain ⟨x1, x2⟩ := x_94 (N := N) hN hS h (by omega) hd q94
          by_cases q : tk = true
          · rw [if_pos q]
            refine ⟨fun j hj => ?_, fun a p hj => (by cases hj)⟩
            have : i + 1 = j := by cases hj; rfl
            subst this
            exact ⟨_, RQ.one h hn hi (by omega) (fun b b1 b2 b3 => by rw [show b = i by omega] at b3; omega) (x1 (ht.mp q))⟩
          · rw [if_neg q]
            refine ⟨fun j hj => (by cases hj), fun a p hj => ?_⟩
            cases hj
            exact RF.one h hn hi (FrJ.refl _ _ _) (x2 (fun z => q (ht.mpr z)))
        · rw [if_neg q94]
          refine ⟨fun j hj => (by cases hj), fun a p hj => ?_⟩
          cases hj
          exact RF.one h hn hi (FrJ.refl _ _ _) (x_else hS h (by omega) ⟨q33, q42, fun z => q43 (Or.inl z), fun z => q43 (Or.inr z), q46, q63, q64, q84, q94, h125⟩)
end MF
