theorem eP_inj {a b : Nat} (ha : a ≤ 6) (hb : b ≤ 6) (h : eP a = eP b) : a = b := by
  unfold eP at h
  by_cases qa : a < 6
  · rw [if_pos qa] at h
    by_cases qb : b < 6
    · rw [if_pos qb] at h; exact (nI_eq (by omega) (by omega)).mp h
    · rw [if_neg qb] at h; exact absurd h (by rw [nI_m1 (by omega)]; exact id)
  · rw [if_neg qa] at h
    by_cases qb : b < 6
    · rw [if_pos qb] at h; exact absurd h.symm (by rw [nI_m1 (by omega)]; exact id)
    · omega
theorem s_io1 (N : Nat) {k f : Nat} (hk : k < 6) (hf : f < 6) (S : St) (hp : p_ok (S.1 129)) (hc : p_ac (S.1 129)) : ∀ (m n M : Nat), n + m = 6 → m < M → (∀ j, j < n → upn (S.1 129) j k ≠ f) → whl M (bfX8_isOf_2 N (nI f)) (eP (upn (S.1 129) n k), S) = some (@ite Int32 (isK (S.1 129) k f) (Classical.propDecidable _) (nI f) (-1), S) := by
  intro m
  induction m with
  | zero =>
    intro n M hn hM hj
    obtain ⟨M', rfl⟩ : ∃ M', M = M' + 1 := ⟨M - 1, by omega⟩
    obtain rfl : n = 6 := by omega
    rw [hc k hk, eP_6, if_neg (fun ⟨j, h1, h2⟩ => hj j h1 h2)]
    refine whl_e ?_
    unfold bfX8_isOf_2
    dsimp only
    rw [if_pos rfl]
  | succ m ih =>
    intro n M hn hM hj
    obtain ⟨M', rfl⟩ : ∃ M', M = M' + 1 := ⟨M - 1, by omega⟩
    have hle := upn_le hp (k := k) (by omega) n
    by_cases q : upn (S.1 129) n k < 6
    · by_cases q2 : upn (S.1 129) n k = f
      · rw [if_pos ⟨n, by omega, q2⟩, q2, eP_lt hf]
        refine whl_e ?_
        unfold bfX8_isOf_2
        dsimp only
        rw [if_neg (by rw [nI_m1 (by omega)]; exact id), if_pos rfl]
      · have e : bfX8_isOf_2 N (nI f) (eP (upn (S.1 129) n k), S) = some (.inl (eP (upn (S.1 129) (n + 1) k), S)) := by
          unfold bfX8_isOf_2
          dsimp only
          rw [eP_lt q, if_neg (by rw [nI_m1 (by omega)]; exact id), if_neg (fun z => q2 ((nI_eq (by omega) (by omega)).mp z)), if_neg (nI_in q (by omega)), nI_cl (by omega), pn_e hp q]
          rfl
        rw [whl_s e]
        refine ih (n + 1) M' (by omega) (by omega) (fun j hj2 => ?_)
        rcases Nat.lt_or_ge j n with z | z
        · exact hj j z
        · rw [show j = n by omega]; exact q2
    · have q6 : upn (S.1 129) n k = 6 := by omega
      rw [q6, eP_6, if_neg (fun ⟨j, h1, h2⟩ => by
        rcases Nat.lt_or_ge j n with z | z
        · exact hj j z h2
        · have := upn_6 (p := S.1 129) (k := k) (j - n) n q6
          rw [show n + (j - n) = j by omega] at this
          omega)]
      refine whl_e ?_
      unfold bfX8_isOf_2
      dsimp only
      rw [if_pos rfl]
noncomputable def bK (p : Nat → Int32) (k f : Nat) : Int32 := @ite Int32 (isK p k f) (Classical.propDecidable _) 1 0
theorem bK_1 {p : Nat → Int32} {k f : Nat} (h : isK p k f) : bK p k f = 1 := by unfold bK; rw [if_pos h]
theorem bK_0 {p : Nat → Int32} {k f : Nat} (h : ¬ isK p k f) : bK p k f = 0 := by unfold bK; rw [if_neg h]
theorem s_isOf (N : Nat) (hN : 8 < N) {k f : Nat} (hk : k < 6) (hf : f < 6) (S : St) (hp : p_ok (S.1 129)) (hc : p_ac (S.1 129)) : fX8_isOf N (nI k) (nI f) S = some (bK (S.1 129) k f, S) := by
  have h1 := s_io1 N hk hf S hp hc 6 0 N (by omega) (by omega) (fun j h => absurd h (by omega))
  rw [show eP (upn (S.1 129) 0 k) = nI k from eP_lt hk] at h1
  unfold fX8_isOf fX8_isOf_2
  rw [h1]
  simp only [Option.bind_some]
  by_cases h : isK (S.1 129) k f
  · rw [bK_1 h, if_pos h, if_pos rfl]; rfl
  · rw [bK_0 h, if_neg h, if_neg (fun z => by rw [← z] at h1; exact absurd z.symm (by rw [nI_m1 (by omega)]; exact id))]; rfl
