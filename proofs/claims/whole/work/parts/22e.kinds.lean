theorem p_ok_upd {p : Nat → Int32} (hp : p_ok p) {c f : Nat} (hf : f ≤ 6) : p_ok (upd p c (eP f)) := by
  intro k hk
  unfold upd
  by_cases q : k = c
  · rw [if_pos q]
    unfold eP
    by_cases z : f < 6
    · rw [if_pos z]; exact Or.inr ⟨f, z, rfl⟩
    · rw [if_neg z]; exact Or.inl rfl
  · rw [if_neg q]; exact hp k hk
theorem pn_upd {p : Nat → Int32} {c f : Nat} (hc : c < 6) (hf : f ≤ 6) : pn (upd p c (eP f)) c = f := by
  unfold pn
  rw [if_pos hc, up_at]
  unfold eP
  by_cases z : f < 6
  · rw [if_pos z, if_neg (nI_pos (by omega)), nI_cl (by omega)]
  · rw [if_neg z, if_pos (by decide)]; omega
theorem p_ac_upd {p : Nat → Int32} (hp : p_ok p) (ha : p_ac p) {c f : Nat} (hc : c < 6) (hf : f ≤ 6) (hn : f < 6 → ¬ isK p f c) : p_ac (upd p c (eP f)) := by
  intro k hk
  refine upn_end (p_ok_upd hp hf) hk ?_
  by_cases q : ∃ m, m < 6 ∧ upn p m k = c
  · obtain ⟨m, ⟨hm, e⟩, hl⟩ := pk_least (fun m => m < 6 ∧ upn p m k = c) q
    have h1 : upn (upd p c (eP f)) m k = c := by
      rw [upn_upd m k (fun j hj z => hl j hj ⟨by omega, z⟩), e]
    have h2 : upn (upd p c (eP f)) (m + 1) k = f := by
      show pn (upd p c (eP f)) (upn (upd p c (eP f)) m k) = f
      rw [h1]; exact pn_upd hc hf
    rcases Nat.lt_or_ge f 6 with z | z
    · refine ⟨6 + (m + 1), ?_⟩
      rw [upn_add, h2, upn_upd 6 f (fun j hj y => hn z ⟨j, hj, y⟩)]
      exact ha f z
    · exact ⟨m + 1, by rw [h2]; omega⟩
  · exact ⟨6, by rw [upn_upd 6 k (fun j hj y => q ⟨j, hj, y⟩)]; exact ha k hk⟩
