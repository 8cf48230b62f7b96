/-! whole calls, general post: refused, and answered -/
section
variable {df : Int32} {sa da ka : Nat → Int32}
theorem po_m2 {n : Nat} (h : n < 2 ^ 31) : ¬ nI n = -2 := by
  intro e
  have := nI_pos (n := n) h
  rw [e] at this
  exact this (by decide)
theorem px_rm0 {post : Int32 → SX → Prop} {c : Nat} {x : Int32} (h : x < 0 ∨ nI c ≤ x) (k : post (-1) (nI c, df, sa, da, ka)) : wpX_remove post (nI c, df, sa, da, ka) x := by
  unfold wpX_remove
  dsimp only
  exact px_pl0 h (br_t rfl k)
theorem py_rm0 {post : Int32 → SY → Prop} {c : Nat} {x : Int32} (h : x < 0 ∨ nI c ≤ x) (k : post (-1) (nI c, df, sa, da, ka)) : wpY_remove post (nI c, df, sa, da, ka) x := by
  unfold wpY_remove
  dsimp only
  exact py_pl0 h (br_f po_10 k)
theorem px_sh0 {post : Int32 → SX → Prop} {c : Nat} {x y : Int32} (h : x < 0 ∨ nI c ≤ x) (k : post (-1) (nI c, df, sa, da, ka)) : wpX_shift post (nI c, df, sa, da, ka) x y := by
  unfold wpX_shift
  dsimp only
  exact px_pl0 h (br_t rfl k)
theorem px_sh1 {post : Int32 → SX → Prop} {c f : Nat} {y : Int32} (hf : f < c) (hc : c ≤ 12) (h : y < 0 ∨ nI c ≤ y) (k : post (-1) (nI c, df, sa, da, ka)) : wpX_shift post (nI c, df, sa, da, ka) (nI f) y := by
  unfold wpX_shift
  dsimp only
  exact px_pl1 hf hc (br_f po_10 (px_pl0 h (br_t rfl k)))
theorem py_sh0 {post : Int32 → SY → Prop} {c : Nat} {x y : Int32} (h : x < 0 ∨ nI c ≤ x) (k : post (-1) (nI c, df, sa, da, ka)) : wpY_shift post (nI c, df, sa, da, ka) x y := by
  unfold wpY_shift
  dsimp only
  exact py_pl0 h (br_f po_10 k)
theorem py_sh1 {post : Int32 → SY → Prop} {c f : Nat} {y : Int32} (hf : f < c) (hc : c ≤ 12) (h : y < 0 ∨ nI c ≤ y) (k : post (-1) (nI c, df, sa, da, ka)) : wpY_shift post (nI c, df, sa, da, ka) (nI f) y := by
  unfold wpY_shift
  dsimp only
  exact py_pl1 hf hc (br_t rfl (py_pl0 h (br_f po_10 k)))
/-- four numbers can be put in, or both sides refuse them -/
theorem pz_in {c : Nat} (hc : c ≤ 12) (x y z w : Int32) : (∃ j s d k : Nat, j ≤ c ∧ c < 12 ∧ s < 1024 ∧ d < 1024 ∧ k < 64 ∧ x = nI j ∧ y = nI s ∧ z = nI d ∧ w = nI k) ∨ ((∀ post : Int32 → SX → Prop, post (-1) (nI c, df, sa, da, ka) → wpX_insert post (nI c, df, sa, da, ka) x y z w) ∧ (∀ post : Int32 → SY → Prop, post (-1) (nI c, df, sa, da, ka) → wpY_insert post (nI c, df, sa, da, ka) x y z w)) := by
  unfold wpX_insert wpY_insert
  dsimp only
  rcases pk_ix x (n := c + 1) (by omega) with h | h | ⟨j, hj, rfl⟩
  · exact Or.inr ⟨fun _ k => br_t h k, fun _ k => br_t h k⟩
  · obtain ⟨q1, q2, q3, q4⟩ := po_big (n := c) h (by omega)
    exact Or.inr ⟨fun _ k => br_f q1 (br_t (Int32.not_le.mp q3) k), fun _ k => br_f q1 (br_t (Int32.not_le.mp q3) k)⟩
  have j1 : ¬ nI j < 0 := nI_pos (by omega)
  have j2 : ¬ nI c < nI j := nI_nlt (by omega) (by omega)
  by_cases c12 : c < 12
  · have f1 : nI c < (12 : Int32) := nI_lt (b := 12) c12 (by decide)
    have f2 : ¬ nI c = (12 : Int32) := fun e => absurd ((nI_eq (b := 12) (by omega) (by decide)).mp e) (by omega)
    rcases pk_ix y (n := 1024) (by decide) with h | h | ⟨s, hs, rfl⟩
    · exact Or.inr ⟨fun _ k => br_f j1 (br_f j2 (br_t f1 (px_rg0 (Or.inl h) (br_t rfl k)))), fun _ k => br_f j1 (br_f j2 (br_f f2 (br_t h k)))⟩
    · obtain ⟨q1, q2, q3, q4⟩ := po_big (n := 1023) h (by decide)
      exact Or.inr ⟨fun _ k => br_f j1 (br_f j2 (br_t f1 (px_rg0 (Or.inr h) (br_t rfl k)))), fun _ k => br_f j1 (br_f j2 (br_f f2 (br_f q1 (br_t (Int32.not_le.mp q3) k))))⟩
    have s1 : ¬ nI s < 0 := nI_pos (by omega)
    have s2 : ¬ (1023 : Int32) < nI s := nI_nlt (a := 1023) (by omega) (by decide)
    rcases pk_ix z (n := 1024) (by decide) with h | h | ⟨d, hd, rfl⟩
    · exact Or.inr ⟨fun _ k => br_f j1 (br_f j2 (br_t f1 (px_rg1 hs (br_f po_10 (px_rg0 (Or.inl h) (br_t rfl k)))))), fun _ k => br_f j1 (br_f j2 (br_f f2 (br_f s1 (br_f s2 (br_t h k)))))⟩
    · obtain ⟨q1, q2, q3, q4⟩ := po_big (n := 1023) h (by decide)
      exact Or.inr ⟨fun _ k => br_f j1 (br_f j2 (br_t f1 (px_rg1 hs (br_f po_10 (px_rg0 (Or.inr h) (br_t rfl k)))))), fun _ k => br_f j1 (br_f j2 (br_f f2 (br_f s1 (br_f s2 (br_f q1 (br_t (Int32.not_le.mp q3) k))))))⟩
    have d1 : ¬ nI d < 0 := nI_pos (by omega)
    have d2 : ¬ (1023 : Int32) < nI d := nI_nlt (a := 1023) (by omega) (by decide)
    rcases pk_ix w (n := 64) (by decide) with h | h | ⟨e, he, rfl⟩
    · exact Or.inr ⟨fun _ k => br_f j1 (br_f j2 (br_t f1 (px_rg1 hs (br_f po_10 (px_rg1 hd (br_f po_10 (px_kd0 (Or.inl h) (br_t rfl k)))))))), fun _ k => br_f j1 (br_f j2 (br_f f2 (br_f s1 (br_f s2 (br_f d1 (br_f d2 (br_t h k)))))))⟩
    · obtain ⟨q1, q2, q3, q4⟩ := po_big (n := 63) h (by decide)
      exact Or.inr ⟨fun _ k => br_f j1 (br_f j2 (br_t f1 (px_rg1 hs (br_f po_10 (px_rg1 hd (br_f po_10 (px_kd0 (Or.inr h) (br_t rfl k)))))))), fun _ k => br_f j1 (br_f j2 (br_f f2 (br_f s1 (br_f s2 (br_f d1 (br_f d2 (br_f q1 (br_f q3 k))))))))⟩
    · exact Or.inl ⟨j, s, d, e, by omega, c12, hs, hd, he, rfl, rfl, rfl, rfl⟩
  · have e12 : c = 12 := by omega
    subst e12
    exact Or.inr ⟨fun _ k => br_f j1 (br_f j2 (br_f (nI_nlt (a := 12) (b := 12) (by omega) (by decide)) k)), fun _ k => br_f j1 (br_f j2 (br_t rfl k))⟩
theorem px_pn {post : Int32 → Prop} {a b t : Nat} (h : post (nI (128 * a + 4 * b + t))) : wpX_packetNumber post (nI a) (nI b) (nI t) := by
  unfold wpX_packetNumber
  rw [po_num]
  exact h
theorem px_dc {post : Int32 → Prop} {c a b t : Nat} (ha : a < 32) (hb : b < 32) (ht : t < 4) (hc : c ≤ 12) (hs : po_R 1024 sa) (hd : po_R 1024 da) (hk : po_R 64 ka) (h : post (po_ff (po_m sa da ka (128 * a + 4 * b + t)) c 0)) : wpX_decide post (nI c, df, sa, da, ka) (nI a) (nI b) (nI t) := by
  unfold wpX_decide
  dsimp only
  exact px_pk1 ha hb ht (br_f po_10 (px_pn (px_fm0 hc (by omega) hs hd hk h)))
theorem py_dc {post : Int32 → Prop} {c a b t : Nat} (ha : a < 32) (hb : b < 32) (ht : t < 4) (hc : c ≤ 12) (hs : po_R 1024 sa) (hd : po_R 1024 da) (hk : po_R 64 ka) (h : post (po_ff (po_m sa da ka (128 * a + 4 * b + t)) c 0)) : wpY_decide post (nI c, df, sa, da, ka) (nI a) (nI b) (nI t) := by
  unfold wpY_decide
  dsimp only
  rw [po_num]
  exact py_pk1 ha hb ht (br_t rfl (py_de hc (by omega) hs hd hk h))
theorem px_at {post : Int32 → Prop} {c a b t : Nat} (ha : a < 32) (hb : b < 32) (ht : t < 4) (hc : c ≤ 12) (hs : po_R 1024 sa) (hd : po_R 1024 da) (hk : po_R 64 ka) (h : post (po_ac df ka (po_ff (po_m sa da ka (128 * a + 4 * b + t)) c 0))) : wpX_action post (nI c, df, sa, da, ka) (nI a) (nI b) (nI t) := by
  unfold wpX_action
  dsimp only
  exact px_pk1 ha hb ht (br_f po_10 (px_pn (px_pa0 hc (by omega) hs hd hk h)))
theorem py_at {post : Int32 → Prop} {c a b t : Nat} (ha : a < 32) (hb : b < 32) (ht : t < 4) (hc : c ≤ 12) (hs : po_R 1024 sa) (hd : po_R 1024 da) (hk : po_R 64 ka) (h : post (po_ac df ka (po_ff (po_m sa da ka (128 * a + 4 * b + t)) c 0))) : wpY_action post (nI c, df, sa, da, ka) (nI a) (nI b) (nI t) := by
  unfold wpY_action
  dsimp only
  refine py_dc ha hb ht hc hs hd hk ?_
  have hr := po_ff_r (po_m sa da ka (128 * a + 4 * b + t)) (d := c) (j := 0) (by omega)
  have h2 : ¬ po_ff (po_m sa da ka (128 * a + 4 * b + t)) c 0 = -2 := by
    rcases hr with e | ⟨i, hi, e⟩
    · rw [e]; decide
    · rw [e]; exact po_m2 (by omega)
  exact br_f h2 (py_ao hr hk h)
end
