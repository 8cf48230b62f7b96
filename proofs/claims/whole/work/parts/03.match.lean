/-! one rule against one packet, the first rule that matches, its action: each side, general post -/
section
variable {df : Int32} {sa da ka : Nat → Int32}
theorem px_ir {post : Int32 → Prop} {v s : Nat} (hv : v < 2 ^ 31) (hs : s < 1024) (k : post (po_b (decide (s / 32 ≤ v ∧ v ≤ s % 32)))) : wpX_inRange post (nI v) (nI s) := by
  unfold wpX_inRange
  have e1 : nI s >>> ((5 : Int32) &&& 31) = nI (s / 32) := pk_shrN (by omega) _ 5 (by decide)
  have e2 : nI s &&& 31 = nI (s % 32) := pk_andN (by omega) 5 (by decide)
  rw [e1, e2]
  refine pk_lt v (s / 32) (fun h => ?_) (fun h => pk_lt (s % 32) v (fun h2 => ?_) (fun h2 => ?_))
  · rw [decide_eq_false (by omega)] at k; exact k
  · rw [decide_eq_false (by omega)] at k; exact k
  · rw [decide_eq_true (by omega)] at k; exact k
theorem px_ma {post : Int32 → Prop} {c j p : Nat} (hj : j < 12) (hp : p < 4096) (hs : po_R 1024 sa) (hd : po_R 1024 da) (hk : po_R 64 ka) (h : post (po_b (po_m sa da ka p j))) : wpX_matches post (nI c, df, sa, da, ka) (nI j) (nI p) := by
  obtain ⟨s, s1, es⟩ := hs j
  obtain ⟨d, d1, ed⟩ := hd j
  obtain ⟨k, k1, ek⟩ := hk j
  rw [po_m_e p es s1 ed d1 ek k1] at h
  unfold po_mt at h
  unfold wpX_matches
  dsimp only
  have ij : vp_in (nI j) 12 := vp_in_nI hj (by omega)
  rw [nI_clamp (show j < 2 ^ 31 by omega), es, ed, ek]
  refine nm_r (e' := nI (p / 128)) (pk_shrN (by omega) _ 7 (by decide)) ?_
  refine nm_r (e' := nI (p / 4 % 32)) (by rw [pk_shrN (show p < 2 ^ 31 by omega) _ 2 (by decide)]; exact pk_andN (by omega) 5 (by decide)) ?_
  refine nm_r (e' := nI (p % 4)) (pk_andN (by omega) 2 (by decide)) ?_
  refine ⟨ij, px_ir (by omega) s1 ?_⟩
  by_cases hA : s / 32 ≤ p / 128 ∧ p / 128 ≤ s % 32
  · rw [decide_eq_true hA] at h ⊢
    refine br_f po_b1 ⟨ij, px_ir (by omega) d1 ?_⟩
    by_cases hB : d / 32 ≤ p / 4 % 32 ∧ p / 4 % 32 ≤ d % 32
    · rw [decide_eq_true hB] at h ⊢
      refine br_f po_b1 ⟨ij, ?_⟩
      rw [po_bit k1 (show p % 4 < 32 by omega)]
      refine pk_eq (k / 2 ^ (p % 4) % 2) 1 (fun hC => ?_) (fun hC => ?_) rfl rfl (po_mod2 _) (by omega)
      · rw [decide_eq_true hC] at h; exact h
      · rw [decide_eq_false hC] at h; exact h
    · rw [decide_eq_false hB] at h ⊢
      exact br_t rfl h
  · rw [decide_eq_false hA] at h ⊢
    exact br_t rfl h
theorem px_ff {post : Int32 → Prop} {c p : Nat} (hc : c ≤ 12) (hp : p < 4096) (hs : po_R 1024 sa) (hd : po_R 1024 da) (hk : po_R 64 ka) : ∀ d j : Nat, j + d = c → post (po_ff (po_m sa da ka p) d j) → wX_firstMatch_2 post (nI p) (nI c) df sa da ka (d + 1) (nI j) := by
  intro d
  induction d with
  | zero =>
    intro j hj h
    exact br_t (nI_le (by omega) (by omega)) h
  | succ d ih =>
    intro j hj h
    refine br_f (nI_ge (by omega) (by omega)) ?_
    refine px_ma (by omega) hp hs hd hk ?_
    by_cases hm : po_m sa da ka p j = true
    · rw [po_ff_t hm] at h
      rw [hm]
      exact br_f po_b1 h
    · rw [po_ff_f hm] at h
      rw [po_nt hm]
      exact br_t rfl (nm_r (nI_1 j) (ih (j + 1) (by omega) h))
theorem px_fm {post : Int32 → Prop} {c p : Nat} {x : Int32} (j : Nat) (hx : x = nI j) (hj : j ≤ c) (hc : c ≤ 12) (hp : p < 4096) (hs : po_R 1024 sa) (hd : po_R 1024 da) (hk : po_R 64 ka) (h : post (po_ff (po_m sa da ka p) (c - j) j)) : wpX_firstMatch post (nI c, df, sa, da, ka) (nI p) x := by
  subst hx
  unfold wpX_firstMatch
  dsimp only
  exact ⟨c - j + 1, px_ff hc hp hs hd hk (c - j) j (by omega) h⟩
theorem px_fm0 {post : Int32 → Prop} {c p : Nat} (hc : c ≤ 12) (hp : p < 4096) (hs : po_R 1024 sa) (hd : po_R 1024 da) (hk : po_R 64 ka) (h : post (po_ff (po_m sa da ka p) c 0)) : wpX_firstMatch post (nI c, df, sa, da, ka) (nI p) 0 :=
  px_fm 0 rfl (Nat.zero_le c) hc hp hs hd hk h
theorem px_ra {post : Int32 → Prop} {c i k : Nat} (hi : i < 12) (ek : ka i = nI k) (k1 : k < 64) (h : post (nI (k / 16))) : wpX_ruleAction post (nI c, df, sa, da, ka) (nI i) := by
  unfold wpX_ruleAction
  dsimp only
  rw [nI_clamp (show i < 2 ^ 31 by omega), ek, pk_shrN (show k < 2 ^ 31 by omega) _ 4 (by decide)]
  exact ⟨vp_in_nI hi (by omega), h⟩
theorem px_pa {post : Int32 → Prop} {c p : Nat} {x : Int32} (j : Nat) (hx : x = nI j) (hj : j ≤ c) (hc : c ≤ 12) (hp : p < 4096) (hs : po_R 1024 sa) (hd : po_R 1024 da) (hk : po_R 64 ka) (h : post (po_ac df ka (po_ff (po_m sa da ka p) (c - j) j))) : wpX_packetAction post (nI c, df, sa, da, ka) (nI p) x := by
  unfold wpX_packetAction
  dsimp only
  refine px_fm j hx hj hc hp hs hd hk ?_
  rcases po_ff_in (po_m sa da ka p) (c - j) j with e | ⟨i, h1, h2, e⟩
  · rw [e] at h ⊢
    rw [po_ac_n] at h
    exact br_t rfl h
  · rw [e] at h ⊢
    obtain ⟨k, k1, ek⟩ := hk i
    rw [po_ac_s df ka (by omega) ek (by omega)] at h
    exact br_f (po_m1 (by omega)) (px_ra (by omega) ek k1 h)
theorem px_pa0 {post : Int32 → Prop} {c p : Nat} (hc : c ≤ 12) (hp : p < 4096) (hs : po_R 1024 sa) (hd : po_R 1024 da) (hk : po_R 64 ka) (h : post (po_ac df ka (po_ff (po_m sa da ka p) c 0))) : wpX_packetAction post (nI c, df, sa, da, ka) (nI p) 0 :=
  px_pa 0 rfl (Nat.zero_le c) hc hp hs hd hk h
theorem py_80 {post : Int32 → Prop} {c j p k : Nat} (a b : Bool) (hj : j < 12) (hp : p < 4096) (ek : ka j = nI k) (k1 : k < 64) (h : post (po_b (a && b && decide (k / 2 ^ (p % 4) % 2 = 1)))) : wY_matches_80 post (nI j) (nI p) (po_b a) (po_b b) (nI c) df sa da ka := by
  unfold wY_matches_80
  have ij : vp_in (nI j) 12 := vp_in_nI hj (by omega)
  have e3 : nI p - nI p / 4 * 4 = nI (p % 4) := pk_rem (d := 4) (by omega) (by decide) (by decide)
  rw [nI_clamp (show j < 2 ^ 31 by omega), ek, e3, po_bit k1 (show p % 4 < 32 by omega)]
  cases a
  · exact br_t rfl h
  · refine br_f po_b1 ?_
    cases b
    · exact br_t rfl h
    · refine br_f po_b1 ⟨ij, by decide, ?_⟩
      refine pk_eq (k / 2 ^ (p % 4) % 2) 1 (fun hC => ?_) (fun hC => ?_) rfl rfl (po_mod2 _) (by omega)
      · rw [decide_eq_true hC] at h; exact h
      · rw [decide_eq_false hC] at h; exact h
theorem py_45 {post : Int32 → Prop} {c j p d k : Nat} (a : Bool) (hj : j < 12) (hp : p < 4096) (ed : da j = nI d) (d1 : d < 1024) (ek : ka j = nI k) (k1 : k < 64) (h : post (po_b (a && decide (d / 32 ≤ p / 4 % 32 ∧ p / 4 % 32 ≤ d % 32) && decide (k / 2 ^ (p % 4) % 2 = 1)))) : wY_matches_45 post (nI j) (nI p) (nI (p / 4 % 32)) (po_b a) (nI c) df sa da ka := by
  unfold wY_matches_45 wY_matches_79
  have ij : vp_in (nI j) 12 := vp_in_nI hj (by omega)
  have e2 : nI d - nI d / 32 * 32 = nI (d % 32) := pk_rem (d := 32) (by omega) (by decide) (by decide)
  have e1 : nI d / 32 = nI (d / 32) := pk_div (d := 32) (by omega) (by decide) (by decide)
  rw [nI_clamp (show j < 2 ^ 31 by omega), ed, e2, e1]
  refine ⟨ij, by decide, pk_lt (p / 4 % 32) (d / 32) (fun h1 => ?_) (fun h1 => ⟨ij, by decide, pk_lt (d % 32) (p / 4 % 32) (fun h2 => ?_) (fun h2 => ?_)⟩)⟩
  · rw [decide_eq_false (show ¬ (d / 32 ≤ p / 4 % 32 ∧ p / 4 % 32 ≤ d % 32) by omega)] at h
    exact py_80 a false hj hp ek k1 h
  · rw [decide_eq_false (show ¬ (d / 32 ≤ p / 4 % 32 ∧ p / 4 % 32 ≤ d % 32) by omega)] at h
    exact py_80 a false hj hp ek k1 h
  · rw [decide_eq_true (show d / 32 ≤ p / 4 % 32 ∧ p / 4 % 32 ≤ d % 32 by omega)] at h
    exact py_80 a true hj hp ek k1 h
theorem py_ma {post : Int32 → Prop} {c j p : Nat} (hj : j < 12) (hp : p < 4096) (hs : po_R 1024 sa) (hd : po_R 1024 da) (hk : po_R 64 ka) (h : post (po_b (po_m sa da ka p j))) : wpY_matches post (nI c, df, sa, da, ka) (nI j) (nI p) := by
  obtain ⟨s, s1, es⟩ := hs j
  obtain ⟨d, d1, ed⟩ := hd j
  obtain ⟨k, k1, ek⟩ := hk j
  rw [po_m_e p es s1 ed d1 ek k1] at h
  unfold po_mt at h
  unfold wpY_matches wY_matches_44
  dsimp only
  have ij : vp_in (nI j) 12 := vp_in_nI hj (by omega)
  have e2 : nI s - nI s / 32 * 32 = nI (s % 32) := pk_rem (d := 32) (by omega) (by decide) (by decide)
  have e1 : nI s / 32 = nI (s / 32) := pk_div (d := 32) (by omega) (by decide) (by decide)
  have e4 : nI p / 4 = nI (p / 4) := pk_div (d := 4) (by omega) (by decide) (by decide)
  have e5 : nI (p / 4) - nI (p / 4) / 32 * 32 = nI (p / 4 % 32) := pk_rem (d := 32) (by omega) (by decide) (by decide)
  have e7 : nI p / 128 = nI (p / 128) := pk_div (d := 128) (by omega) (by decide) (by decide)
  rw [nI_clamp (show j < 2 ^ 31 by omega), es, e2, e1, e4, e5, e7]
  refine ⟨by decide, nm_e ⟨by decide, by decide, nm_e ⟨ij, by decide, ?_⟩⟩⟩
  refine pk_lt (p / 128) (s / 32) (fun h1 => ?_) (fun h1 => ⟨ij, by decide, pk_lt (s % 32) (p / 128) (fun h2 => ?_) (fun h2 => ?_)⟩)
  · rw [decide_eq_false (show ¬ (s / 32 ≤ p / 128 ∧ p / 128 ≤ s % 32) by omega)] at h
    exact py_45 false hj hp ed d1 ek k1 h
  · rw [decide_eq_false (show ¬ (s / 32 ≤ p / 128 ∧ p / 128 ≤ s % 32) by omega)] at h
    exact py_45 false hj hp ed d1 ek k1 h
  · rw [decide_eq_true (show s / 32 ≤ p / 128 ∧ p / 128 ≤ s % 32 by omega)] at h
    exact py_45 true hj hp ed d1 ek k1 h
theorem py_ff {post : Int32 → Prop} {c p : Nat} {w : Int32} {m : Nat → Bool} (hc : c ≤ 12) (hp : p < 4096) (hs : po_R 1024 sa) (hd : po_R 1024 da) (hk : po_R 64 ka) (h1 : ∀ j, j < 12 → nI j = w → ¬ m j = true) (h2 : ∀ j, j < 12 → ¬ nI j = w → m j = po_m sa da ka p j) : ∀ d j : Nat, j + d = c → post (po_ff m d j) → wY_deciding_2 post (nI p) w (nI c) df sa da ka (d + 1) (nI j) := by
  intro d
  induction d with
  | zero =>
    intro j hj h
    exact br_t (nI_le (by omega) (by omega)) h
  | succ d ih =>
    intro j hj h
    refine br_f (nI_ge (by omega) (by omega)) (br_c (fun e => ?_) (fun e => ?_))
    · rw [po_ff_f (h1 j (by omega) e)] at h
      exact nm_r (nI_1 j) (ih (j + 1) (by omega) h)
    · refine py_ma (by omega) hp hs hd hk ?_
      rw [← h2 j (by omega) e]
      by_cases hm : m j = true
      · rw [po_ff_t hm] at h
        rw [hm]
        exact br_f po_b1 h
      · rw [po_ff_f hm] at h
        rw [po_nt hm]
        exact br_t rfl (nm_r (nI_1 j) (ih (j + 1) (by omega) h))
theorem py_de {post : Int32 → Prop} {c p : Nat} (hc : c ≤ 12) (hp : p < 4096) (hs : po_R 1024 sa) (hd : po_R 1024 da) (hk : po_R 64 ka) (h : post (po_ff (po_m sa da ka p) c 0)) : wpY_deciding post (nI c, df, sa, da, ka) (nI p) (-1) := by
  unfold wpY_deciding
  dsimp only
  exact ⟨c + 1, py_ff hc hp hs hd hk (fun j hj e => absurd e (po_m1 (by omega))) (fun j hj e => rfl) c 0 (by omega) h⟩
theorem py_dw {post : Int32 → Prop} {c p w : Nat} (hw : w < 12) (hc : c ≤ 12) (hp : p < 4096) (hs : po_R 1024 sa) (hd : po_R 1024 da) (hk : po_R 64 ka) (h : post (po_ff (po_wo (po_m sa da ka p) w) c 0)) : wpY_deciding post (nI c, df, sa, da, ka) (nI p) (nI w) := by
  unfold wpY_deciding
  dsimp only
  refine ⟨c + 1, py_ff hc hp hs hd hk (fun j hj e => ?_) (fun j hj e => ?_) c 0 (by omega) h⟩
  · rw [nI_eq (by omega) (by omega)] at e
    rw [e]
    exact po_wo_w _ _
  · rw [nI_eq (by omega) (by omega)] at e
    exact po_wo_n _ e
theorem py_ao {post : Int32 → Prop} {c : Nat} {r : Int32} (hr : r = -1 ∨ ∃ i, i < 12 ∧ r = nI i) (hk : po_R 64 ka) (h : post (po_ac df ka r)) : wpY_actionOf post (nI c, df, sa, da, ka) r := by
  unfold wpY_actionOf
  dsimp only
  rcases hr with rfl | ⟨i, hi, rfl⟩
  · rw [po_ac_n] at h
    exact br_f (by decide) h
  · obtain ⟨k, k1, ek⟩ := hk i
    rw [po_ac_s df ka (by omega) ek (by omega)] at h
    have e1 : nI k / 16 = nI (k / 16) := pk_div (d := 16) (by omega) (by decide) (by decide)
    rw [nI_clamp (show i < 2 ^ 31 by omega), ek, e1]
    exact br_t (nI_pos' (by omega)) ⟨vp_in_nI hi (by omega), by decide, h⟩
theorem po_ff_r (m : Nat → Bool) {d j : Nat} (h : j + d ≤ 12) : po_ff m d j = -1 ∨ ∃ i, i < 12 ∧ po_ff m d j = nI i := by
  rcases po_ff_in m d j with e | ⟨i, h1, h2, e⟩
  · exact Or.inl e
  · exact Or.inr ⟨i, by omega, e⟩
end
