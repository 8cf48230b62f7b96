/-! moving rules: the copying loops of each side against po_up and po_dn, general post -/
section
variable {df : Int32}
theorem px_put {post : SX → Prop} {f : Int32} {sa da ka : Nat → Int32} {x y z : Int32} {i : Nat} (hi : i < 12) (h : post (f, df, upd sa i x, upd da i y, upd ka i z)) : wpX_putRule post (f, df, sa, da, ka) (nI i) x y z := by
  unfold wpX_putRule
  dsimp only
  have ii : vp_in (nI i) 12 := vp_in_nI hi (by omega)
  rw [nI_clamp (show i < 2 ^ 31 by omega)]
  exact ⟨ii, nm_e ⟨ii, nm_e ⟨ii, nm_e h⟩⟩⟩
theorem px_cp {post : SX → Prop} {f : Int32} {sa da ka : Nat → Int32} {x y : Int32} (a b : Nat) (hx : x = nI a) (hy : y = nI b) (ha : a < 12) (hb : b < 12) (h : post (f, df, upd sa b (sa a), upd da b (da a), upd ka b (ka a))) : wpX_copyRule post (f, df, sa, da, ka) x y := by
  subst hx hy
  unfold wpX_copyRule
  dsimp only
  have ia : vp_in (nI a) 12 := vp_in_nI ha (by omega)
  have ib : vp_in (nI b) 12 := vp_in_nI hb (by omega)
  rw [nI_clamp (show a < 2 ^ 31 by omega), nI_clamp (show b < 2 ^ 31 by omega)]
  exact ⟨ia, ib, nm_e ⟨ia, ib, nm_e ⟨ia, ib, nm_e h⟩⟩⟩
theorem py_put {post : SY → Prop} {f : Int32} {sa da ka : Nat → Int32} {x y z : Int32} {i : Nat} (hi : i < 12) (h : post (f, df, upd sa i x, upd da i y, upd ka i z)) : wpY_write post (f, df, sa, da, ka) (nI i) x y z := by
  unfold wpY_write
  dsimp only
  have ii : vp_in (nI i) 12 := vp_in_nI hi (by omega)
  rw [nI_clamp (show i < 2 ^ 31 by omega)]
  exact ⟨ii, nm_e ⟨ii, nm_e ⟨ii, nm_e h⟩⟩⟩
theorem py_cp {post : SY → Prop} {f : Int32} {sa da ka : Nat → Int32} {x y : Int32} (a b : Nat) (hx : x = nI a) (hy : y = nI b) (ha : a < 12) (hb : b < 12) (h : post (f, df, upd sa b (sa a), upd da b (da a), upd ka b (ka a))) : wpY_copy post (f, df, sa, da, ka) y x := by
  subst hx hy
  unfold wpY_copy
  dsimp only
  have ia : vp_in (nI a) 12 := vp_in_nI ha (by omega)
  have ib : vp_in (nI b) 12 := vp_in_nI hb (by omega)
  rw [nI_clamp (show a < 2 ^ 31 by omega), nI_clamp (show b < 2 ^ 31 by omega)]
  exact ⟨ia, ib, nm_e ⟨ia, ib, nm_e ⟨ia, ib, nm_e h⟩⟩⟩
theorem px_il {post : Int32 → SX → Prop} {c j : Nat} {x y z : Int32} (hc : c < 12) : ∀ (d : Nat) (sa da ka : Nat → Int32), j + d ≤ c → post (nI (c + 1)) (nI (c + 1), df, upd (po_dn sa j (j + d)) j x, upd (po_dn da j (j + d)) j y, upd (po_dn ka j (j + d)) j z) → wX_insert_53 post (nI j) x y z (d + 1) (nI (j + d)) (nI c) df sa da ka := by
  intro d
  induction d with
  | zero =>
    intro sa da ka hj h
    rw [po_dn_0 sa (show j + 0 ≤ j by omega), po_dn_0 da (show j + 0 ≤ j by omega), po_dn_0 ka (show j + 0 ≤ j by omega)] at h
    refine br_t (nI_le (by omega) (by omega)) (px_put (by omega) ?_)
    exact nm_r (nI_1 c) h
  | succ d ih =>
    intro sa da ka hj h
    refine br_f (nI_ge (by omega) (by omega)) (px_cp (j + d) (j + (d + 1)) (nI_pred (j + d)) rfl (by omega) (by omega) ?_)
    refine nm_r (pk_m1 (j + d)) (ih _ _ _ (by omega) ?_)
    rw [show j + (d + 1) = j + d + 1 from rfl, po_dn_s, po_dn_s, po_dn_s]
    exact h
theorem py_il {post : Int32 → SY → Prop} {c j : Nat} {x y z : Int32} (hc : c < 12) : ∀ (d : Nat) (sa da ka : Nat → Int32), j + d ≤ c → post (nI (c + 1)) (nI (c + 1), df, upd (po_dn sa j (j + d)) j x, upd (po_dn da j (j + d)) j y, upd (po_dn ka j (j + d)) j z) → wY_insert_65 post (nI j) x y z (d + 1) (nI (j + d)) (nI c) df sa da ka := by
  intro d
  induction d with
  | zero =>
    intro sa da ka hj h
    rw [po_dn_0 sa (show j + 0 ≤ j by omega), po_dn_0 da (show j + 0 ≤ j by omega), po_dn_0 ka (show j + 0 ≤ j by omega)] at h
    refine br_t (nI_le (by omega) (by omega)) (py_put (by omega) ?_)
    exact nm_r (nI_1 c) h
  | succ d ih =>
    intro sa da ka hj h
    refine br_f (nI_ge (by omega) (by omega)) (py_cp (j + d) (j + (d + 1)) (nI_pred (j + d)) rfl (by omega) (by omega) ?_)
    refine nm_r (pk_m1 (j + d)) (ih _ _ _ (by omega) ?_)
    rw [show j + (d + 1) = j + d + 1 from rfl, po_dn_s, po_dn_s, po_dn_s]
    exact h
theorem px_rl {post : Int32 → SX → Prop} {m : Nat} (hm : m < 12) : ∀ (d j : Nat) (sa da ka : Nat → Int32), j + d = m → post (nI m) (nI m, df, po_up sa j m, po_up da j m, po_up ka j m) → wX_remove_22 post (d + 1) (nI j) (nI m) df sa da ka := by
  intro d
  induction d with
  | zero =>
    intro j sa da ka hj h
    rw [po_up_0 sa (show m ≤ j by omega), po_up_0 da (show m ≤ j by omega), po_up_0 ka (show m ≤ j by omega)] at h
    exact br_t (nI_le (by omega) (by omega)) h
  | succ d ih =>
    intro j sa da ka hj h
    refine br_f (nI_ge (by omega) (by omega)) (px_cp (j + 1) j (nI_1 j) rfl (by omega) (by omega) ?_)
    refine nm_r (nI_1 j) (ih (j + 1) _ _ _ (by omega) ?_)
    rw [po_up_s sa (show j < m by omega), po_up_s da (show j < m by omega), po_up_s ka (show j < m by omega)]
    exact h
theorem py_rl {post : Int32 → SY → Prop} {m : Nat} (hm : m < 12) : ∀ (d j : Nat) (sa da ka : Nat → Int32), j + d = m → post (nI m) (nI m, df, po_up sa j m, po_up da j m, po_up ka j m) → wY_remove_22 post (d + 1) (nI j) (nI m) df sa da ka := by
  intro d
  induction d with
  | zero =>
    intro j sa da ka hj h
    rw [po_up_0 sa (show m ≤ j by omega), po_up_0 da (show m ≤ j by omega), po_up_0 ka (show m ≤ j by omega)] at h
    exact br_t (nI_le (by omega) (by omega)) h
  | succ d ih =>
    intro j sa da ka hj h
    refine br_f (nI_ge (by omega) (by omega)) (py_cp (j + 1) j (nI_1 j) rfl (by omega) (by omega) ?_)
    refine nm_r (nI_1 j) (ih (j + 1) _ _ _ (by omega) ?_)
    rw [po_up_s sa (show j < m by omega), po_up_s da (show j < m by omega), po_up_s ka (show j < m by omega)]
    exact h
theorem px_sd {post : Int32 → SX → Prop} {c t : Nat} {x y z : Int32} (hc : c ≤ 12) (ht : t < c) : ∀ (d : Nat) (sa da ka : Nat → Int32), t + d < c → post 0 (nI c, df, upd (po_dn sa t (t + d)) t x, upd (po_dn da t (t + d)) t y, upd (po_dn ka t (t + d)) t z) → wX_shift_69 post (nI t) x y z (d + 1) (nI (t + d)) (nI c) df sa da ka := by
  intro d
  induction d with
  | zero =>
    intro sa da ka hj h
    rw [po_dn_0 sa (show t + 0 ≤ t by omega), po_dn_0 da (show t + 0 ≤ t by omega), po_dn_0 ka (show t + 0 ≤ t by omega)] at h
    exact br_t (nI_le (by omega) (by omega)) (px_put (by omega) h)
  | succ d ih =>
    intro sa da ka hj h
    refine br_f (nI_ge (by omega) (by omega)) (px_cp (t + d) (t + (d + 1)) (nI_pred (t + d)) rfl (by omega) (by omega) ?_)
    refine nm_r (pk_m1 (t + d)) (ih _ _ _ (by omega) ?_)
    rw [show t + (d + 1) = t + d + 1 from rfl, po_dn_s, po_dn_s, po_dn_s]
    exact h
theorem px_sd' {post : Int32 → SX → Prop} {c t f : Nat} {x y z : Int32} {sa da ka : Nat → Int32} (hc : c ≤ 12) (ht : t < c) (hf : f < c) (h : post 0 (nI c, df, upd (po_dn sa t f) t x, upd (po_dn da t f) t y, upd (po_dn ka t f) t z)) : ∃ n, wX_shift_69 post (nI t) x y z n (nI f) (nI c) df sa da ka := by
  by_cases q : f ≤ t
  · rw [po_dn_0 sa q, po_dn_0 da q, po_dn_0 ka q] at h
    exact ⟨1, br_t (nI_le q (by omega)) (px_put (by omega) h)⟩
  · obtain ⟨d, rfl⟩ : ∃ d, f = t + d := ⟨f - t, by omega⟩
    exact ⟨d + 1, px_sd hc ht d sa da ka hf h⟩
theorem px_su {post : Int32 → SX → Prop} {c t f : Nat} {x y z : Int32} (hc : c ≤ 12) (ht : t < c) : ∀ (d j : Nat) (sa da ka : Nat → Int32), j + d = t → (∃ n, wX_shift_69 post (nI t) x y z n (nI f) (nI c) df (po_up sa j t) (po_up da j t) (po_up ka j t)) → wX_shift_44 post (nI f) (nI t) x y z (d + 1) (nI j) (nI c) df sa da ka := by
  intro d
  induction d with
  | zero =>
    intro j sa da ka hj h
    rw [po_up_0 sa (show t ≤ j by omega), po_up_0 da (show t ≤ j by omega), po_up_0 ka (show t ≤ j by omega)] at h
    exact br_t (nI_le (by omega) (by omega)) h
  | succ d ih =>
    intro j sa da ka hj h
    refine br_f (nI_ge (by omega) (by omega)) (px_cp (j + 1) j (nI_1 j) rfl (by omega) (by omega) ?_)
    refine nm_r (nI_1 j) (ih (j + 1) _ _ _ (by omega) ?_)
    rw [po_up_s sa (show j < t by omega), po_up_s da (show j < t by omega), po_up_s ka (show j < t by omega)]
    exact h
theorem px_su' {post : Int32 → SX → Prop} {c t f : Nat} {x y z : Int32} {sa da ka : Nat → Int32} (hc : c ≤ 12) (ht : t < c) (hf : f < c) (h : post 0 (nI c, df, upd (po_dn (po_up sa f t) t f) t x, upd (po_dn (po_up da f t) t f) t y, upd (po_dn (po_up ka f t) t f) t z)) : ∃ n, wX_shift_44 post (nI f) (nI t) x y z n (nI f) (nI c) df sa da ka := by
  by_cases q : t ≤ f
  · rw [po_up_0 sa q, po_up_0 da q, po_up_0 ka q] at h
    exact ⟨1, br_t (nI_le q (by omega)) (px_sd' hc ht hf h)⟩
  · exact ⟨t - f + 1, px_su hc ht (t - f) f sa da ka (by omega) (px_sd' hc ht hf h)⟩
end
section
variable {df : Int32} {sa da ka : Nat → Int32}
theorem px_pl0 {post : Int32 → Prop} {c : Nat} {x : Int32} (h : x < 0 ∨ nI c ≤ x) (k : post 0) : wpX_isPlace post (nI c, df, sa, da, ka) x := by
  unfold wpX_isPlace
  dsimp only
  exact br_c (fun _ => k) (fun n => br_t (h.resolve_left n) k)
theorem px_pl1 {post : Int32 → Prop} {c j : Nat} (h : j < c) (hc : c ≤ 12) (k : post 1) : wpX_isPlace post (nI c, df, sa, da, ka) (nI j) := by
  unfold wpX_isPlace
  dsimp only
  exact br_f (nI_pos (by omega)) (br_f (nI_ge h (by omega)) k)
theorem py_pl0 {post : Int32 → Prop} {c : Nat} {x : Int32} (h : x < 0 ∨ nI c ≤ x) (k : post 1) : wpY_missing post (nI c, df, sa, da, ka) x := by
  unfold wpY_missing
  dsimp only
  exact br_c (fun _ => k) (fun n => br_f (Int32.not_lt.mpr (h.resolve_left n)) k)
theorem py_pl1 {post : Int32 → Prop} {c j : Nat} (h : j < c) (hc : c ≤ 12) (k : post 0) : wpY_missing post (nI c, df, sa, da, ka) (nI j) := by
  unfold wpY_missing
  dsimp only
  exact br_f (nI_pos (by omega)) (br_t (nI_lt h (by omega)) k)
theorem px_rg0 {post : Int32 → Prop} {x : Int32} (h : x < 0 ∨ nI 1024 ≤ x) (k : post 0) : wpX_isRange post x := by
  unfold wpX_isRange
  exact br_c (fun _ => k) (fun n => br_t (h.resolve_left n) k)
theorem px_rg1 {post : Int32 → Prop} {s : Nat} (h : s < 1024) (k : post 1) : wpX_isRange post (nI s) := by
  unfold wpX_isRange
  exact br_f (nI_pos (by omega)) (br_f (nI_ge (b := 1024) h (by decide)) k)
theorem px_kd0 {post : Int32 → Prop} {x : Int32} (h : x < 0 ∨ nI 64 ≤ x) (k : post 0) : wpX_isKind post x := by
  unfold wpX_isKind
  exact br_c (fun _ => k) (fun n => br_t (h.resolve_left n) k)
theorem px_kd1 {post : Int32 → Prop} {s : Nat} (h : s < 64) (k : post 1) : wpX_isKind post (nI s) := by
  unfold wpX_isKind
  exact br_f (nI_pos (by omega)) (br_f (nI_ge (b := 64) h (by decide)) k)
theorem px_in {post : Int32 → SX → Prop} {c j s d k : Nat} (hj : j ≤ c) (hc : c < 12) (hs : s < 1024) (hd : d < 1024) (hk : k < 64) (h : post (nI (c + 1)) (nI (c + 1), df, upd (po_dn sa j c) j (nI s), upd (po_dn da j c) j (nI d), upd (po_dn ka j c) j (nI k))) : wpX_insert post (nI c, df, sa, da, ka) (nI j) (nI s) (nI d) (nI k) := by
  unfold wpX_insert
  dsimp only
  refine br_f (nI_pos (by omega)) (br_f (nI_nlt hj (by omega)) (br_t (nI_lt (b := 12) hc (by decide)) ?_))
  refine px_rg1 hs (br_f po_10 (px_rg1 hd (br_f po_10 (px_kd1 hk (br_f po_10 ?_)))))
  obtain ⟨e, rfl⟩ : ∃ e, c = j + e := ⟨c - j, by omega⟩
  exact ⟨e + 1, px_il hc e sa da ka (by omega) h⟩
theorem py_in {post : Int32 → SY → Prop} {c j s d k : Nat} (hj : j ≤ c) (hc : c < 12) (hs : s < 1024) (hd : d < 1024) (hk : k < 64) (h : post (nI (c + 1)) (nI (c + 1), df, upd (po_dn sa j c) j (nI s), upd (po_dn da j c) j (nI d), upd (po_dn ka j c) j (nI k))) : wpY_insert post (nI c, df, sa, da, ka) (nI j) (nI s) (nI d) (nI k) := by
  unfold wpY_insert
  dsimp only
  have e12 : ¬ nI c = 12 := fun e => absurd ((nI_eq (b := 12) (by omega) (by decide)).mp e) (by omega)
  refine br_f (nI_pos (by omega)) (br_f (nI_nlt hj (by omega)) (br_f e12 ?_))
  refine br_f (nI_pos (by omega)) (br_f (nI_nlt (a := 1023) (by omega) (by decide)) ?_)
  refine br_f (nI_pos (by omega)) (br_f (nI_nlt (a := 1023) (by omega) (by decide)) ?_)
  refine br_f (nI_pos (by omega)) (br_t (nI_le (b := 63) (by omega) (by decide)) ?_)
  obtain ⟨e, rfl⟩ : ∃ e, c = j + e := ⟨c - j, by omega⟩
  exact ⟨e + 1, py_il hc e sa da ka (by omega) h⟩
theorem px_rm {post : Int32 → SX → Prop} {m j : Nat} (hj : j ≤ m) (hm : m < 12) (h : post (nI m) (nI m, df, po_up sa j m, po_up da j m, po_up ka j m)) : wpX_remove post (nI (m + 1), df, sa, da, ka) (nI j) := by
  unfold wpX_remove
  dsimp only
  refine px_pl1 (by omega) (by omega) (br_f po_10 (nm_r (nI_pred m) ?_))
  exact ⟨m - j + 1, px_rl hm (m - j) j sa da ka (by omega) h⟩
theorem py_rm {post : Int32 → SY → Prop} {m j : Nat} (hj : j ≤ m) (hm : m < 12) (h : post (nI m) (nI m, df, po_up sa j m, po_up da j m, po_up ka j m)) : wpY_remove post (nI (m + 1), df, sa, da, ka) (nI j) := by
  unfold wpY_remove
  dsimp only
  refine py_pl1 (by omega) (by omega) (br_t rfl (nm_r (nI_pred m) ?_))
  exact ⟨m - j + 1, py_rl hm (m - j) j sa da ka (by omega) h⟩
theorem px_sh {post : Int32 → SX → Prop} {m f t s d k : Nat} (hf : f ≤ m) (ht : t ≤ m) (hm : m < 12) (es : sa f = nI s) (ed : da f = nI d) (ek : ka f = nI k) (h : post 0 (nI (m + 1), df, upd (po_dn (po_up sa f m) t m) t (nI s), upd (po_dn (po_up da f m) t m) t (nI d), upd (po_dn (po_up ka f m) t m) t (nI k))) : wpX_shift post (nI (m + 1), df, sa, da, ka) (nI f) (nI t) := by
  unfold wpX_shift
  dsimp only
  have ii : vp_in (nI f) 12 := vp_in_nI (by omega) (by omega)
  rw [nI_clamp (show f < 2 ^ 31 by omega), es, ed, ek]
  refine px_pl1 (by omega) (by omega) (br_f po_10 (px_pl1 (by omega) (by omega) (br_f po_10 ?_)))
  refine ⟨ii, nm_e ⟨ii, nm_e ⟨ii, nm_e ?_⟩⟩⟩
  rw [← po_shift sa hf ht, ← po_shift da hf ht, ← po_shift ka hf ht] at h
  exact px_su' (by omega) (by omega) (by omega) h
theorem py_sh {post : Int32 → SY → Prop} {m f t s d k : Nat} (hf : f ≤ m) (ht : t ≤ m) (hm : m < 12) (es : sa f = nI s) (hs : s < 1024) (ed : da f = nI d) (hd : d < 1024) (ek : ka f = nI k) (hk : k < 64) (h : post 0 (nI (m + 1), df, upd (po_dn (po_up sa f m) t m) t (nI s), upd (po_dn (po_up da f m) t m) t (nI d), upd (po_dn (po_up ka f m) t m) t (nI k))) : wpY_shift post (nI (m + 1), df, sa, da, ka) (nI f) (nI t) := by
  unfold wpY_shift
  dsimp only
  have ii : vp_in (nI f) 12 := vp_in_nI (by omega) (by omega)
  rw [nI_clamp (show f < 2 ^ 31 by omega), es, ed, ek]
  refine py_pl1 (by omega) (by omega) (br_t rfl (py_pl1 (by omega) (by omega) (br_t rfl ?_)))
  refine ⟨ii, nm_e ⟨ii, nm_e ⟨ii, nm_e ?_⟩⟩⟩
  refine py_rm hf hm ?_
  exact py_in ht hm hs hd hk h
end
