/-! the relation, and what is owed -/
def i_Rel (_ : Nat) (u : SX) (v : SY) : Prop := ∃ (c : Nat) (df : Int32) (sa da ka : Nat → Int32), u = (nI c, df, sa, da, ka) ∧ v = (nI c, df, sa, da, ka) ∧ c ≤ 12 ∧ po_R 1024 sa ∧ po_R 1024 da ∧ po_R 64 ka
theorem i_up {k : Nat} {u : SX} {v : SY} (h : i_Rel k u v) : i_Rel (k + 5) u v := h
theorem i_vc0 : wpX_init (fun u => wpY_init (fun v => i_Rel 0 u v)) :=
  ⟨0, 0, fun _ => 0, fun _ => 0, fun _ => 0, rfl, rfl, by omega, po_R_0 (by omega), po_R_0 (by omega), po_R_0 (by omega)⟩
theorem i_vc_insert {k : Nat} {u : SX} {v : SY} (I : i_Rel k u v) (hk : k + 5 ≤ 2560) (v1 : Int32) (v2 : Int32) (v3 : Int32) (v4 : Int32) : wpX_insert (fun r u' => wpY_insert (fun r' v' => r' = r ∧ i_Rel (k + 5) u' v') v v1 v2 v3 v4) u v1 v2 v3 v4 := by
  have J := I
  obtain ⟨c, df, sa, da, ka, rfl, rfl, hc, hs, hd, hq⟩ := I
  rcases pz_in (df := df) (sa := sa) (da := da) (ka := ka) hc v1 v2 v3 v4 with ⟨j, s, d, e, h1, h2, h3, h4, h5, rfl, rfl, rfl, rfl⟩ | ⟨hX, hY⟩
  · refine px_in h1 h2 h3 h4 h5 (py_in h1 h2 h3 h4 h5 ⟨rfl, c + 1, df, _, _, _, rfl, rfl, by omega, ?_, ?_, ?_⟩)
    · exact po_R_upd (po_R_dn hs j c) j ⟨s, h3, rfl⟩
    · exact po_R_upd (po_R_dn hd j c) j ⟨d, h4, rfl⟩
    · exact po_R_upd (po_R_dn hq j c) j ⟨e, h5, rfl⟩
  · exact hX _ (hY _ ⟨rfl, J⟩)
theorem i_vc_remove {k : Nat} {u : SX} {v : SY} (I : i_Rel k u v) (hk : k + 5 ≤ 2560) (v1 : Int32) : wpX_remove (fun r u' => wpY_remove (fun r' v' => r' = r ∧ i_Rel (k + 5) u' v') v v1) u v1 := by
  have J := I
  obtain ⟨c, df, sa, da, ka, rfl, rfl, hc, hs, hd, hq⟩ := I
  rcases pk_ix v1 (n := c) (by omega) with h | h | ⟨j, hj, rfl⟩
  · exact px_rm0 (Or.inl h) (py_rm0 (Or.inl h) ⟨rfl, J⟩)
  · exact px_rm0 (Or.inr h) (py_rm0 (Or.inr h) ⟨rfl, J⟩)
  · obtain ⟨m, rfl⟩ : ∃ m, c = m + 1 := ⟨c - 1, by omega⟩
    exact px_rm (by omega) (by omega) (py_rm (by omega) (by omega) ⟨rfl, m, df, _, _, _, rfl, rfl, by omega, po_R_up hs j m, po_R_up hd j m, po_R_up hq j m⟩)
theorem i_vc_shift {k : Nat} {u : SX} {v : SY} (I : i_Rel k u v) (hk : k + 5 ≤ 2560) (v1 : Int32) (v2 : Int32) : wpX_shift (fun r u' => wpY_shift (fun r' v' => r' = r ∧ i_Rel (k + 5) u' v') v v1 v2) u v1 v2 := by
  have J := I
  obtain ⟨c, df, sa, da, ka, rfl, rfl, hc, hs, hd, hq⟩ := I
  rcases pk_ix v1 (n := c) (by omega) with h | h | ⟨f, hf, rfl⟩
  · exact px_sh0 (Or.inl h) (py_sh0 (Or.inl h) ⟨rfl, J⟩)
  · exact px_sh0 (Or.inr h) (py_sh0 (Or.inr h) ⟨rfl, J⟩)
  rcases pk_ix v2 (n := c) (by omega) with h | h | ⟨t, ht, rfl⟩
  · exact px_sh1 hf hc (Or.inl h) (py_sh1 hf hc (Or.inl h) ⟨rfl, J⟩)
  · exact px_sh1 hf hc (Or.inr h) (py_sh1 hf hc (Or.inr h) ⟨rfl, J⟩)
  obtain ⟨m, rfl⟩ : ∃ m, c = m + 1 := ⟨c - 1, by omega⟩
  obtain ⟨s, s1, es⟩ := hs f
  obtain ⟨d, d1, ed⟩ := hd f
  obtain ⟨e, e1, ee⟩ := hq f
  refine px_sh (by omega) (by omega) (by omega) es ed ee (py_sh (by omega) (by omega) (by omega) es s1 ed d1 ee e1 ⟨rfl, m + 1, df, _, _, _, rfl, rfl, hc, ?_, ?_, ?_⟩)
  · exact po_R_upd (po_R_dn (po_R_up hs f m) t m) t ⟨s, s1, rfl⟩
  · exact po_R_upd (po_R_dn (po_R_up hd f m) t m) t ⟨d, d1, rfl⟩
  · exact po_R_upd (po_R_dn (po_R_up hq f m) t m) t ⟨e, e1, rfl⟩
theorem i_vc_otherwise {k : Nat} {u : SX} {v : SY} (I : i_Rel k u v) (hk : k + 5 ≤ 2560) (v1 : Int32) : wpX_otherwise (fun r u' => wpY_otherwise (fun r' v' => r' = r ∧ i_Rel (k + 5) u' v') v v1) u v1 := by
  obtain ⟨c, df, sa, da, ka, rfl, rfl, hc, hs, hd, hq⟩ := I
  exact nm_e (nm_e ⟨rfl, c, v1 &&& 3, sa, da, ka, rfl, rfl, hc, hs, hd, hq⟩)
theorem i_vc_decide {k : Nat} {u : SX} {v : SY} (I : i_Rel k u v) (hk : k + 5 ≤ 2560) (v1 : Int32) (v2 : Int32) (v3 : Int32) : wpX_decide (fun r => wpY_decide (fun r' => r' = r ∧ i_Rel (k + 5) u v) v v1 v2 v3) u v1 v2 v3 := by
  have J := I
  obtain ⟨c, df, sa, da, ka, rfl, rfl, hc, hs, hd, hq⟩ := I
  rcases pz_pk v1 v2 v3 with ⟨a, b, t, ha, hb, ht, rfl, rfl, rfl⟩ | ⟨hX, hY⟩
  · exact px_dc ha hb ht hc hs hd hq (py_dc ha hb ht hc hs hd hq ⟨rfl, J⟩)
  · unfold wpX_decide wpY_decide
    dsimp only
    exact hX _ (br_t rfl (hY _ (br_f po_10 ⟨rfl, J⟩)))
theorem i_vc_action {k : Nat} {u : SX} {v : SY} (I : i_Rel k u v) (hk : k + 5 ≤ 2560) (v1 : Int32) (v2 : Int32) (v3 : Int32) : wpX_action (fun r => wpY_action (fun r' => r' = r ∧ i_Rel (k + 5) u v) v v1 v2 v3) u v1 v2 v3 := by
  have J := I
  obtain ⟨c, df, sa, da, ka, rfl, rfl, hc, hs, hd, hq⟩ := I
  rcases pz_pk v1 v2 v3 with ⟨a, b, t, ha, hb, ht, rfl, rfl, rfl⟩ | ⟨hX, hY⟩
  · exact px_at ha hb ht hc hs hd hq (py_at ha hb ht hc hs hd hq ⟨rfl, J⟩)
  · unfold wpX_action wpY_action wpY_decide
    dsimp only
    exact hX _ (br_t rfl (hY _ (br_f po_10 (br_t rfl ⟨rfl, J⟩))))
theorem i_vc_decided {k : Nat} {u : SX} {v : SY} (I : i_Rel k u v) (hk : k + 5 ≤ 2560) (v1 : Int32) : wpX_decided (fun r => wpY_decided (fun r' => r' = r ∧ i_Rel (k + 5) u v) v v1) u v1 := by
  have J := I
  obtain ⟨c, df, sa, da, ka, rfl, rfl, hc, hs, hd, hq⟩ := I
  obtain ⟨r, hX, hY⟩ := pz_decided (df := df) (x := v1) hc hs hd hq 4096 0 rfl 0
  rw [nI_0] at hX hY
  unfold wpX_decided wpY_decided
  dsimp only
  by_cases e : v1 = -1
  · exact br_t e ⟨_, hX _ (br_t e ⟨_, hY _ ⟨rfl, J⟩⟩)⟩
  rcases pk_ix v1 (n := c) (by omega) with h | h | ⟨j, hj, rfl⟩
  · exact br_f e (px_pl0 (Or.inl h) (br_t rfl (br_f e (py_pl0 (Or.inl h) (br_f po_10 ⟨rfl, J⟩)))))
  · exact br_f e (px_pl0 (Or.inr h) (br_t rfl (br_f e (py_pl0 (Or.inr h) (br_f po_10 ⟨rfl, J⟩)))))
  · exact br_f e (px_pl1 hj hc (br_f po_10 ⟨_, hX _ (br_f e (py_pl1 hj hc (br_t rfl ⟨_, hY _ ⟨rfl, J⟩⟩)))⟩))
theorem i_vc_having {k : Nat} {u : SX} {v : SY} (I : i_Rel k u v) (hk : k + 5 ≤ 2560) (v1 : Int32) : wpX_having (fun r => wpY_having (fun r' => r' = r ∧ i_Rel (k + 5) u v) v v1) u v1 := by
  have J := I
  obtain ⟨c, df, sa, da, ka, rfl, rfl, hc, hs, hd, hq⟩ := I
  obtain ⟨r, hX, hY⟩ := pz_having (df := df) (x := v1) hc hs hd hq 4096 0 rfl 0
  rw [nI_0] at hX hY
  unfold wpX_having wpY_having
  dsimp only
  exact nm_e ⟨_, hX _ ⟨_, hY _ ⟨rfl, J⟩⟩⟩
theorem i_vc_use {k : Nat} {u : SX} {v : SY} (I : i_Rel k u v) (hk : k + 5 ≤ 2560) (v1 : Int32) : wpX_use (fun r => wpY_use (fun r' => r' = r ∧ i_Rel (k + 5) u v) v v1) u v1 := by
  have J := I
  obtain ⟨c, df, sa, da, ka, rfl, rfl, hc, hs, hd, hq⟩ := I
  unfold wpX_use wpY_use
  dsimp only
  rcases pk_ix v1 (n := c) (by omega) with h | h | ⟨j, hj, rfl⟩
  · exact px_pl0 (Or.inl h) (br_t rfl (py_pl0 (Or.inl h) (br_f po_10 ⟨rfl, J⟩)))
  · exact px_pl0 (Or.inr h) (br_t rfl (py_pl0 (Or.inr h) (br_f po_10 ⟨rfl, J⟩)))
  · obtain ⟨r, hX, hY⟩ := pz_use (df := df) hj hc hs hd hq 4096 0 rfl 1 1 (Or.inl ⟨rfl, rfl⟩)
    rw [nI_0] at hX hY
    exact px_pl1 hj hc (br_f po_10 ⟨_, hX _ (py_pl1 hj hc (br_t rfl ⟨_, hY _ ⟨rfl, J⟩⟩))⟩)
theorem i_vc_witness {k : Nat} {u : SX} {v : SY} (I : i_Rel k u v) (hk : k + 5 ≤ 2560) (v1 : Int32) : wpX_witness (fun r => wpY_witness (fun r' => r' = r ∧ i_Rel (k + 5) u v) v v1) u v1 := by
  have J := I
  obtain ⟨c, df, sa, da, ka, rfl, rfl, hc, hs, hd, hq⟩ := I
  obtain ⟨r, hX, hY⟩ := pz_witness (df := df) (x := v1) hc hs hd hq 4096 0 rfl
  rw [nI_0] at hX hY
  unfold wpX_witness wpY_witness
  dsimp only
  by_cases e : v1 = -1
  · exact br_t e ⟨_, hX _ (br_t e ⟨_, hY _ ⟨rfl, J⟩⟩)⟩
  rcases pk_ix v1 (n := c) (by omega) with h | h | ⟨j, hj, rfl⟩
  · exact br_f e (px_pl0 (Or.inl h) (br_t rfl (br_f e (py_pl0 (Or.inl h) (br_f po_10 ⟨rfl, J⟩)))))
  · exact br_f e (px_pl0 (Or.inr h) (br_t rfl (br_f e (py_pl0 (Or.inr h) (br_f po_10 ⟨rfl, J⟩)))))
  · exact br_f e (px_pl1 hj hc (br_f po_10 ⟨_, hX _ (br_f e (py_pl1 hj hc (br_t rfl ⟨_, hY _ ⟨rfl, J⟩⟩)))⟩))
