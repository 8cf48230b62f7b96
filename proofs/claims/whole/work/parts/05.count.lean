/-! decided, having, use, witness: both loops in step over the 4096 packets, one answer for every post -/
section
variable {df : Int32} {sa da ka : Nat → Int32}
theorem po_end {p : Nat} (h : p + 0 = 4096) : (4096 : Int32) ≤ nI p := nI_le (a := 4096) (by omega) (by omega)
theorem po_go {d p : Nat} (h : p + (d + 1) = 4096) : ¬ (4096 : Int32) ≤ nI p := nI_ge (b := 4096) (by omega) (by decide)
theorem pz_decided {c : Nat} {x : Int32} (hc : c ≤ 12) (hs : po_R 1024 sa) (hd : po_R 1024 da) (hk : po_R 64 ka) : ∀ (d p : Nat), p + d = 4096 → ∀ n : Int32, ∃ r : Int32, (∀ post : Int32 → Prop, post r → wX_decided_20 post x (nI c) df sa da ka (d + 1) n (nI p)) ∧ (∀ post : Int32 → Prop, post r → wY_decided_20 post x (nI c) df sa da ka (d + 1) n (nI p)) := by
  intro d
  induction d with
  | zero =>
    intro p hp n
    exact ⟨n, fun _ h => br_t (po_end hp) h, fun _ h => br_t (po_end hp) h⟩
  | succ d ih =>
    intro p hp n
    have hp' : p < 4096 := by omega
    by_cases e : po_ff (po_m sa da ka p) c 0 = x
    · obtain ⟨r, hX, hY⟩ := ih (p + 1) (by omega) (n + 1)
      refine ⟨r, fun post h => br_f (po_go hp) (px_fm0 hc hp' hs hd hk (br_t e (nm_e (nm_r (nI_1 p) (hX post h))))), fun post h => br_f (po_go hp) (py_de hc hp' hs hd hk (br_t e (nm_e (nm_r (nI_1 p) (hY post h)))))⟩
    · obtain ⟨r, hX, hY⟩ := ih (p + 1) (by omega) n
      refine ⟨r, fun post h => br_f (po_go hp) (px_fm0 hc hp' hs hd hk (br_f e (nm_r (nI_1 p) (hX post h)))), fun post h => br_f (po_go hp) (py_de hc hp' hs hd hk (br_f e (nm_r (nI_1 p) (hY post h))))⟩
theorem pz_witness {c : Nat} {x : Int32} (hc : c ≤ 12) (hs : po_R 1024 sa) (hd : po_R 1024 da) (hk : po_R 64 ka) : ∀ (d p : Nat), p + d = 4096 → ∃ r : Int32, (∀ post : Int32 → Prop, post r → wX_witness_18 post x (nI c) df sa da ka (d + 1) (nI p)) ∧ (∀ post : Int32 → Prop, post r → wY_witness_18 post x (nI c) df sa da ka (d + 1) (nI p)) := by
  intro d
  induction d with
  | zero =>
    intro p hp
    exact ⟨-1, fun _ h => br_t (po_end hp) h, fun _ h => br_t (po_end hp) h⟩
  | succ d ih =>
    intro p hp
    have hp' : p < 4096 := by omega
    by_cases e : po_ff (po_m sa da ka p) c 0 = x
    · exact ⟨nI p, fun post h => br_f (po_go hp) (px_fm0 hc hp' hs hd hk (br_t e h)), fun post h => br_f (po_go hp) (py_de hc hp' hs hd hk (br_t e h))⟩
    · obtain ⟨r, hX, hY⟩ := ih (p + 1) (by omega)
      refine ⟨r, fun post h => br_f (po_go hp) (px_fm0 hc hp' hs hd hk (br_f e (nm_r (nI_1 p) (hX post h)))), fun post h => br_f (po_go hp) (py_de hc hp' hs hd hk (br_f e (nm_r (nI_1 p) (hY post h))))⟩
theorem pz_having {c : Nat} {x : Int32} (hc : c ≤ 12) (hs : po_R 1024 sa) (hd : po_R 1024 da) (hk : po_R 64 ka) : ∀ (d p : Nat), p + d = 4096 → ∀ n : Int32, ∃ r : Int32, (∀ post : Int32 → Prop, post r → wX_having_9 post (x &&& 3) (nI c) df sa da ka (d + 1) n (nI p)) ∧ (∀ post : Int32 → Prop, post r → wY_having_4 post x (nI c) df sa da ka (d + 1) n (nI p)) := by
  intro d
  induction d with
  | zero =>
    intro p hp n
    exact ⟨n, fun _ h => br_t (po_end hp) h, fun _ h => br_t (po_end hp) h⟩
  | succ d ih =>
    intro p hp n
    have hp' : p < 4096 := by omega
    have hr := po_ff_r (po_m sa da ka p) (d := c) (j := 0) (by omega)
    by_cases e : po_ac df ka (po_ff (po_m sa da ka p) c 0) = x &&& 3
    · obtain ⟨r, hX, hY⟩ := ih (p + 1) (by omega) (n + 1)
      refine ⟨r, fun post h => br_f (po_go hp) (px_pa0 hc hp' hs hd hk (br_t e (nm_e (nm_r (nI_1 p) (hX post h))))), fun post h => br_f (po_go hp) (py_de hc hp' hs hd hk (py_ao hr hk (br_t e (nm_e (nm_r (nI_1 p) (hY post h))))))⟩
    · obtain ⟨r, hX, hY⟩ := ih (p + 1) (by omega) n
      refine ⟨r, fun post h => br_f (po_go hp) (px_pa0 hc hp' hs hd hk (br_f e (nm_r (nI_1 p) (hX post h)))), fun post h => br_f (po_go hp) (py_de hc hp' hs hd hk (py_ao hr hk (br_f e (nm_r (nI_1 p) (hY post h)))))⟩
theorem pz_use {c w : Nat} (hw : w < c) (hc : c ≤ 12) (hs : po_R 1024 sa) (hd : po_R 1024 da) (hk : po_R 64 ka) : ∀ (d p : Nat), p + d = 4096 → ∀ a b : Int32, (a = 1 ∧ b = 1) ∨ (a = 2 ∧ b = 0) → ∃ r : Int32, (∀ post : Int32 → Prop, post r → wX_use_15 post (nI w) (nI c) df sa da ka (d + 1) a (nI p)) ∧ (∀ post : Int32 → Prop, post r → wY_use_15 post (nI w) (nI c) df sa da ka (d + 1) b (nI p)) := by
  obtain ⟨k, k1, ek⟩ := hk w
  intro d
  induction d with
  | zero =>
    intro p hp a b hab
    rcases hab with ⟨rfl, rfl⟩ | ⟨rfl, rfl⟩
    · exact ⟨1, fun _ h => br_t (po_end hp) h, fun _ h => br_t (po_end hp) (br_f po_10 h)⟩
    · exact ⟨2, fun _ h => br_t (po_end hp) h, fun _ h => br_t (po_end hp) (br_t rfl h)⟩
  | succ d ih =>
    intro p hp a b hab
    have hp' : p < 4096 := by omega
    by_cases e : po_ff (po_m sa da ka p) c 0 = nI w
    · have ew : po_ff (po_wo (po_m sa da ka p) w) c 0 = po_ff (po_m sa da ka p) (c - (w + 1)) (w + 1) := by
        have q := po_ff_w (po_m sa da ka p) w (by omega) c 0 (by omega) e
        rw [Nat.zero_add] at q
        exact q
      have hr := po_ff_r (po_m sa da ka p) (d := c - (w + 1)) (j := w + 1) (by omega)
      have ea : po_ac df ka (nI w) = nI (k / 16) := po_ac_s df ka (by omega) ek (by omega)
      have hX0 : ∀ (P : Int32 → Prop), P (po_ac df ka (po_ff (po_m sa da ka p) (c - (w + 1)) (w + 1))) → wpX_packetAction P (nI c, df, sa, da, ka) (nI p) (nI w + 1) :=
        fun P h => px_pa (w + 1) (nI_1 w) (by omega) hc hp' hs hd hk h
      have hX1 : ∀ (P : Int32 → Prop), P (nI (k / 16)) → wpX_ruleAction P (nI c, df, sa, da, ka) (nI w) :=
        fun P h => px_ra (by omega) ek k1 h
      have hY0 : ∀ (P : Int32 → Prop), P (po_ff (po_m sa da ka p) (c - (w + 1)) (w + 1)) → wpY_deciding P (nI c, df, sa, da, ka) (nI p) (nI w) :=
        fun P h => py_dw (by omega) hc hp' hs hd hk (by rw [ew]; exact h)
      have hY1 : ∀ (P : Int32 → Prop), P (nI (k / 16)) → wpY_actionOf P (nI c, df, sa, da, ka) (nI w) :=
        fun P h => py_ao (Or.inr ⟨w, by omega, rfl⟩) hk (by rw [ea]; exact h)
      by_cases g : po_ac df ka (po_ff (po_m sa da ka p) (c - (w + 1)) (w + 1)) = nI (k / 16)
      · obtain ⟨r, hX, hY⟩ := ih (p + 1) (by omega) 2 0 (Or.inr ⟨rfl, rfl⟩)
        refine ⟨r, fun post h => br_f (po_go hp) (px_fm0 hc hp' hs hd hk (br_t e (hX0 _ (hX1 _ (br_t g (nm_r (nI_1 p) (hX post h))))))), fun post h => br_f (po_go hp) (py_de hc hp' hs hd hk (br_t e (hY0 _ (py_ao hr hk (hY1 _ (br_t g (nm_r (nI_1 p) (hY post h))))))))⟩
      · refine ⟨0, fun post h => br_f (po_go hp) (px_fm0 hc hp' hs hd hk (br_t e (hX0 _ (hX1 _ (br_f g h))))), fun post h => br_f (po_go hp) (py_de hc hp' hs hd hk (br_t e (hY0 _ (py_ao hr hk (hY1 _ (br_f g h))))))⟩
    · obtain ⟨r, hX, hY⟩ := ih (p + 1) (by omega) a b hab
      refine ⟨r, fun post h => br_f (po_go hp) (px_fm0 hc hp' hs hd hk (br_f e (nm_r (nI_1 p) (hX post h)))), fun post h => br_f (po_go hp) (py_de hc hp' hs hd hk (br_f e (nm_r (nI_1 p) (hY post h))))⟩
theorem px_pk1 {post : Int32 → Prop} {a b t : Nat} (ha : a < 32) (hb : b < 32) (ht : t < 4) (h : post 1) : wpX_isPacket post (nI a) (nI b) (nI t) := by
  unfold wpX_isPacket
  exact br_f (nI_pos (by omega)) (br_f (nI_ge (b := 32) ha (by decide)) (br_f (nI_pos (by omega)) (br_f (nI_ge (b := 32) hb (by decide)) (br_f (nI_pos (by omega)) (br_f (nI_ge (b := 4) ht (by decide)) h)))))
theorem py_pk1 {post : Int32 → Prop} {a b t : Nat} (ha : a < 32) (hb : b < 32) (ht : t < 4) (h : post 0) : wpY_noPacket post (nI a) (nI b) (nI t) := by
  unfold wpY_noPacket
  exact br_f (nI_pos (by omega)) (br_f (nI_nlt (a := 31) (by omega) (by decide)) (br_f (nI_pos (by omega)) (br_f (nI_nlt (a := 31) (by omega) (by decide)) (br_f (nI_pos (by omega)) (br_t (nI_le (b := 3) (by omega) (by decide)) h)))))
/-- three numbers are a packet, or both sides refuse them -/
theorem pz_pk (x y z : Int32) : (∃ a b t : Nat, a < 32 ∧ b < 32 ∧ t < 4 ∧ x = nI a ∧ y = nI b ∧ z = nI t) ∨ ((∀ post : Int32 → Prop, post 0 → wpX_isPacket post x y z) ∧ (∀ post : Int32 → Prop, post 1 → wpY_noPacket post x y z)) := by
  unfold wpX_isPacket wpY_noPacket
  rcases pk_ix x (n := 32) (by decide) with h | h | ⟨a, ha, rfl⟩
  · exact Or.inr ⟨fun _ k => br_t h k, fun _ k => br_t h k⟩
  · obtain ⟨q1, q2, q3, q4⟩ := po_big (n := 31) h (by decide)
    exact Or.inr ⟨fun _ k => br_f q1 (br_t h k), fun _ k => br_f q1 (br_t (Int32.not_le.mp q3) k)⟩
  · have a1 : ¬ nI a < 0 := nI_pos (by omega)
    have a2 : ¬ (32 : Int32) ≤ nI a := nI_ge (b := 32) ha (by decide)
    have a3 : ¬ (31 : Int32) < nI a := nI_nlt (a := 31) (by omega) (by decide)
    rcases pk_ix y (n := 32) (by decide) with h | h | ⟨b, hb, rfl⟩
    · exact Or.inr ⟨fun _ k => br_f a1 (br_f a2 (br_t h k)), fun _ k => br_f a1 (br_f a3 (br_t h k))⟩
    · obtain ⟨q1, q2, q3, q4⟩ := po_big (n := 31) h (by decide)
      exact Or.inr ⟨fun _ k => br_f a1 (br_f a2 (br_f q1 (br_t h k))), fun _ k => br_f a1 (br_f a3 (br_f q1 (br_t (Int32.not_le.mp q3) k)))⟩
    · have b1 : ¬ nI b < 0 := nI_pos (by omega)
      have b2 : ¬ (32 : Int32) ≤ nI b := nI_ge (b := 32) hb (by decide)
      have b3 : ¬ (31 : Int32) < nI b := nI_nlt (a := 31) (by omega) (by decide)
      rcases pk_ix z (n := 4) (by decide) with h | h | ⟨t, ht, rfl⟩
      · exact Or.inr ⟨fun _ k => br_f a1 (br_f a2 (br_f b1 (br_f b2 (br_t h k)))), fun _ k => br_f a1 (br_f a3 (br_f b1 (br_f b3 (br_t h k))))⟩
      · obtain ⟨q1, q2, q3, q4⟩ := po_big (n := 3) h (by decide)
        exact Or.inr ⟨fun _ k => br_f a1 (br_f a2 (br_f b1 (br_f b2 (br_f q1 (br_t h k))))), fun _ k => br_f a1 (br_f a3 (br_f b1 (br_f b3 (br_f q1 (br_f q3 k)))))⟩
      · exact Or.inl ⟨a, b, t, ha, hb, ht, rfl, rfl, rfl⟩
end
