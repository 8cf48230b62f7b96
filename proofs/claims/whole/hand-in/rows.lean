section
/-! rows pasted from kit/rows (given for pasting): stores, nI arithmetic, branches by naturals, masks, shifts -/
theorem pk_us {f : Nat → Int32} {k : Nat} {x : Int32} : upd f k x k = x := if_pos rfl
theorem pk_un {f : Nat → Int32} {k j : Nat} {x : Int32} (h : j ≠ k) : upd f k x j = f j := if_neg h
theorem pk_sub {a b : Nat} (h : b ≤ a) : nI a - nI b = nI (a - b) := by
  obtain ⟨c, rfl⟩ : ∃ c, a = c + b := ⟨a - b, by omega⟩
  rw [← nI_add, Int32.add_sub_cancel, Nat.add_sub_cancel]
theorem pk_m1 (n : Nat) : nI (n + 1) + (-1) = nI n := by
  rw [← nI_1, Int32.add_assoc, show (1 : Int32) + (-1) = 0 from rfl, Int32.add_zero]
theorem pk_mul (a b : Nat) : nI a * nI b = nI (a * b) := (Int32.ofNat_mul a b).symm
theorem pk_div {a d : Nat} (ha : a < 2 ^ 31) (h0 : 0 < d) (hd : d < 2 ^ 31) : nI a / nI d = nI (a / d) := by
  apply Int32.toInt_inj.mp
  rw [lg_idiv_nonneg (by rw [nI_toInt ha]; omega) (by rw [nI_toInt hd]; omega), nI_toInt ha, nI_toInt hd, nI_toInt (Nat.lt_of_le_of_lt (Nat.div_le_self a d) ha)]
  first | rfl | exact (Int.natCast_ediv _ _).symm
theorem pk_rem {a d : Nat} (ha : a < 2 ^ 31) (h0 : 0 < d) (hd : d < 2 ^ 31) : nI a - nI a / nI d * nI d = nI (a % d) := by
  rw [pk_div ha h0 hd, pk_mul, pk_sub (Nat.div_mul_le_self a d)]
  exact congrArg nI (by have := Nat.div_add_mod' a d; omega)
theorem pk_ix (x : Int32) {n : Nat} (hn : n < 2 ^ 31) : x < 0 ∨ nI n ≤ x ∨ ∃ j : Nat, j < n ∧ x = nI j := by
  by_cases h : x < 0
  · exact Or.inl h
  · obtain ⟨j, hj, rfl⟩ := nI_of h
    by_cases h2 : j < n
    · exact Or.inr (Or.inr ⟨j, h2, rfl⟩)
    · exact Or.inr (Or.inl (nI_le (by omega) hj))
theorem pk_le {x y : Int32} {A B : Prop} (a b : Nat) (f : a ≤ b → A) (g : b < a → B) (hx : x = nI a := by rfl) (hy : y = nI b := by rfl) (ha : a < 2 ^ 31 := by omega) (hb : b < 2 ^ 31 := by omega) : (x ≤ y → A) ∧ (¬ x ≤ y → B) := by
  subst hx hy
  rw [nI_leI ha hb]
  exact ⟨f, fun z => g (by omega)⟩
theorem pk_lt {x y : Int32} {A B : Prop} (a b : Nat) (f : a < b → A) (g : b ≤ a → B) (hx : x = nI a := by rfl) (hy : y = nI b := by rfl) (ha : a < 2 ^ 31 := by omega) (hb : b < 2 ^ 31 := by omega) : (x < y → A) ∧ (¬ x < y → B) := by
  subst hx hy
  rw [nI_ltI ha hb]
  exact ⟨f, fun z => g (by omega)⟩
theorem pk_eq {x y : Int32} {A B : Prop} (a b : Nat) (f : a = b → A) (g : a ≠ b → B) (hx : x = nI a := by rfl) (hy : y = nI b := by rfl) (ha : a < 2 ^ 31 := by omega) (hb : b < 2 ^ 31 := by omega) : (x = y → A) ∧ (¬ x = y → B) := by
  subst hx hy
  rw [nI_eq ha hb]
  exact ⟨f, g⟩
theorem pk_in {x : Int32} (n N : Nat) (h : n < N) (hx : x = nI n := by rfl) (hN : N < 2 ^ 31 := by omega) : vp_in x N := by
  subst hx
  exact vp_in_nI h hN
theorem pk_cl {x : Int32} (n : Nat) (hx : x = nI n := by rfl) (h : n < 2 ^ 31 := by omega) : x.toNatClampNeg = n := by
  subst hx
  exact nI_clamp h
theorem pk_tn {n : Nat} (h : n < 2 ^ 32) : (nI n).toBitVec.toNat = n := Nat.mod_eq_of_lt h
theorem pk_and (x : Int32) {m : Int32} (k : Nat) (hm : m.toBitVec.toNat = 2 ^ k - 1) : x &&& m = nI (x.toBitVec.toNat % 2 ^ k) := by
  apply Int32.toBitVec_inj.mp
  apply BitVec.eq_of_toNat_eq
  rw [Int32.toBitVec_and, BitVec.toNat_and, hm, Nat.and_two_pow_sub_one_eq_mod]
  show _ = (BitVec.ofNat 32 _).toNat
  rw [BitVec.toNat_ofNat]
  exact (Nat.mod_eq_of_lt (Nat.lt_of_le_of_lt (Nat.mod_le _ _) x.toBitVec.isLt)).symm
theorem pk_andN {n : Nat} (h : n < 2 ^ 32) {m : Int32} (k : Nat) (hm : m.toBitVec.toNat = 2 ^ k - 1) : nI n &&& m = nI (n % 2 ^ k) := by
  rw [pk_and _ k hm, pk_tn h]
theorem pk_shr (a s : Int32) (k : Nat) (hs : (s.toBitVec.smod 32).toNat = k) : (a >>> s).toInt = a.toInt >>> k := by
  show (a.toBitVec.sshiftRight (s.toBitVec.smod 32).toNat).toInt = _
  rw [hs, BitVec.toInt_sshiftRight]
  rfl
theorem pk_shrN {n : Nat} (h : n < 2 ^ 31) (s : Int32) (k : Nat) (hs : (s.toBitVec.smod 32).toNat = k) : nI n >>> s = nI (n / 2 ^ k) := by
  apply Int32.toInt_inj.mp
  have h2 : n / 2 ^ k ≤ n := Nat.div_le_self _ _
  rw [pk_shr _ _ k hs, nI_toInt h, nI_toInt (by omega), Int.shiftRight_eq_div_pow]
  rfl
theorem s_l : ∀ n, n < 32 → ((nI n &&& 31).toBitVec.smod 32).toNat = n := by decide +kernel
end
section
/-! pure pictures: moving rules up and down, ranges, one rule against one packet, the first rule that matches -/
def po_up (a : Nat → Int32) (f m : Nat) : Nat → Int32 := fun i => if f ≤ i ∧ i < m then a (i + 1) else a i
def po_dn (a : Nat → Int32) (t m : Nat) : Nat → Int32 := fun i => if t < i ∧ i ≤ m then a (i - 1) else a i
theorem po_up_0 (a : Nat → Int32) {f m : Nat} (h : m ≤ f) : po_up a f m = a := by
  funext i
  exact if_neg (by omega)
theorem po_dn_0 (a : Nat → Int32) {t m : Nat} (h : m ≤ t) : po_dn a t m = a := by
  funext i
  exact if_neg (by omega)
theorem po_up_s (a : Nat → Int32) {f m : Nat} (h : f < m) : po_up (upd a f (a (f + 1))) (f + 1) m = po_up a f m := by
  funext i
  show (if f + 1 ≤ i ∧ i < m then (if i + 1 = f then a (f + 1) else a (i + 1)) else (if i = f then a (f + 1) else a i)) = (if f ≤ i ∧ i < m then a (i + 1) else a i)
  repeat' split
  all_goals first | rfl | omega | exact congrArg a (by omega)
theorem po_dn_s (a : Nat → Int32) (t d : Nat) : po_dn (upd a (t + d + 1) (a (t + d))) t (t + d) = po_dn a t (t + d + 1) := by
  funext i
  show (if t < i ∧ i ≤ t + d then (if i - 1 = t + d + 1 then a (t + d) else a (i - 1)) else (if i = t + d + 1 then a (t + d) else a i)) = (if t < i ∧ i ≤ t + d + 1 then a (i - 1) else a i)
  repeat' split
  all_goals first | rfl | omega | exact congrArg a (by omega)
theorem po_shift (a : Nat → Int32) {f t m : Nat} (hf : f ≤ m) (ht : t ≤ m) (x : Int32) : upd (po_dn (po_up a f t) t f) t x = upd (po_dn (po_up a f m) t m) t x := by
  funext i
  show (if i = t then x else (if t < i ∧ i ≤ f then (if f ≤ i - 1 ∧ i - 1 < t then a (i - 1 + 1) else a (i - 1)) else (if f ≤ i ∧ i < t then a (i + 1) else a i))) = (if i = t then x else (if t < i ∧ i ≤ m then (if f ≤ i - 1 ∧ i - 1 < m then a (i - 1 + 1) else a (i - 1)) else (if f ≤ i ∧ i < m then a (i + 1) else a i)))
  repeat' split
  all_goals first | rfl | omega | exact congrArg a (by omega)
def po_R (B : Nat) (a : Nat → Int32) : Prop := ∀ i, ∃ s, s < B ∧ a i = nI s
theorem po_R_0 {B : Nat} (h : 0 < B) : po_R B (fun _ => 0) := fun _ => ⟨0, h, rfl⟩
theorem po_R_up {B : Nat} {a : Nat → Int32} (h : po_R B a) (f m : Nat) : po_R B (po_up a f m) := by
  intro i
  by_cases c : f ≤ i ∧ i < m
  · rw [show po_up a f m i = a (i + 1) from if_pos c]; exact h _
  · rw [show po_up a f m i = a i from if_neg c]; exact h _
theorem po_R_dn {B : Nat} {a : Nat → Int32} (h : po_R B a) (t m : Nat) : po_R B (po_dn a t m) := by
  intro i
  by_cases c : t < i ∧ i ≤ m
  · rw [show po_dn a t m i = a (i - 1) from if_pos c]; exact h _
  · rw [show po_dn a t m i = a i from if_neg c]; exact h _
theorem po_R_upd {B : Nat} {a : Nat → Int32} (h : po_R B a) (k : Nat) {x : Int32} (hx : ∃ s, s < B ∧ x = nI s) : po_R B (upd a k x) := by
  intro i
  by_cases c : i = k
  · rw [show upd a k x i = x from if_pos c]; exact hx
  · rw [show upd a k x i = a i from if_neg c]; exact h _
/-- one rule (its three numbers) against one packet -/
def po_mt (s d k p : Nat) : Bool := decide (s / 32 ≤ p / 128 ∧ p / 128 ≤ s % 32) && decide (d / 32 ≤ p / 4 % 32 ∧ p / 4 % 32 ≤ d % 32) && decide (k / 2 ^ (p % 4) % 2 = 1)
def po_m (sa da ka : Nat → Int32) (p : Nat) : Nat → Bool := fun j => po_mt (sa j).toNatClampNeg (da j).toNatClampNeg (ka j).toNatClampNeg p
def po_b (b : Bool) : Int32 := if b = true then 1 else 0
/-- the first place that matches, of d places from j on, or -1 -/
def po_ff (m : Nat → Bool) : Nat → Nat → Int32
  | 0, _ => -1
  | d + 1, j => if m j = true then nI j else po_ff m d (j + 1)
theorem po_m1 {n : Nat} (h : n < 2 ^ 31) : ¬ nI n = -1 := by
  intro e
  have := nI_pos (n := n) h
  rw [e] at this
  exact this (by decide)
theorem po_m1' {n : Nat} (h : n < 2 ^ 31) : ¬ -1 = nI n := fun e => po_m1 h e.symm
theorem po_ff_t {m : Nat → Bool} {d j : Nat} (h : m j = true) : po_ff m (d + 1) j = nI j := if_pos h
theorem po_ff_f {m : Nat → Bool} {d j : Nat} (h : ¬ m j = true) : po_ff m (d + 1) j = po_ff m d (j + 1) := if_neg h
theorem po_ff_in (m : Nat → Bool) : ∀ d j : Nat, po_ff m d j = -1 ∨ ∃ i, j ≤ i ∧ i < j + d ∧ po_ff m d j = nI i := by
  intro d
  induction d with
  | zero => intro j; exact Or.inl rfl
  | succ d ih =>
    intro j
    by_cases h : m j = true
    · rw [po_ff_t h]; exact Or.inr ⟨j, by omega, by omega, rfl⟩
    · rw [po_ff_f h]
      rcases ih (j + 1) with e | ⟨i, h1, h2, e⟩
      · exact Or.inl e
      · exact Or.inr ⟨i, by omega, by omega, e⟩
theorem po_ff_c {m m' : Nat → Bool} : ∀ d j : Nat, (∀ i, j ≤ i → m i = m' i) → po_ff m d j = po_ff m' d j := by
  intro d
  induction d with
  | zero => intro j _; rfl
  | succ d ih =>
    intro j h
    by_cases c : m j = true
    · rw [po_ff_t c, po_ff_t ((h j (Nat.le_refl j)).symm.trans c)]
    · rw [po_ff_f c, po_ff_f (fun z => c ((h j (Nat.le_refl j)).trans z)), ih (j + 1) (fun i hi => h i (by omega))]
/-- the places but w -/
def po_wo (m : Nat → Bool) (w : Nat) : Nat → Bool := fun i => decide (i ≠ w) && m i
theorem po_wo_w (m : Nat → Bool) (w : Nat) : ¬ po_wo m w w = true := by
  simp [po_wo]
theorem po_wo_n (m : Nat → Bool) {w i : Nat} (h : i ≠ w) : po_wo m w i = m i := by
  simp [po_wo, h]
theorem po_ff_w (m : Nat → Bool) (w : Nat) (hw : w < 2 ^ 31) : ∀ d j : Nat, j + d < 2 ^ 31 → po_ff m d j = nI w → po_ff (po_wo m w) d j = po_ff m (j + d - (w + 1)) (w + 1) := by
  intro d
  induction d with
  | zero => intro j _ e; exact absurd e (po_m1' hw)
  | succ d ih =>
    intro j hj e
    by_cases c : m j = true
    · rw [po_ff_t c, nI_eq (by omega) hw] at e
      subst e
      rw [po_ff_f (po_wo_w m j), po_ff_c d (j + 1) (fun i hi => po_wo_n m (w := j) (by omega)), show j + (d + 1) - (j + 1) = d from by omega]
    · rw [po_ff_f c] at e
      have hn : ¬ po_wo m w j = true := by
        intro z
        by_cases q : j = w
        · subst q; exact po_wo_w m j z
        · rw [po_wo_n m q] at z; exact c z
      rw [po_ff_f hn, ih (j + 1) (by omega) e, show j + 1 + d - (w + 1) = j + (d + 1) - (w + 1) from by omega]
/-- the action of what the first match gave -/
def po_ac (df : Int32) (ka : Nat → Int32) (r : Int32) : Int32 := if r = -1 then df else nI ((ka r.toNatClampNeg).toNatClampNeg / 16)
theorem po_ac_n (df : Int32) (ka : Nat → Int32) : po_ac df ka (-1) = df := if_pos rfl
theorem po_ac_s (df : Int32) (ka : Nat → Int32) {j k : Nat} (hj : j < 2 ^ 31) (e : ka j = nI k) (hk : k < 2 ^ 31) : po_ac df ka (nI j) = nI (k / 16) := by
  unfold po_ac
  rw [if_neg (po_m1 hj), nI_clamp hj, e, nI_clamp hk]
theorem po_le_lt {x : Int32} {a : Nat} (h : a + 1 < 2 ^ 31) : x ≤ nI a ↔ x < nI (a + 1) := by
  rw [Int32.le_iff_toInt_le, Int32.lt_iff_toInt_lt, nI_toInt (by omega), nI_toInt h]
  omega
theorem po_big {x : Int32} {n : Nat} (h : nI (n + 1) ≤ x) (hn : n + 1 < 2 ^ 31) : ¬ x < 0 ∧ ¬ x < nI (n + 1) ∧ ¬ x ≤ nI n ∧ 0 ≤ x := by
  rw [Int32.le_iff_toInt_le, nI_toInt hn] at h
  have z : (0 : Int32).toInt = 0 := by decide
  refine ⟨?_, ?_, ?_, ?_⟩
  · rw [Int32.lt_iff_toInt_lt, z]; omega
  · rw [Int32.lt_iff_toInt_lt, nI_toInt hn]; omega
  · rw [Int32.le_iff_toInt_le, nI_toInt (by omega)]; omega
  · rw [Int32.le_iff_toInt_le, z]; omega
theorem po_neg {x : Int32} (h : x < 0) : ¬ 0 ≤ x := Int32.not_le.mpr h
theorem po_m_e {sa da ka : Nat → Int32} {j s d k : Nat} (p : Nat) (es : sa j = nI s) (hs : s < 1024) (ed : da j = nI d) (hd : d < 1024) (ek : ka j = nI k) (hk : k < 64) : po_m sa da ka p j = po_mt s d k p := by
  show po_mt (sa j).toNatClampNeg (da j).toNatClampNeg (ka j).toNatClampNeg p = _
  rw [es, ed, ek, nI_clamp (show s < 2 ^ 31 by omega), nI_clamp (show d < 2 ^ 31 by omega), nI_clamp (show k < 2 ^ 31 by omega)]
theorem po_b1 : ¬ po_b true = 0 := by decide
theorem po_10 : ¬ (1 : Int32) = 0 := by decide
theorem po_nt {x : Bool} (h : ¬ x = true) : x = false := by
  cases x
  · rfl
  · exact absurd rfl h
theorem po_mod2 (n : Nat) : n % 2 < 2 ^ 31 := Nat.lt_of_lt_of_le (Nat.mod_lt n (by decide)) (by decide)
theorem po_bit {k t : Nat} (hk : k < 64) (ht : t < 32) : (nI k >>> (nI t &&& 31)) &&& 1 = nI (k / 2 ^ t % 2) := by
  rw [pk_shrN (show k < 2 ^ 31 by omega) _ t (s_l t ht)]
  exact pk_andN (Nat.lt_of_le_of_lt (Nat.div_le_self _ _) (by omega)) 1 (by decide)
theorem po_num (a b t : Nat) : ((128 * nI a) + (4 * nI b)) + nI t = nI (128 * a + 4 * b + t) := by
  rw [show (128 : Int32) * nI a = nI (128 * a) from pk_mul 128 a, show (4 : Int32) * nI b = nI (4 * b) from pk_mul 4 b, nI_add, nI_add]
end
section
/-! one rule against one packet, the first rule that matches, its action: each side, general post -/
section
variable {df : Int32} {sa da ka : Nat → Int32}
theorem px_ir {post : Int32 → Prop} {v s : Nat} (hv : v < 2 ^ 31) (hs : s < 1024) (k : post (po_b (decide (s / 32 ≤ v ∧ v ≤ s % 32)))) : wpX_inRange post (nI v) (nI s) := by
  unfold wpX_inRange
  have e1 : nI s >>> ((5 : Int32) &&& 31) = nI (s / 32) := pk_shrN (by omega) _ 5 (by decide)
  have e2 : nI s &&& 31 = nI (s % 32) := pk_andN (by omega) 5 (by decide)
  rw [e1, e2]
  refine pk_lt v (s / 32) (fun h => ?_) (fun h => pk_lt (s % 32) v (fun h2 => ?_) (fun h2 => ?_))
  · rw [decide_eq_false (by omega)] at k; exact k
  · rw [decide_eq_false (by omega)] at k; exact k
  · rw [decide_eq_true (by omega)] at k; exact k
theorem px_ma {post : Int32 → Prop} {c j p : Nat} (hj : j < 12) (hp : p < 4096) (hs : po_R 1024 sa) (hd : po_R 1024 da) (hk : po_R 64 ka) (h : post (po_b (po_m sa da ka p j))) : wpX_matches post (nI c, df, sa, da, ka) (nI j) (nI p) := by
  obtain ⟨s, s1, es⟩ := hs j
  obtain ⟨d, d1, ed⟩ := hd j
  obtain ⟨k, k1, ek⟩ := hk j
  rw [po_m_e p es s1 ed d1 ek k1] at h
  unfold po_mt at h
  unfold wpX_matches
  dsimp only
  have ij : vp_in (nI j) 12 := vp_in_nI hj (by omega)
  rw [nI_clamp (show j < 2 ^ 31 by omega), es, ed, ek]
  refine nm_r (e' := nI (p / 128)) (pk_shrN (by omega) _ 7 (by decide)) ?_
  refine nm_r (e' := nI (p / 4 % 32)) (by rw [pk_shrN (show p < 2 ^ 31 by omega) _ 2 (by decide)]; exact pk_andN (by omega) 5 (by decide)) ?_
  refine nm_r (e' := nI (p % 4)) (pk_andN (by omega) 2 (by decide)) ?_
  refine ⟨ij, px_ir (by omega) s1 ?_⟩
  by_cases hA : s / 32 ≤ p / 128 ∧ p / 128 ≤ s % 32
  · rw [decide_eq_true hA] at h ⊢
    refine br_f po_b1 ⟨ij, px_ir (by omega) d1 ?_⟩
    by_cases hB : d / 32 ≤ p / 4 % 32 ∧ p / 4 % 32 ≤ d % 32
    · rw [decide_eq_true hB] at h ⊢
      refine br_f po_b1 ⟨ij, ?_⟩
      rw [po_bit k1 (show p % 4 < 32 by omega)]
      refine pk_eq (k / 2 ^ (p % 4) % 2) 1 (fun hC => ?_) (fun hC => ?_) rfl rfl (po_mod2 _) (by omega)
      · rw [decide_eq_true hC] at h; exact h
      · rw [decide_eq_false hC] at h; exact h
    · rw [decide_eq_false hB] at h ⊢
      exact br_t rfl h
  · rw [decide_eq_false hA] at h ⊢
    exact br_t rfl h
theorem px_ff {post : Int32 → Prop} {c p : Nat} (hc : c ≤ 12) (hp : p < 4096) (hs : po_R 1024 sa) (hd : po_R 1024 da) (hk : po_R 64 ka) : ∀ d j : Nat, j + d = c → post (po_ff (po_m sa da ka p) d j) → wX_firstMatch_2 post (nI p) (nI c) df sa da ka (d + 1) (nI j) := by
  intro d
  induction d with
  | zero =>
    intro j hj h
    exact br_t (nI_le (by omega) (by omega)) h
  | succ d ih =>
    intro j hj h
    refine br_f (nI_ge (by omega) (by omega)) ?_
    refine px_ma (by omega) hp hs hd hk ?_
    by_cases hm : po_m sa da ka p j = true
    · rw [po_ff_t hm] at h
      rw [hm]
      exact br_f po_b1 h
    · rw [po_ff_f hm] at h
      rw [po_nt hm]
      exact br_t rfl (nm_r (nI_1 j) (ih (j + 1) (by omega) h))
theorem px_fm {post : Int32 → Prop} {c p : Nat} {x : Int32} (j : Nat) (hx : x = nI j) (hj : j ≤ c) (hc : c ≤ 12) (hp : p < 4096) (hs : po_R 1024 sa) (hd : po_R 1024 da) (hk : po_R 64 ka) (h : post (po_ff (po_m sa da ka p) (c - j) j)) : wpX_firstMatch post (nI c, df, sa, da, ka) (nI p) x := by
  subst hx
  unfold wpX_firstMatch
  dsimp only
  exact ⟨c - j + 1, px_ff hc hp hs hd hk (c - j) j (by omega) h⟩
theorem px_fm0 {post : Int32 → Prop} {c p : Nat} (hc : c ≤ 12) (hp : p < 4096) (hs : po_R 1024 sa) (hd : po_R 1024 da) (hk : po_R 64 ka) (h : post (po_ff (po_m sa da ka p) c 0)) : wpX_firstMatch post (nI c, df, sa, da, ka) (nI p) 0 :=
  px_fm 0 rfl (Nat.zero_le c) hc hp hs hd hk h
theorem px_ra {post : Int32 → Prop} {c i k : Nat} (hi : i < 12) (ek : ka i = nI k) (k1 : k < 64) (h : post (nI (k / 16))) : wpX_ruleAction post (nI c, df, sa, da, ka) (nI i) := by
  unfold wpX_ruleAction
  dsimp only
  rw [nI_clamp (show i < 2 ^ 31 by omega), ek, pk_shrN (show k < 2 ^ 31 by omega) _ 4 (by decide)]
  exact ⟨vp_in_nI hi (by omega), h⟩
theorem px_pa {post : Int32 → Prop} {c p : Nat} {x : Int32} (j : Nat) (hx : x = nI j) (hj : j ≤ c) (hc : c ≤ 12) (hp : p < 4096) (hs : po_R 1024 sa) (hd : po_R 1024 da) (hk : po_R 64 ka) (h : post (po_ac df ka (po_ff (po_m sa da ka p) (c - j) j))) : wpX_packetAction post (nI c, df, sa, da, ka) (nI p) x := by
  unfold wpX_packetAction
  dsimp only
  refine px_fm j hx hj hc hp hs hd hk ?_
  rcases po_ff_in (po_m sa da ka p) (c - j) j with e | ⟨i, h1, h2, e⟩
  · rw [e] at h ⊢
    rw [po_ac_n] at h
    exact br_t rfl h
  · rw [e] at h ⊢
    obtain ⟨k, k1, ek⟩ := hk i
    rw [po_ac_s df ka (by omega) ek (by omega)] at h
    exact br_f (po_m1 (by omega)) (px_ra (by omega) ek k1 h)
theorem px_pa0 {post : Int32 → Prop} {c p : Nat} (hc : c ≤ 12) (hp : p < 4096) (hs : po_R 1024 sa) (hd : po_R 1024 da) (hk : po_R 64 ka) (h : post (po_ac df ka (po_ff (po_m sa da ka p) c 0))) : wpX_packetAction post (nI c, df, sa, da, ka) (nI p) 0 :=
  px_pa 0 rfl (Nat.zero_le c) hc hp hs hd hk h
theorem py_80 {post : Int32 → Prop} {c j p k : Nat} (a b : Bool) (hj : j < 12) (hp : p < 4096) (ek : ka j = nI k) (k1 : k < 64) (h : post (po_b (a && b && decide (k / 2 ^ (p % 4) % 2 = 1)))) : wY_matches_80 post (nI j) (nI p) (po_b a) (po_b b) (nI c) df sa da ka := by
  unfold wY_matches_80
  have ij : vp_in (nI j) 12 := vp_in_nI hj (by omega)
  have e3 : nI p - nI p / 4 * 4 = nI (p % 4) := pk_rem (d := 4) (by omega) (by decide) (by decide)
  rw [nI_clamp (show j < 2 ^ 31 by omega), ek, e3, po_bit k1 (show p % 4 < 32 by omega)]
  cases a
  · exact br_t rfl h
  · refine br_f po_b1 ?_
    cases b
    · exact br_t rfl h
    · refine br_f po_b1 ⟨ij, by decide, ?_⟩
      refine pk_eq (k / 2 ^ (p % 4) % 2) 1 (fun hC => ?_) (fun hC => ?_) rfl rfl (po_mod2 _) (by omega)
      · rw [decide_eq_true hC] at h; exact h
      · rw [decide_eq_false hC] at h; exact h
theorem py_45 {post : Int32 → Prop} {c j p d k : Nat} (a : Bool) (hj : j < 12) (hp : p < 4096) (ed : da j = nI d) (d1 : d < 1024) (ek : ka j = nI k) (k1 : k < 64) (h : post (po_b (a && decide (d / 32 ≤ p / 4 % 32 ∧ p / 4 % 32 ≤ d % 32) && decide (k / 2 ^ (p % 4) % 2 = 1)))) : wY_matches_45 post (nI j) (nI p) (nI (p / 4 % 32)) (po_b a) (nI c) df sa da ka := by
  unfold wY_matches_45 wY_matches_79
  have ij : vp_in (nI j) 12 := vp_in_nI hj (by omega)
  have e2 : nI d - nI d / 32 * 32 = nI (d % 32) := pk_rem (d := 32) (by omega) (by decide) (by decide)
  have e1 : nI d / 32 = nI (d / 32) := pk_div (d := 32) (by omega) (by decide) (by decide)
  rw [nI_clamp (show j < 2 ^ 31 by omega), ed, e2, e1]
  refine ⟨ij, by decide, pk_lt (p / 4 % 32) (d / 32) (fun h1 => ?_) (fun h1 => ⟨ij, by decide, pk_lt (d % 32) (p / 4 % 32) (fun h2 => ?_) (fun h2 => ?_)⟩)⟩
  · rw [decide_eq_false (show ¬ (d / 32 ≤ p / 4 % 32 ∧ p / 4 % 32 ≤ d % 32) by omega)] at h
    exact py_80 a false hj hp ek k1 h
  · rw [decide_eq_false (show ¬ (d / 32 ≤ p / 4 % 32 ∧ p / 4 % 32 ≤ d % 32) by omega)] at h
    exact py_80 a false hj hp ek k1 h
  · rw [decide_eq_true (show d / 32 ≤ p / 4 % 32 ∧ p / 4 % 32 ≤ d % 32 by omega)] at h
    exact py_80 a true hj hp ek k1 h
theorem py_ma {post : Int32 → Prop} {c j p : Nat} (hj : j < 12) (hp : p < 4096) (hs : po_R 1024 sa) (hd : po_R 1024 da) (hk : po_R 64 ka) (h : post (po_b (po_m sa da ka p j))) : wpY_matches post (nI c, df, sa, da, ka) (nI j) (nI p) := by
  obtain ⟨s, s1, es⟩ := hs j
  obtain ⟨d, d1, ed⟩ := hd j
  obtain ⟨k, k1, ek⟩ := hk j
  rw [po_m_e p es s1 ed d1 ek k1] at h
  unfold po_mt at h
  unfold wpY_matches wY_matches_44
  dsimp only
  have ij : vp_in (nI j) 12 := vp_in_nI hj (by omega)
  have e2 : nI s - nI s / 32 * 32 = nI (s % 32) := pk_rem (d := 32) (by omega) (by decide) (by decide)
  have e1 : nI s / 32 = nI (s / 32) := pk_div (d := 32) (by omega) (by decide) (by decide)
  have e4 : nI p / 4 = nI (p / 4) := pk_div (d := 4) (by omega) (by decide) (by decide)
  have e5 : nI (p / 4) - nI (p / 4) / 32 * 32 = nI (p / 4 % 32) := pk_rem (d := 32) (by omega) (by decide) (by decide)
  have e7 : nI p / 128 = nI (p / 128) := pk_div (d := 128) (by omega) (by decide) (by decide)
  rw [nI_clamp (show j < 2 ^ 31 by omega), es, e2, e1, e4, e5, e7]
  refine ⟨by decide, nm_e ⟨by decide, by decide, nm_e ⟨ij, by decide, ?_⟩⟩⟩
  refine pk_lt (p / 128) (s / 32) (fun h1 => ?_) (fun h1 => ⟨ij, by decide, pk_lt (s % 32) (p / 128) (fun h2 => ?_) (fun h2 => ?_)⟩)
  · rw [decide_eq_false (show ¬ (s / 32 ≤ p / 128 ∧ p / 128 ≤ s % 32) by omega)] at h
    exact py_45 false hj hp ed d1 ek k1 h
  · rw [decide_eq_false (show ¬ (s / 32 ≤ p / 128 ∧ p / 128 ≤ s % 32) by omega)] at h
    exact py_45 false hj hp ed d1 ek k1 h
  · rw [decide_eq_true (show s / 32 ≤ p / 128 ∧ p / 128 ≤ s % 32 by omega)] at h
    exact py_45 true hj hp ed d1 ek k1 h
theorem py_ff {post : Int32 → Prop} {c p : Nat} {w : Int32} {m : Nat → Bool} (hc : c ≤ 12) (hp : p < 4096) (hs : po_R 1024 sa) (hd : po_R 1024 da) (hk : po_R 64 ka) (h1 : ∀ j, j < 12 → nI j = w → ¬ m j = true) (h2 : ∀ j, j < 12 → ¬ nI j = w → m j = po_m sa da ka p j) : ∀ d j : Nat, j + d = c → post (po_ff m d j) → wY_deciding_2 post (nI p) w (nI c) df sa da ka (d + 1) (nI j) := by
  intro d
  induction d with
  | zero =>
    intro j hj h
    exact br_t (nI_le (by omega) (by omega)) h
  | succ d ih =>
    intro j hj h
    refine br_f (nI_ge (by omega) (by omega)) (br_c (fun e => ?_) (fun e => ?_))
    · rw [po_ff_f (h1 j (by omega) e)] at h
      exact nm_r (nI_1 j) (ih (j + 1) (by omega) h)
    · refine py_ma (by omega) hp hs hd hk ?_
      rw [← h2 j (by omega) e]
      by_cases hm : m j = true
      · rw [po_ff_t hm] at h
        rw [hm]
        exact br_f po_b1 h
      · rw [po_ff_f hm] at h
        rw [po_nt hm]
        exact br_t rfl (nm_r (nI_1 j) (ih (j + 1) (by omega) h))
theorem py_de {post : Int32 → Prop} {c p : Nat} (hc : c ≤ 12) (hp : p < 4096) (hs : po_R 1024 sa) (hd : po_R 1024 da) (hk : po_R 64 ka) (h : post (po_ff (po_m sa da ka p) c 0)) : wpY_deciding post (nI c, df, sa, da, ka) (nI p) (-1) := by
  unfold wpY_deciding
  dsimp only
  exact ⟨c + 1, py_ff hc hp hs hd hk (fun j hj e => absurd e (po_m1 (by omega))) (fun j hj e => rfl) c 0 (by omega) h⟩
theorem py_dw {post : Int32 → Prop} {c p w : Nat} (hw : w < 12) (hc : c ≤ 12) (hp : p < 4096) (hs : po_R 1024 sa) (hd : po_R 1024 da) (hk : po_R 64 ka) (h : post (po_ff (po_wo (po_m sa da ka p) w) c 0)) : wpY_deciding post (nI c, df, sa, da, ka) (nI p) (nI w) := by
  unfold wpY_deciding
  dsimp only
  refine ⟨c + 1, py_ff hc hp hs hd hk (fun j hj e => ?_) (fun j hj e => ?_) c 0 (by omega) h⟩
  · rw [nI_eq (by omega) (by omega)] at e
    rw [e]
    exact po_wo_w _ _
  · rw [nI_eq (by omega) (by omega)] at e
    exact po_wo_n _ e
theorem py_ao {post : Int32 → Prop} {c : Nat} {r : Int32} (hr : r = -1 ∨ ∃ i, i < 12 ∧ r = nI i) (hk : po_R 64 ka) (h : post (po_ac df ka r)) : wpY_actionOf post (nI c, df, sa, da, ka) r := by
  unfold wpY_actionOf
  dsimp only
  rcases hr with rfl | ⟨i, hi, rfl⟩
  · rw [po_ac_n] at h
    exact br_f (by decide) h
  · obtain ⟨k, k1, ek⟩ := hk i
    rw [po_ac_s df ka (by omega) ek (by omega)] at h
    have e1 : nI k / 16 = nI (k / 16) := pk_div (d := 16) (by omega) (by decide) (by decide)
    rw [nI_clamp (show i < 2 ^ 31 by omega), ek, e1]
    exact br_t (nI_pos' (by omega)) ⟨vp_in_nI hi (by omega), by decide, h⟩
theorem po_ff_r (m : Nat → Bool) {d j : Nat} (h : j + d ≤ 12) : po_ff m d j = -1 ∨ ∃ i, i < 12 ∧ po_ff m d j = nI i := by
  rcases po_ff_in m d j with e | ⟨i, h1, h2, e⟩
  · exact Or.inl e
  · exact Or.inr ⟨i, by omega, e⟩
end
end
section
/-! moving rules: the copying loops of each side against po_up and po_dn, general post -/
section
variable {df : Int32}
theorem px_put {post : SX → Prop} {f : Int32} {sa da ka : Nat → Int32} {x y z : Int32} {i : Nat} (hi : i < 12) (h : post (f, df, upd sa i x, upd da i y, upd ka i z)) : wpX_putRule post (f, df, sa, da, ka) (nI i) x y z := by
  unfold wpX_putRule
  dsimp only
  have ii : vp_in (nI i) 12 := vp_in_nI hi (by omega)
  rw [nI_clamp (show i < 2 ^ 31 by omega)]
  exact ⟨ii, nm_e ⟨ii, nm_e ⟨ii, nm_e h⟩⟩⟩
theorem px_cp {post : SX → Prop} {f : Int32} {sa da ka : Nat → Int32} {x y : Int32} (a b : Nat) (hx : x = nI a) (hy : y = nI b) (ha : a < 12) (hb : b < 12) (h : post (f, df, upd sa b (sa a), upd da b (da a), upd ka b (ka a))) : wpX_copyRule post (f, df, sa, da, ka) x y := by
  subst hx hy
  unfold wpX_copyRule
  dsimp only
  have ia : vp_in (nI a) 12 := vp_in_nI ha (by omega)
  have ib : vp_in (nI b) 12 := vp_in_nI hb (by omega)
  rw [nI_clamp (show a < 2 ^ 31 by omega), nI_clamp (show b < 2 ^ 31 by omega)]
  exact ⟨ia, ib, nm_e ⟨ia, ib, nm_e ⟨ia, ib, nm_e h⟩⟩⟩
theorem py_put {post : SY → Prop} {f : Int32} {sa da ka : Nat → Int32} {x y z : Int32} {i : Nat} (hi : i < 12) (h : post (f, df, upd sa i x, upd da i y, upd ka i z)) : wpY_write post (f, df, sa, da, ka) (nI i) x y z := by
  unfold wpY_write
  dsimp only
  have ii : vp_in (nI i) 12 := vp_in_nI hi (by omega)
  rw [nI_clamp (show i < 2 ^ 31 by omega)]
  exact ⟨ii, nm_e ⟨ii, nm_e ⟨ii, nm_e h⟩⟩⟩
theorem py_cp {post : SY → Prop} {f : Int32} {sa da ka : Nat → Int32} {x y : Int32} (a b : Nat) (hx : x = nI a) (hy : y = nI b) (ha : a < 12) (hb : b < 12) (h : post (f, df, upd sa b (sa a), upd da b (da a), upd ka b (ka a))) : wpY_copy post (f, df, sa, da, ka) y x := by
  subst hx hy
  unfold wpY_copy
  dsimp only
  have ia : vp_in (nI a) 12 := vp_in_nI ha (by omega)
  have ib : vp_in (nI b) 12 := vp_in_nI hb (by omega)
  rw [nI_clamp (show a < 2 ^ 31 by omega), nI_clamp (show b < 2 ^ 31 by omega)]
  exact ⟨ia, ib, nm_e ⟨ia, ib, nm_e ⟨ia, ib, nm_e h⟩⟩⟩
theorem px_il {post : Int32 → SX → Prop} {c j : Nat} {x y z : Int32} (hc : c < 12) : ∀ (d : Nat) (sa da ka : Nat → Int32), j + d ≤ c → post (nI (c + 1)) (nI (c + 1), df, upd (po_dn sa j (j + d)) j x, upd (po_dn da j (j + d)) j y, upd (po_dn ka j (j + d)) j z) → wX_insert_53 post (nI j) x y z (d + 1) (nI (j + d)) (nI c) df sa da ka := by
  intro d
  induction d with
  | zero =>
    intro sa da ka hj h
    rw [po_dn_0 sa (show j + 0 ≤ j by omega), po_dn_0 da (show j + 0 ≤ j by omega), po_dn_0 ka (show j + 0 ≤ j by omega)] at h
    refine br_t (nI_le (by omega) (by omega)) (px_put (by omega) ?_)
    exact nm_r (nI_1 c) h
  | succ d ih =>
    intro sa da ka hj h
    refine br_f (nI_ge (by omega) (by omega)) (px_cp (j + d) (j + (d + 1)) (nI_pred (j + d)) rfl (by omega) (by omega) ?_)
    refine nm_r (pk_m1 (j + d)) (ih _ _ _ (by omega) ?_)
    rw [show j + (d + 1) = j + d + 1 from rfl, po_dn_s, po_dn_s, po_dn_s]
    exact h
theorem py_il {post : Int32 → SY → Prop} {c j : Nat} {x y z : Int32} (hc : c < 12) : ∀ (d : Nat) (sa da ka : Nat → Int32), j + d ≤ c → post (nI (c + 1)) (nI (c + 1), df, upd (po_dn sa j (j + d)) j x, upd (po_dn da j (j + d)) j y, upd (po_dn ka j (j + d)) j z) → wY_insert_65 post (nI j) x y z (d + 1) (nI (j + d)) (nI c) df sa da ka := by
  intro d
  induction d with
  | zero =>
    intro sa da ka hj h
    rw [po_dn_0 sa (show j + 0 ≤ j by omega), po_dn_0 da (show j + 0 ≤ j by omega), po_dn_0 ka (show j + 0 ≤ j by omega)] at h
    refine br_t (nI_le (by omega) (by omega)) (py_put (by omega) ?_)
    exact nm_r (nI_1 c) h
  | succ d ih =>
    intro sa da ka hj h
    refine br_f (nI_ge (by omega) (by omega)) (py_cp (j + d) (j + (d + 1)) (nI_pred (j + d)) rfl (by omega) (by omega) ?_)
    refine nm_r (pk_m1 (j + d)) (ih _ _ _ (by omega) ?_)
    rw [show j + (d + 1) = j + d + 1 from rfl, po_dn_s, po_dn_s, po_dn_s]
    exact h
theorem px_rl {post : Int32 → SX → Prop} {m : Nat} (hm : m < 12) : ∀ (d j : Nat) (sa da ka : Nat → Int32), j + d = m → post (nI m) (nI m, df, po_up sa j m, po_up da j m, po_up ka j m) → wX_remove_22 post (d + 1) (nI j) (nI m) df sa da ka := by
  intro d
  induction d with
  | zero =>
    intro j sa da ka hj h
    rw [po_up_0 sa (show m ≤ j by omega), po_up_0 da (show m ≤ j by omega), po_up_0 ka (show m ≤ j by omega)] at h
    exact br_t (nI_le (by omega) (by omega)) h
  | succ d ih =>
    intro j sa da ka hj h
    refine br_f (nI_ge (by omega) (by omega)) (px_cp (j + 1) j (nI_1 j) rfl (by omega) (by omega) ?_)
    refine nm_r (nI_1 j) (ih (j + 1) _ _ _ (by omega) ?_)
    rw [po_up_s sa (show j < m by omega), po_up_s da (show j < m by omega), po_up_s ka (show j < m by omega)]
    exact h
theorem py_rl {post : Int32 → SY → Prop} {m : Nat} (hm : m < 12) : ∀ (d j : Nat) (sa da ka : Nat → Int32), j + d = m → post (nI m) (nI m, df, po_up sa j m, po_up da j m, po_up ka j m) → wY_remove_22 post (d + 1) (nI j) (nI m) df sa da ka := by
  intro d
  induction d with
  | zero =>
    intro j sa da ka hj h
    rw [po_up_0 sa (show m ≤ j by omega), po_up_0 da (show m ≤ j by omega), po_up_0 ka (show m ≤ j by omega)] at h
    exact br_t (nI_le (by omega) (by omega)) h
  | succ d ih =>
    intro j sa da ka hj h
    refine br_f (nI_ge (by omega) (by omega)) (py_cp (j + 1) j (nI_1 j) rfl (by omega) (by omega) ?_)
    refine nm_r (nI_1 j) (ih (j + 1) _ _ _ (by omega) ?_)
    rw [po_up_s sa (show j < m by omega), po_up_s da (show j < m by omega), po_up_s ka (show j < m by omega)]
    exact h
theorem px_sd {post : Int32 → SX → Prop} {c t : Nat} {x y z : Int32} (hc : c ≤ 12) (ht : t < c) : ∀ (d : Nat) (sa da ka : Nat → Int32), t + d < c → post 0 (nI c, df, upd (po_dn sa t (t + d)) t x, upd (po_dn da t (t + d)) t y, upd (po_dn ka t (t + d)) t z) → wX_shift_69 post (nI t) x y z (d + 1) (nI (t + d)) (nI c) df sa da ka := by
  intro d
  induction d with
  | zero =>
    intro sa da ka hj h
    rw [po_dn_0 sa (show t + 0 ≤ t by omega), po_dn_0 da (show t + 0 ≤ t by omega), po_dn_0 ka (show t + 0 ≤ t by omega)] at h
    exact br_t (nI_le (by omega) (by omega)) (px_put (by omega) h)
  | succ d ih =>
    intro sa da ka hj h
    refine br_f (nI_ge (by omega) (by omega)) (px_cp (t + d) (t + (d + 1)) (nI_pred (t + d)) rfl (by omega) (by omega) ?_)
    refine nm_r (pk_m1 (t + d)) (ih _ _ _ (by omega) ?_)
    rw [show t + (d + 1) = t + d + 1 from rfl, po_dn_s, po_dn_s, po_dn_s]
    exact h
theorem px_sd' {post : Int32 → SX → Prop} {c t f : Nat} {x y z : Int32} {sa da ka : Nat → Int32} (hc : c ≤ 12) (ht : t < c) (hf : f < c) (h : post 0 (nI c, df, upd (po_dn sa t f) t x, upd (po_dn da t f) t y, upd (po_dn ka t f) t z)) : ∃ n, wX_shift_69 post (nI t) x y z n (nI f) (nI c) df sa da ka := by
  by_cases q : f ≤ t
  · rw [po_dn_0 sa q, po_dn_0 da q, po_dn_0 ka q] at h
    exact ⟨1, br_t (nI_le q (by omega)) (px_put (by omega) h)⟩
  · obtain ⟨d, rfl⟩ : ∃ d, f = t + d := ⟨f - t, by omega⟩
    exact ⟨d + 1, px_sd hc ht d sa da ka hf h⟩
theorem px_su {post : Int32 → SX → Prop} {c t f : Nat} {x y z : Int32} (hc : c ≤ 12) (ht : t < c) : ∀ (d j : Nat) (sa da ka : Nat → Int32), j + d = t → (∃ n, wX_shift_69 post (nI t) x y z n (nI f) (nI c) df (po_up sa j t) (po_up da j t) (po_up ka j t)) → wX_shift_44 post (nI f) (nI t) x y z (d + 1) (nI j) (nI c) df sa da ka := by
  intro d
  induction d with
  | zero =>
    intro j sa da ka hj h
    rw [po_up_0 sa (show t ≤ j by omega), po_up_0 da (show t ≤ j by omega), po_up_0 ka (show t ≤ j by omega)] at h
    exact br_t (nI_le (by omega) (by omega)) h
  | succ d ih =>
    intro j sa da ka hj h
    refine br_f (nI_ge (by omega) (by omega)) (px_cp (j + 1) j (nI_1 j) rfl (by omega) (by omega) ?_)
    refine nm_r (nI_1 j) (ih (j + 1) _ _ _ (by omega) ?_)
    rw [po_up_s sa (show j < t by omega), po_up_s da (show j < t by omega), po_up_s ka (show j < t by omega)]
    exact h
theorem px_su' {post : Int32 → SX → Prop} {c t f : Nat} {x y z : Int32} {sa da ka : Nat → Int32} (hc : c ≤ 12) (ht : t < c) (hf : f < c) (h : post 0 (nI c, df, upd (po_dn (po_up sa f t) t f) t x, upd (po_dn (po_up da f t) t f) t y, upd (po_dn (po_up ka f t) t f) t z)) : ∃ n, wX_shift_44 post (nI f) (nI t) x y z n (nI f) (nI c) df sa da ka := by
  by_cases q : t ≤ f
  · rw [po_up_0 sa q, po_up_0 da q, po_up_0 ka q] at h
    exact ⟨1, br_t (nI_le q (by omega)) (px_sd' hc ht hf h)⟩
  · exact ⟨t - f + 1, px_su hc ht (t - f) f sa da ka (by omega) (px_sd' hc ht hf h)⟩
end
section
variable {df : Int32} {sa da ka : Nat → Int32}
theorem px_pl0 {post : Int32 → Prop} {c : Nat} {x : Int32} (h : x < 0 ∨ nI c ≤ x) (k : post 0) : wpX_isPlace post (nI c, df, sa, da, ka) x := by
  unfold wpX_isPlace
  dsimp only
  exact br_c (fun _ => k) (fun n => br_t (h.resolve_left n) k)
theorem px_pl1 {post : Int32 → Prop} {c j : Nat} (h : j < c) (hc : c ≤ 12) (k : post 1) : wpX_isPlace post (nI c, df, sa, da, ka) (nI j) := by
  unfold wpX_isPlace
  dsimp only
  exact br_f (nI_pos (by omega)) (br_f (nI_ge h (by omega)) k)
theorem py_pl0 {post : Int32 → Prop} {c : Nat} {x : Int32} (h : x < 0 ∨ nI c ≤ x) (k : post 1) : wpY_missing post (nI c, df, sa, da, ka) x := by
  unfold wpY_missing
  dsimp only
  exact br_c (fun _ => k) (fun n => br_f (Int32.not_lt.mpr (h.resolve_left n)) k)
theorem py_pl1 {post : Int32 → Prop} {c j : Nat} (h : j < c) (hc : c ≤ 12) (k : post 0) : wpY_missing post (nI c, df, sa, da, ka) (nI j) := by
  unfold wpY_missing
  dsimp only
  exact br_f (nI_pos (by omega)) (br_t (nI_lt h (by omega)) k)
theorem px_rg0 {post : Int32 → Prop} {x : Int32} (h : x < 0 ∨ nI 1024 ≤ x) (k : post 0) : wpX_isRange post x := by
  unfold wpX_isRange
  exact br_c (fun _ => k) (fun n => br_t (h.resolve_left n) k)
theorem px_rg1 {post : Int32 → Prop} {s : Nat} (h : s < 1024) (k : post 1) : wpX_isRange post (nI s) := by
  unfold wpX_isRange
  exact br_f (nI_pos (by omega)) (br_f (nI_ge (b := 1024) h (by decide)) k)
theorem px_kd0 {post : Int32 → Prop} {x : Int32} (h : x < 0 ∨ nI 64 ≤ x) (k : post 0) : wpX_isKind post x := by
  unfold wpX_isKind
  exact br_c (fun _ => k) (fun n => br_t (h.resolve_left n) k)
theorem px_kd1 {post : Int32 → Prop} {s : Nat} (h : s < 64) (k : post 1) : wpX_isKind post (nI s) := by
  unfold wpX_isKind
  exact br_f (nI_pos (by omega)) (br_f (nI_ge (b := 64) h (by decide)) k)
theorem px_in {post : Int32 → SX → Prop} {c j s d k : Nat} (hj : j ≤ c) (hc : c < 12) (hs : s < 1024) (hd : d < 1024) (hk : k < 64) (h : post (nI (c + 1)) (nI (c + 1), df, upd (po_dn sa j c) j (nI s), upd (po_dn da j c) j (nI d), upd (po_dn ka j c) j (nI k))) : wpX_insert post (nI c, df, sa, da, ka) (nI j) (nI s) (nI d) (nI k) := by
  unfold wpX_insert
  dsimp only
  refine br_f (nI_pos (by omega)) (br_f (nI_nlt hj (by omega)) (br_t (nI_lt (b := 12) hc (by decide)) ?_))
  refine px_rg1 hs (br_f po_10 (px_rg1 hd (br_f po_10 (px_kd1 hk (br_f po_10 ?_)))))
  obtain ⟨e, rfl⟩ : ∃ e, c = j + e := ⟨c - j, by omega⟩
  exact ⟨e + 1, px_il hc e sa da ka (by omega) h⟩
theorem py_in {post : Int32 → SY → Prop} {c j s d k : Nat} (hj : j ≤ c) (hc : c < 12) (hs : s < 1024) (hd : d < 1024) (hk : k < 64) (h : post (nI (c + 1)) (nI (c + 1), df, upd (po_dn sa j c) j (nI s), upd (po_dn da j c) j (nI d), upd (po_dn ka j c) j (nI k))) : wpY_insert post (nI c, df, sa, da, ka) (nI j) (nI s) (nI d) (nI k) := by
  unfold wpY_insert
  dsimp only
  have e12 : ¬ nI c = 12 := fun e => absurd ((nI_eq (b := 12) (by omega) (by decide)).mp e) (by omega)
  refine br_f (nI_pos (by omega)) (br_f (nI_nlt hj (by omega)) (br_f e12 ?_))
  refine br_f (nI_pos (by omega)) (br_f (nI_nlt (a := 1023) (by omega) (by decide)) ?_)
  refine br_f (nI_pos (by omega)) (br_f (nI_nlt (a := 1023) (by omega) (by decide)) ?_)
  refine br_f (nI_pos (by omega)) (br_t (nI_le (b := 63) (by omega) (by decide)) ?_)
  obtain ⟨e, rfl⟩ : ∃ e, c = j + e := ⟨c - j, by omega⟩
  exact ⟨e + 1, py_il hc e sa da ka (by omega) h⟩
theorem px_rm {post : Int32 → SX → Prop} {m j : Nat} (hj : j ≤ m) (hm : m < 12) (h : post (nI m) (nI m, df, po_up sa j m, po_up da j m, po_up ka j m)) : wpX_remove post (nI (m + 1), df, sa, da, ka) (nI j) := by
  unfold wpX_remove
  dsimp only
  refine px_pl1 (by omega) (by omega) (br_f po_10 (nm_r (nI_pred m) ?_))
  exact ⟨m - j + 1, px_rl hm (m - j) j sa da ka (by omega) h⟩
theorem py_rm {post : Int32 → SY → Prop} {m j : Nat} (hj : j ≤ m) (hm : m < 12) (h : post (nI m) (nI m, df, po_up sa j m, po_up da j m, po_up ka j m)) : wpY_remove post (nI (m + 1), df, sa, da, ka) (nI j) := by
  unfold wpY_remove
  dsimp only
  refine py_pl1 (by omega) (by omega) (br_t rfl (nm_r (nI_pred m) ?_))
  exact ⟨m - j + 1, py_rl hm (m - j) j sa da ka (by omega) h⟩
theorem px_sh {post : Int32 → SX → Prop} {m f t s d k : Nat} (hf : f ≤ m) (ht : t ≤ m) (hm : m < 12) (es : sa f = nI s) (ed : da f = nI d) (ek : ka f = nI k) (h : post 0 (nI (m + 1), df, upd (po_dn (po_up sa f m) t m) t (nI s), upd (po_dn (po_up da f m) t m) t (nI d), upd (po_dn (po_up ka f m) t m) t (nI k))) : wpX_shift post (nI (m + 1), df, sa, da, ka) (nI f) (nI t) := by
  unfold wpX_shift
  dsimp only
  have ii : vp_in (nI f) 12 := vp_in_nI (by omega) (by omega)
  rw [nI_clamp (show f < 2 ^ 31 by omega), es, ed, ek]
  refine px_pl1 (by omega) (by omega) (br_f po_10 (px_pl1 (by omega) (by omega) (br_f po_10 ?_)))
  refine ⟨ii, nm_e ⟨ii, nm_e ⟨ii, nm_e ?_⟩⟩⟩
  rw [← po_shift sa hf ht, ← po_shift da hf ht, ← po_shift ka hf ht] at h
  exact px_su' (by omega) (by omega) (by omega) h
theorem py_sh {post : Int32 → SY → Prop} {m f t s d k : Nat} (hf : f ≤ m) (ht : t ≤ m) (hm : m < 12) (es : sa f = nI s) (hs : s < 1024) (ed : da f = nI d) (hd : d < 1024) (ek : ka f = nI k) (hk : k < 64) (h : post 0 (nI (m + 1), df, upd (po_dn (po_up sa f m) t m) t (nI s), upd (po_dn (po_up da f m) t m) t (nI d), upd (po_dn (po_up ka f m) t m) t (nI k))) : wpY_shift post (nI (m + 1), df, sa, da, ka) (nI f) (nI t) := by
  unfold wpY_shift
  dsimp only
  have ii : vp_in (nI f) 12 := vp_in_nI (by omega) (by omega)
  rw [nI_clamp (show f < 2 ^ 31 by omega), es, ed, ek]
  refine py_pl1 (by omega) (by omega) (br_t rfl (py_pl1 (by omega) (by omega) (br_t rfl ?_)))
  refine ⟨ii, nm_e ⟨ii, nm_e ⟨ii, nm_e ?_⟩⟩⟩
  refine py_rm hf hm ?_
  exact py_in ht hm hs hd hk h
end
end
section
/-! decided, having, use, witness: both loops in step over the 4096 packets, one answer for every post -/
section
variable {df : Int32} {sa da ka : Nat → Int32}
theorem po_end {p : Nat} (h : p + 0 = 4096) : (4096 : Int32) ≤ nI p := nI_le (a := 4096) (by omega) (by omega)
theorem po_go {d p : Nat} (h : p + (d + 1) = 4096) : ¬ (4096 : Int32) ≤ nI p := nI_ge (b := 4096) (by omega) (by decide)
theorem pz_decided {c : Nat} {x : Int32} (hc : c ≤ 12) (hs : po_R 1024 sa) (hd : po_R 1024 da) (hk : po_R 64 ka) : ∀ (d p : Nat), p + d = 4096 → ∀ n : Int32, ∃ r : Int32, (∀ post : Int32 → Prop, post r → wX_decided_20 post x (nI c) df sa da ka (d + 1) n (nI p)) ∧ (∀ post : Int32 → Prop, post r → wY_decided_20 post x (nI c) df sa da ka (d + 1) n (nI p)) := by
  intro d
  induction d with
  | zero =>
    intro p hp n
    exact ⟨n, fun _ h => br_t (po_end hp) h, fun _ h => br_t (po_end hp) h⟩
  | succ d ih =>
    intro p hp n
    have hp' : p < 4096 := by omega
    by_cases e : po_ff (po_m sa da ka p) c 0 = x
    · obtain ⟨r, hX, hY⟩ := ih (p + 1) (by omega) (n + 1)
      refine ⟨r, fun post h => br_f (po_go hp) (px_fm0 hc hp' hs hd hk (br_t e (nm_e (nm_r (nI_1 p) (hX post h))))), fun post h => br_f (po_go hp) (py_de hc hp' hs hd hk (br_t e (nm_e (nm_r (nI_1 p) (hY post h)))))⟩
    · obtain ⟨r, hX, hY⟩ := ih (p + 1) (by omega) n
      refine ⟨r, fun post h => br_f (po_go hp) (px_fm0 hc hp' hs hd hk (br_f e (nm_r (nI_1 p) (hX post h)))), fun post h => br_f (po_go hp) (py_de hc hp' hs hd hk (br_f e (nm_r (nI_1 p) (hY post h))))⟩
theorem pz_witness {c : Nat} {x : Int32} (hc : c ≤ 12) (hs : po_R 1024 sa) (hd : po_R 1024 da) (hk : po_R 64 ka) : ∀ (d p : Nat), p + d = 4096 → ∃ r : Int32, (∀ post : Int32 → Prop, post r → wX_witness_18 post x (nI c) df sa da ka (d + 1) (nI p)) ∧ (∀ post : Int32 → Prop, post r → wY_witness_18 post x (nI c) df sa da ka (d + 1) (nI p)) := by
  intro d
  induction d with
  | zero =>
    intro p hp
    exact ⟨-1, fun _ h => br_t (po_end hp) h, fun _ h => br_t (po_end hp) h⟩
  | succ d ih =>
    intro p hp
    have hp' : p < 4096 := by omega
    by_cases e : po_ff (po_m sa da ka p) c 0 = x
    · exact ⟨nI p, fun post h => br_f (po_go hp) (px_fm0 hc hp' hs hd hk (br_t e h)), fun post h => br_f (po_go hp) (py_de hc hp' hs hd hk (br_t e h))⟩
    · obtain ⟨r, hX, hY⟩ := ih (p + 1) (by omega)
      refine ⟨r, fun post h => br_f (po_go hp) (px_fm0 hc hp' hs hd hk (br_f e (nm_r (nI_1 p) (hX post h)))), fun post h => br_f (po_go hp) (py_de hc hp' hs hd hk (br_f e (nm_r (nI_1 p) (hY post h))))⟩
theorem pz_having {c : Nat} {x : Int32} (hc : c ≤ 12) (hs : po_R 1024 sa) (hd : po_R 1024 da) (hk : po_R 64 ka) : ∀ (d p : Nat), p + d = 4096 → ∀ n : Int32, ∃ r : Int32, (∀ post : Int32 → Prop, post r → wX_having_9 post (x &&& 3) (nI c) df sa da ka (d + 1) n (nI p)) ∧ (∀ post : Int32 → Prop, post r → wY_having_4 post x (nI c) df sa da ka (d + 1) n (nI p)) := by
  intro d
  induction d with
  | zero =>
    intro p hp n
    exact ⟨n, fun _ h => br_t (po_end hp) h, fun _ h => br_t (po_end hp) h⟩
  | succ d ih =>
    intro p hp n
    have hp' : p < 4096 := by omega
    have hr := po_ff_r (po_m sa da ka p) (d := c) (j := 0) (by omega)
    by_cases e : po_ac df ka (po_ff (po_m sa da ka p) c 0) = x &&& 3
    · obtain ⟨r, hX, hY⟩ := ih (p + 1) (by omega) (n + 1)
      refine ⟨r, fun post h => br_f (po_go hp) (px_pa0 hc hp' hs hd hk (br_t e (nm_e (nm_r (nI_1 p) (hX post h))))), fun post h => br_f (po_go hp) (py_de hc hp' hs hd hk (py_ao hr hk (br_t e (nm_e (nm_r (nI_1 p) (hY post h))))))⟩
    · obtain ⟨r, hX, hY⟩ := ih (p + 1) (by omega) n
      refine ⟨r, fun post h => br_f (po_go hp) (px_pa0 hc hp' hs hd hk (br_f e (nm_r (nI_1 p) (hX post h)))), fun post h => br_f (po_go hp) (py_de hc hp' hs hd hk (py_ao hr hk (br_f e (nm_r (nI_1 p) (hY post h)))))⟩
theorem pz_use {c w : Nat} (hw : w < c) (hc : c ≤ 12) (hs : po_R 1024 sa) (hd : po_R 1024 da) (hk : po_R 64 ka) : ∀ (d p : Nat), p + d = 4096 → ∀ a b : Int32, (a = 1 ∧ b = 1) ∨ (a = 2 ∧ b = 0) → ∃ r : Int32, (∀ post : Int32 → Prop, post r → wX_use_15 post (nI w) (nI c) df sa da ka (d + 1) a (nI p)) ∧ (∀ post : Int32 → Prop, post r → wY_use_15 post (nI w) (nI c) df sa da ka (d + 1) b (nI p)) := by
  obtain ⟨k, k1, ek⟩ := hk w
  intro d
  induction d with
  | zero =>
    intro p hp a b hab
    rcases hab with ⟨rfl, rfl⟩ | ⟨rfl, rfl⟩
    · exact ⟨1, fun _ h => br_t (po_end hp) h, fun _ h => br_t (po_end hp) (br_f po_10 h)⟩
    · exact ⟨2, fun _ h => br_t (po_end hp) h, fun _ h => br_t (po_end hp) (br_t rfl h)⟩
  | succ d ih =>
    intro p hp a b hab
    have hp' : p < 4096 := by omega
    by_cases e : po_ff (po_m sa da ka p) c 0 = nI w
    · have ew : po_ff (po_wo (po_m sa da ka p) w) c 0 = po_ff (po_m sa da ka p) (c - (w + 1)) (w + 1) := by
        have q := po_ff_w (po_m sa da ka p) w (by omega) c 0 (by omega) e
        rw [Nat.zero_add] at q
        exact q
      have hr := po_ff_r (po_m sa da ka p) (d := c - (w + 1)) (j := w + 1) (by omega)
      have ea : po_ac df ka (nI w) = nI (k / 16) := po_ac_s df ka (by omega) ek (by omega)
      have hX0 : ∀ (P : Int32 → Prop), P (po_ac df ka (po_ff (po_m sa da ka p) (c - (w + 1)) (w + 1))) → wpX_packetAction P (nI c, df, sa, da, ka) (nI p) (nI w + 1) :=
        fun P h => px_pa (w + 1) (nI_1 w) (by omega) hc hp' hs hd hk h
      have hX1 : ∀ (P : Int32 → Prop), P (nI (k / 16)) → wpX_ruleAction P (nI c, df, sa, da, ka) (nI w) :=
        fun P h => px_ra (by omega) ek k1 h
      have hY0 : ∀ (P : Int32 → Prop), P (po_ff (po_m sa da ka p) (c - (w + 1)) (w + 1)) → wpY_deciding P (nI c, df, sa, da, ka) (nI p) (nI w) :=
        fun P h => py_dw (by omega) hc hp' hs hd hk (by rw [ew]; exact h)
      have hY1 : ∀ (P : Int32 → Prop), P (nI (k / 16)) → wpY_actionOf P (nI c, df, sa, da, ka) (nI w) :=
        fun P h => py_ao (Or.inr ⟨w, by omega, rfl⟩) hk (by rw [ea]; exact h)
      by_cases g : po_ac df ka (po_ff (po_m sa da ka p) (c - (w + 1)) (w + 1)) = nI (k / 16)
      · obtain ⟨r, hX, hY⟩ := ih (p + 1) (by omega) 2 0 (Or.inr ⟨rfl, rfl⟩)
        refine ⟨r, fun post h => br_f (po_go hp) (px_fm0 hc hp' hs hd hk (br_t e (hX0 _ (hX1 _ (br_t g (nm_r (nI_1 p) (hX post h))))))), fun post h => br_f (po_go hp) (py_de hc hp' hs hd hk (br_t e (hY0 _ (py_ao hr hk (hY1 _ (br_t g (nm_r (nI_1 p) (hY post h))))))))⟩
      · refine ⟨0, fun post h => br_f (po_go hp) (px_fm0 hc hp' hs hd hk (br_t e (hX0 _ (hX1 _ (br_f g h))))), fun post h => br_f (po_go hp) (py_de hc hp' hs hd hk (br_t e (hY0 _ (py_ao hr hk (hY1 _ (br_f g h))))))⟩
    · obtain ⟨r, hX, hY⟩ := ih (p + 1) (by omega) a b hab
      refine ⟨r, fun post h => br_f (po_go hp) (px_fm0 hc hp' hs hd hk (br_f e (nm_r (nI_1 p) (hX post h)))), fun post h => br_f (po_go hp) (py_de hc hp' hs hd hk (br_f e (nm_r (nI_1 p) (hY post h))))⟩
theorem px_pk1 {post : Int32 → Prop} {a b t : Nat} (ha : a < 32) (hb : b < 32) (ht : t < 4) (h : post 1) : wpX_isPacket post (nI a) (nI b) (nI t) := by
  unfold wpX_isPacket
  exact br_f (nI_pos (by omega)) (br_f (nI_ge (b := 32) ha (by decide)) (br_f (nI_pos (by omega)) (br_f (nI_ge (b := 32) hb (by decide)) (br_f (nI_pos (by omega)) (br_f (nI_ge (b := 4) ht (by decide)) h)))))
theorem py_pk1 {post : Int32 → Prop} {a b t : Nat} (ha : a < 32) (hb : b < 32) (ht : t < 4) (h : post 0) : wpY_noPacket post (nI a) (nI b) (nI t) := by
  unfold wpY_noPacket
  exact br_f (nI_pos (by omega)) (br_f (nI_nlt (a := 31) (by omega) (by decide)) (br_f (nI_pos (by omega)) (br_f (nI_nlt (a := 31) (by omega) (by decide)) (br_f (nI_pos (by omega)) (br_t (nI_le (b := 3) (by omega) (by decide)) h)))))
/-- three numbers are a packet, or both sides refuse them -/
theorem pz_pk (x y z : Int32) : (∃ a b t : Nat, a < 32 ∧ b < 32 ∧ t < 4 ∧ x = nI a ∧ y = nI b ∧ z = nI t) ∨ ((∀ post : Int32 → Prop, post 0 → wpX_isPacket post x y z) ∧ (∀ post : Int32 → Prop, post 1 → wpY_noPacket post x y z)) := by
  unfold wpX_isPacket wpY_noPacket
  rcases pk_ix x (n := 32) (by decide) with h | h | ⟨a, ha, rfl⟩
  · exact Or.inr ⟨fun _ k => br_t h k, fun _ k => br_t h k⟩
  · obtain ⟨q1, q2, q3, q4⟩ := po_big (n := 31) h (by decide)
    exact Or.inr ⟨fun _ k => br_f q1 (br_t h k), fun _ k => br_f q1 (br_t (Int32.not_le.mp q3) k)⟩
  · have a1 : ¬ nI a < 0 := nI_pos (by omega)
    have a2 : ¬ (32 : Int32) ≤ nI a := nI_ge (b := 32) ha (by decide)
    have a3 : ¬ (31 : Int32) < nI a := nI_nlt (a := 31) (by omega) (by decide)
    rcases pk_ix y (n := 32) (by decide) with h | h | ⟨b, hb, rfl⟩
    · exact Or.inr ⟨fun _ k => br_f a1 (br_f a2 (br_t h k)), fun _ k => br_f a1 (br_f a3 (br_t h k))⟩
    · obtain ⟨q1, q2, q3, q4⟩ := po_big (n := 31) h (by decide)
      exact Or.inr ⟨fun _ k => br_f a1 (br_f a2 (br_f q1 (br_t h k))), fun _ k => br_f a1 (br_f a3 (br_f q1 (br_t (Int32.not_le.mp q3) k)))⟩
    · have b1 : ¬ nI b < 0 := nI_pos (by omega)
      have b2 : ¬ (32 : Int32) ≤ nI b := nI_ge (b := 32) hb (by decide)
      have b3 : ¬ (31 : Int32) < nI b := nI_nlt (a := 31) (by omega) (by decide)
      rcases pk_ix z (n := 4) (by decide) with h | h | ⟨t, ht, rfl⟩
      · exact Or.inr ⟨fun _ k => br_f a1 (br_f a2 (br_f b1 (br_f b2 (br_t h k)))), fun _ k => br_f a1 (br_f a3 (br_f b1 (br_f b3 (br_t h k))))⟩
      · obtain ⟨q1, q2, q3, q4⟩ := po_big (n := 3) h (by decide)
        exact Or.inr ⟨fun _ k => br_f a1 (br_f a2 (br_f b1 (br_f b2 (br_f q1 (br_t h k))))), fun _ k => br_f a1 (br_f a3 (br_f b1 (br_f b3 (br_f q1 (br_f q3 k)))))⟩
      · exact Or.inl ⟨a, b, t, ha, hb, ht, rfl, rfl, rfl⟩
end
end
section
/-! whole calls, general post: refused, and answered -/
section
variable {df : Int32} {sa da ka : Nat → Int32}
theorem po_m2 {n : Nat} (h : n < 2 ^ 31) : ¬ nI n = -2 := by
  intro e
  have := nI_pos (n := n) h
  rw [e] at this
  exact this (by decide)
theorem px_rm0 {post : Int32 → SX → Prop} {c : Nat} {x : Int32} (h : x < 0 ∨ nI c ≤ x) (k : post (-1) (nI c, df, sa, da, ka)) : wpX_remove post (nI c, df, sa, da, ka) x := by
  unfold wpX_remove
  dsimp only
  exact px_pl0 h (br_t rfl k)
theorem py_rm0 {post : Int32 → SY → Prop} {c : Nat} {x : Int32} (h : x < 0 ∨ nI c ≤ x) (k : post (-1) (nI c, df, sa, da, ka)) : wpY_remove post (nI c, df, sa, da, ka) x := by
  unfold wpY_remove
  dsimp only
  exact py_pl0 h (br_f po_10 k)
theorem px_sh0 {post : Int32 → SX → Prop} {c : Nat} {x y : Int32} (h : x < 0 ∨ nI c ≤ x) (k : post (-1) (nI c, df, sa, da, ka)) : wpX_shift post (nI c, df, sa, da, ka) x y := by
  unfold wpX_shift
  dsimp only
  exact px_pl0 h (br_t rfl k)
theorem px_sh1 {post : Int32 → SX → Prop} {c f : Nat} {y : Int32} (hf : f < c) (hc : c ≤ 12) (h : y < 0 ∨ nI c ≤ y) (k : post (-1) (nI c, df, sa, da, ka)) : wpX_shift post (nI c, df, sa, da, ka) (nI f) y := by
  unfold wpX_shift
  dsimp only
  exact px_pl1 hf hc (br_f po_10 (px_pl0 h (br_t rfl k)))
theorem py_sh0 {post : Int32 → SY → Prop} {c : Nat} {x y : Int32} (h : x < 0 ∨ nI c ≤ x) (k : post (-1) (nI c, df, sa, da, ka)) : wpY_shift post (nI c, df, sa, da, ka) x y := by
  unfold wpY_shift
  dsimp only
  exact py_pl0 h (br_f po_10 k)
theorem py_sh1 {post : Int32 → SY → Prop} {c f : Nat} {y : Int32} (hf : f < c) (hc : c ≤ 12) (h : y < 0 ∨ nI c ≤ y) (k : post (-1) (nI c, df, sa, da, ka)) : wpY_shift post (nI c, df, sa, da, ka) (nI f) y := by
  unfold wpY_shift
  dsimp only
  exact py_pl1 hf hc (br_t rfl (py_pl0 h (br_f po_10 k)))
/-- four numbers can be put in, or both sides refuse them -/
theorem pz_in {c : Nat} (hc : c ≤ 12) (x y z w : Int32) : (∃ j s d k : Nat, j ≤ c ∧ c < 12 ∧ s < 1024 ∧ d < 1024 ∧ k < 64 ∧ x = nI j ∧ y = nI s ∧ z = nI d ∧ w = nI k) ∨ ((∀ post : Int32 → SX → Prop, post (-1) (nI c, df, sa, da, ka) → wpX_insert post (nI c, df, sa, da, ka) x y z w) ∧ (∀ post : Int32 → SY → Prop, post (-1) (nI c, df, sa, da, ka) → wpY_insert post (nI c, df, sa, da, ka) x y z w)) := by
  unfold wpX_insert wpY_insert
  dsimp only
  rcases pk_ix x (n := c + 1) (by omega) with h | h | ⟨j, hj, rfl⟩
  · exact Or.inr ⟨fun _ k => br_t h k, fun _ k => br_t h k⟩
  · obtain ⟨q1, q2, q3, q4⟩ := po_big (n := c) h (by omega)
    exact Or.inr ⟨fun _ k => br_f q1 (br_t (Int32.not_le.mp q3) k), fun _ k => br_f q1 (br_t (Int32.not_le.mp q3) k)⟩
  have j1 : ¬ nI j < 0 := nI_pos (by omega)
  have j2 : ¬ nI c < nI j := nI_nlt (by omega) (by omega)
  by_cases c12 : c < 12
  · have f1 : nI c < (12 : Int32) := nI_lt (b := 12) c12 (by decide)
    have f2 : ¬ nI c = (12 : Int32) := fun e => absurd ((nI_eq (b := 12) (by omega) (by decide)).mp e) (by omega)
    rcases pk_ix y (n := 1024) (by decide) with h | h | ⟨s, hs, rfl⟩
    · exact Or.inr ⟨fun _ k => br_f j1 (br_f j2 (br_t f1 (px_rg0 (Or.inl h) (br_t rfl k)))), fun _ k => br_f j1 (br_f j2 (br_f f2 (br_t h k)))⟩
    · obtain ⟨q1, q2, q3, q4⟩ := po_big (n := 1023) h (by decide)
      exact Or.inr ⟨fun _ k => br_f j1 (br_f j2 (br_t f1 (px_rg0 (Or.inr h) (br_t rfl k)))), fun _ k => br_f j1 (br_f j2 (br_f f2 (br_f q1 (br_t (Int32.not_le.mp q3) k))))⟩
    have s1 : ¬ nI s < 0 := nI_pos (by omega)
    have s2 : ¬ (1023 : Int32) < nI s := nI_nlt (a := 1023) (by omega) (by decide)
    rcases pk_ix z (n := 1024) (by decide) with h | h | ⟨d, hd, rfl⟩
    · exact Or.inr ⟨fun _ k => br_f j1 (br_f j2 (br_t f1 (px_rg1 hs (br_f po_10 (px_rg0 (Or.inl h) (br_t rfl k)))))), fun _ k => br_f j1 (br_f j2 (br_f f2 (br_f s1 (br_f s2 (br_t h k)))))⟩
    · obtain ⟨q1, q2, q3, q4⟩ := po_big (n := 1023) h (by decide)
      exact Or.inr ⟨fun _ k => br_f j1 (br_f j2 (br_t f1 (px_rg1 hs (br_f po_10 (px_rg0 (Or.inr h) (br_t rfl k)))))), fun _ k => br_f j1 (br_f j2 (br_f f2 (br_f s1 (br_f s2 (br_f q1 (br_t (Int32.not_le.mp q3) k))))))⟩
    have d1 : ¬ nI d < 0 := nI_pos (by omega)
    have d2 : ¬ (1023 : Int32) < nI d := nI_nlt (a := 1023) (by omega) (by decide)
    rcases pk_ix w (n := 64) (by decide) with h | h | ⟨e, he, rfl⟩
    · exact Or.inr ⟨fun _ k => br_f j1 (br_f j2 (br_t f1 (px_rg1 hs (br_f po_10 (px_rg1 hd (br_f po_10 (px_kd0 (Or.inl h) (br_t rfl k)))))))), fun _ k => br_f j1 (br_f j2 (br_f f2 (br_f s1 (br_f s2 (br_f d1 (br_f d2 (br_t h k)))))))⟩
    · obtain ⟨q1, q2, q3, q4⟩ := po_big (n := 63) h (by decide)
      exact Or.inr ⟨fun _ k => br_f j1 (br_f j2 (br_t f1 (px_rg1 hs (br_f po_10 (px_rg1 hd (br_f po_10 (px_kd0 (Or.inr h) (br_t rfl k)))))))), fun _ k => br_f j1 (br_f j2 (br_f f2 (br_f s1 (br_f s2 (br_f d1 (br_f d2 (br_f q1 (br_f q3 k))))))))⟩
    · exact Or.inl ⟨j, s, d, e, by omega, c12, hs, hd, he, rfl, rfl, rfl, rfl⟩
  · have e12 : c = 12 := by omega
    subst e12
    exact Or.inr ⟨fun _ k => br_f j1 (br_f j2 (br_f (nI_nlt (a := 12) (b := 12) (by omega) (by decide)) k)), fun _ k => br_f j1 (br_f j2 (br_t rfl k))⟩
theorem px_pn {post : Int32 → Prop} {a b t : Nat} (h : post (nI (128 * a + 4 * b + t))) : wpX_packetNumber post (nI a) (nI b) (nI t) := by
  unfold wpX_packetNumber
  rw [po_num]
  exact h
theorem px_dc {post : Int32 → Prop} {c a b t : Nat} (ha : a < 32) (hb : b < 32) (ht : t < 4) (hc : c ≤ 12) (hs : po_R 1024 sa) (hd : po_R 1024 da) (hk : po_R 64 ka) (h : post (po_ff (po_m sa da ka (128 * a + 4 * b + t)) c 0)) : wpX_decide post (nI c, df, sa, da, ka) (nI a) (nI b) (nI t) := by
  unfold wpX_decide
  dsimp only
  exact px_pk1 ha hb ht (br_f po_10 (px_pn (px_fm0 hc (by omega) hs hd hk h)))
theorem py_dc {post : Int32 → Prop} {c a b t : Nat} (ha : a < 32) (hb : b < 32) (ht : t < 4) (hc : c ≤ 12) (hs : po_R 1024 sa) (hd : po_R 1024 da) (hk : po_R 64 ka) (h : post (po_ff (po_m sa da ka (128 * a + 4 * b + t)) c 0)) : wpY_decide post (nI c, df, sa, da, ka) (nI a) (nI b) (nI t) := by
  unfold wpY_decide
  dsimp only
  rw [po_num]
  exact py_pk1 ha hb ht (br_t rfl (py_de hc (by omega) hs hd hk h))
theorem px_at {post : Int32 → Prop} {c a b t : Nat} (ha : a < 32) (hb : b < 32) (ht : t < 4) (hc : c ≤ 12) (hs : po_R 1024 sa) (hd : po_R 1024 da) (hk : po_R 64 ka) (h : post (po_ac df ka (po_ff (po_m sa da ka (128 * a + 4 * b + t)) c 0))) : wpX_action post (nI c, df, sa, da, ka) (nI a) (nI b) (nI t) := by
  unfold wpX_action
  dsimp only
  exact px_pk1 ha hb ht (br_f po_10 (px_pn (px_pa0 hc (by omega) hs hd hk h)))
theorem py_at {post : Int32 → Prop} {c a b t : Nat} (ha : a < 32) (hb : b < 32) (ht : t < 4) (hc : c ≤ 12) (hs : po_R 1024 sa) (hd : po_R 1024 da) (hk : po_R 64 ka) (h : post (po_ac df ka (po_ff (po_m sa da ka (128 * a + 4 * b + t)) c 0))) : wpY_action post (nI c, df, sa, da, ka) (nI a) (nI b) (nI t) := by
  unfold wpY_action
  dsimp only
  refine py_dc ha hb ht hc hs hd hk ?_
  have hr := po_ff_r (po_m sa da ka (128 * a + 4 * b + t)) (d := c) (j := 0) (by omega)
  have h2 : ¬ po_ff (po_m sa da ka (128 * a + 4 * b + t)) c 0 = -2 := by
    rcases hr with e | ⟨i, hi, e⟩
    · rw [e]; decide
    · rw [e]; exact po_m2 (by omega)
  exact br_f h2 (py_ao hr hk h)
end
end
section
/-! the relation, and what is owed -/
def i_Rel (_ : Nat) (u : SX) (v : SY) : Prop := ∃ (c : Nat) (df : Int32) (sa da ka : Nat → Int32), u = (nI c, df, sa, da, ka) ∧ v = (nI c, df, sa, da, ka) ∧ c ≤ 12 ∧ po_R 1024 sa ∧ po_R 1024 da ∧ po_R 64 ka
theorem i_up {k : Nat} {u : SX} {v : SY} (h : i_Rel k u v) : i_Rel (k + 5) u v := h
theorem i_vc0 : wpX_init (fun u => wpY_init (fun v => i_Rel 0 u v)) :=
  ⟨0, 0, fun _ => 0, fun _ => 0, fun _ => 0, rfl, rfl, by omega, po_R_0 (by omega), po_R_0 (by omega), po_R_0 (by omega)⟩
theorem i_vc_insert {k : Nat} {u : SX} {v : SY} (I : i_Rel k u v) (hk : k + 5 ≤ 2560) (v1 : Int32) (v2 : Int32) (v3 : Int32) (v4 : Int32) : wpX_insert (fun r u' => wpY_insert (fun r' v' => r' = r ∧ i_Rel (k + 5) u' v') v v1 v2 v3 v4) u v1 v2 v3 v4 := by
  have J := I
  obtain ⟨c, df, sa, da, ka, rfl, rfl, hc, hs, hd, hq⟩ := I
  rcases pz_in (df := df) (sa := sa) (da := da) (ka := ka) hc v1 v2 v3 v4 with ⟨j, s, d, e, h1, h2, h3, h4, h5, rfl, rfl, rfl, rfl⟩ | ⟨hX, hY⟩
  · refine px_in h1 h2 h3 h4 h5 (py_in h1 h2 h3 h4 h5 ⟨rfl, c + 1, df, _, _, _, rfl, rfl, by omega, ?_, ?_, ?_⟩)
    · exact po_R_upd (po_R_dn hs j c) j ⟨s, h3, rfl⟩
    · exact po_R_upd (po_R_dn hd j c) j ⟨d, h4, rfl⟩
    · exact po_R_upd (po_R_dn hq j c) j ⟨e, h5, rfl⟩
  · exact hX _ (hY _ ⟨rfl, J⟩)
theorem i_vc_remove {k : Nat} {u : SX} {v : SY} (I : i_Rel k u v) (hk : k + 5 ≤ 2560) (v1 : Int32) : wpX_remove (fun r u' => wpY_remove (fun r' v' => r' = r ∧ i_Rel (k + 5) u' v') v v1) u v1 := by
  have J := I
  obtain ⟨c, df, sa, da, ka, rfl, rfl, hc, hs, hd, hq⟩ := I
  rcases pk_ix v1 (n := c) (by omega) with h | h | ⟨j, hj, rfl⟩
  · exact px_rm0 (Or.inl h) (py_rm0 (Or.inl h) ⟨rfl, J⟩)
  · exact px_rm0 (Or.inr h) (py_rm0 (Or.inr h) ⟨rfl, J⟩)
  · obtain ⟨m, rfl⟩ : ∃ m, c = m + 1 := ⟨c - 1, by omega⟩
    exact px_rm (by omega) (by omega) (py_rm (by omega) (by omega) ⟨rfl, m, df, _, _, _, rfl, rfl, by omega, po_R_up hs j m, po_R_up hd j m, po_R_up hq j m⟩)
theorem i_vc_shift {k : Nat} {u : SX} {v : SY} (I : i_Rel k u v) (hk : k + 5 ≤ 2560) (v1 : Int32) (v2 : Int32) : wpX_shift (fun r u' => wpY_shift (fun r' v' => r' = r ∧ i_Rel (k + 5) u' v') v v1 v2) u v1 v2 := by
  have J := I
  obtain ⟨c, df, sa, da, ka, rfl, rfl, hc, hs, hd, hq⟩ := I
  rcases pk_ix v1 (n := c) (by omega) with h | h | ⟨f, hf, rfl⟩
  · exact px_sh0 (Or.inl h) (py_sh0 (Or.inl h) ⟨rfl, J⟩)
  · exact px_sh0 (Or.inr h) (py_sh0 (Or.inr h) ⟨rfl, J⟩)
  rcases pk_ix v2 (n := c) (by omega) with h | h | ⟨t, ht, rfl⟩
  · exact px_sh1 hf hc (Or.inl h) (py_sh1 hf hc (Or.inl h) ⟨rfl, J⟩)
  · exact px_sh1 hf hc (Or.inr h) (py_sh1 hf hc (Or.inr h) ⟨rfl, J⟩)
  obtain ⟨m, rfl⟩ : ∃ m, c = m + 1 := ⟨c - 1, by omega⟩
  obtain ⟨s, s1, es⟩ := hs f
  obtain ⟨d, d1, ed⟩ := hd f
  obtain ⟨e, e1, ee⟩ := hq f
  refine px_sh (by omega) (by omega) (by omega) es ed ee (py_sh (by omega) (by omega) (by omega) es s1 ed d1 ee e1 ⟨rfl, m + 1, df, _, _, _, rfl, rfl, hc, ?_, ?_, ?_⟩)
  · exact po_R_upd (po_R_dn (po_R_up hs f m) t m) t ⟨s, s1, rfl⟩
  · exact po_R_upd (po_R_dn (po_R_up hd f m) t m) t ⟨d, d1, rfl⟩
  · exact po_R_upd (po_R_dn (po_R_up hq f m) t m) t ⟨e, e1, rfl⟩
theorem i_vc_otherwise {k : Nat} {u : SX} {v : SY} (I : i_Rel k u v) (hk : k + 5 ≤ 2560) (v1 : Int32) : wpX_otherwise (fun r u' => wpY_otherwise (fun r' v' => r' = r ∧ i_Rel (k + 5) u' v') v v1) u v1 := by
  obtain ⟨c, df, sa, da, ka, rfl, rfl, hc, hs, hd, hq⟩ := I
  exact nm_e (nm_e ⟨rfl, c, v1 &&& 3, sa, da, ka, rfl, rfl, hc, hs, hd, hq⟩)
theorem i_vc_decide {k : Nat} {u : SX} {v : SY} (I : i_Rel k u v) (hk : k + 5 ≤ 2560) (v1 : Int32) (v2 : Int32) (v3 : Int32) : wpX_decide (fun r => wpY_decide (fun r' => r' = r ∧ i_Rel (k + 5) u v) v v1 v2 v3) u v1 v2 v3 := by
  have J := I
  obtain ⟨c, df, sa, da, ka, rfl, rfl, hc, hs, hd, hq⟩ := I
  rcases pz_pk v1 v2 v3 with ⟨a, b, t, ha, hb, ht, rfl, rfl, rfl⟩ | ⟨hX, hY⟩
  · exact px_dc ha hb ht hc hs hd hq (py_dc ha hb ht hc hs hd hq ⟨rfl, J⟩)
  · unfold wpX_decide wpY_decide
    dsimp only
    exact hX _ (br_t rfl (hY _ (br_f po_10 ⟨rfl, J⟩)))
theorem i_vc_action {k : Nat} {u : SX} {v : SY} (I : i_Rel k u v) (hk : k + 5 ≤ 2560) (v1 : Int32) (v2 : Int32) (v3 : Int32) : wpX_action (fun r => wpY_action (fun r' => r' = r ∧ i_Rel (k + 5) u v) v v1 v2 v3) u v1 v2 v3 := by
  have J := I
  obtain ⟨c, df, sa, da, ka, rfl, rfl, hc, hs, hd, hq⟩ := I
  rcases pz_pk v1 v2 v3 with ⟨a, b, t, ha, hb, ht, rfl, rfl, rfl⟩ | ⟨hX, hY⟩
  · exact px_at ha hb ht hc hs hd hq (py_at ha hb ht hc hs hd hq ⟨rfl, J⟩)
  · unfold wpX_action wpY_action wpY_decide
    dsimp only
    exact hX _ (br_t rfl (hY _ (br_f po_10 (br_t rfl ⟨rfl, J⟩))))
theorem i_vc_decided {k : Nat} {u : SX} {v : SY} (I : i_Rel k u v) (hk : k + 5 ≤ 2560) (v1 : Int32) : wpX_decided (fun r => wpY_decided (fun r' => r' = r ∧ i_Rel (k + 5) u v) v v1) u v1 := by
  have J := I
  obtain ⟨c, df, sa, da, ka, rfl, rfl, hc, hs, hd, hq⟩ := I
  obtain ⟨r, hX, hY⟩ := pz_decided (df := df) (x := v1) hc hs hd hq 4096 0 rfl 0
  rw [nI_0] at hX hY
  unfold wpX_decided wpY_decided
  dsimp only
  by_cases e : v1 = -1
  · exact br_t e ⟨_, hX _ (br_t e ⟨_, hY _ ⟨rfl, J⟩⟩)⟩
  rcases pk_ix v1 (n := c) (by omega) with h | h | ⟨j, hj, rfl⟩
  · exact br_f e (px_pl0 (Or.inl h) (br_t rfl (br_f e (py_pl0 (Or.inl h) (br_f po_10 ⟨rfl, J⟩)))))
  · exact br_f e (px_pl0 (Or.inr h) (br_t rfl (br_f e (py_pl0 (Or.inr h) (br_f po_10 ⟨rfl, J⟩)))))
  · exact br_f e (px_pl1 hj hc (br_f po_10 ⟨_, hX _ (br_f e (py_pl1 hj hc (br_t rfl ⟨_, hY _ ⟨rfl, J⟩⟩)))⟩))
theorem i_vc_having {k : Nat} {u : SX} {v : SY} (I : i_Rel k u v) (hk : k + 5 ≤ 2560) (v1 : Int32) : wpX_having (fun r => wpY_having (fun r' => r' = r ∧ i_Rel (k + 5) u v) v v1) u v1 := by
  have J := I
  obtain ⟨c, df, sa, da, ka, rfl, rfl, hc, hs, hd, hq⟩ := I
  obtain ⟨r, hX, hY⟩ := pz_having (df := df) (x := v1) hc hs hd hq 4096 0 rfl 0
  rw [nI_0] at hX hY
  unfold wpX_having wpY_having
  dsimp only
  exact nm_e ⟨_, hX _ ⟨_, hY _ ⟨rfl, J⟩⟩⟩
theorem i_vc_use {k : Nat} {u : SX} {v : SY} (I : i_Rel k u v) (hk : k + 5 ≤ 2560) (v1 : Int32) : wpX_use (fun r => wpY_use (fun r' => r' = r ∧ i_Rel (k + 5) u v) v v1) u v1 := by
  have J := I
  obtain ⟨c, df, sa, da, ka, rfl, rfl, hc, hs, hd, hq⟩ := I
  unfold wpX_use wpY_use
  dsimp only
  rcases pk_ix v1 (n := c) (by omega) with h | h | ⟨j, hj, rfl⟩
  · exact px_pl0 (Or.inl h) (br_t rfl (py_pl0 (Or.inl h) (br_f po_10 ⟨rfl, J⟩)))
  · exact px_pl0 (Or.inr h) (br_t rfl (py_pl0 (Or.inr h) (br_f po_10 ⟨rfl, J⟩)))
  · obtain ⟨r, hX, hY⟩ := pz_use (df := df) hj hc hs hd hq 4096 0 rfl 1 1 (Or.inl ⟨rfl, rfl⟩)
    rw [nI_0] at hX hY
    exact px_pl1 hj hc (br_f po_10 ⟨_, hX _ (py_pl1 hj hc (br_t rfl ⟨_, hY _ ⟨rfl, J⟩⟩))⟩)
theorem i_vc_witness {k : Nat} {u : SX} {v : SY} (I : i_Rel k u v) (hk : k + 5 ≤ 2560) (v1 : Int32) : wpX_witness (fun r => wpY_witness (fun r' => r' = r ∧ i_Rel (k + 5) u v) v v1) u v1 := by
  have J := I
  obtain ⟨c, df, sa, da, ka, rfl, rfl, hc, hs, hd, hq⟩ := I
  obtain ⟨r, hX, hY⟩ := pz_witness (df := df) (x := v1) hc hs hd hq 4096 0 rfl
  rw [nI_0] at hX hY
  unfold wpX_witness wpY_witness
  dsimp only
  by_cases e : v1 = -1
  · exact br_t e ⟨_, hX _ (br_t e ⟨_, hY _ ⟨rfl, J⟩⟩)⟩
  rcases pk_ix v1 (n := c) (by omega) with h | h | ⟨j, hj, rfl⟩
  · exact br_f e (px_pl0 (Or.inl h) (br_t rfl (br_f e (py_pl0 (Or.inl h) (br_f po_10 ⟨rfl, J⟩)))))
  · exact br_f e (px_pl0 (Or.inr h) (br_t rfl (br_f e (py_pl0 (Or.inr h) (br_f po_10 ⟨rfl, J⟩)))))
  · exact br_f e (px_pl1 hj hc (br_f po_10 ⟨_, hX _ (br_f e (py_pl1 hj hc (br_t rfl ⟨_, hY _ ⟨rfl, J⟩⟩)))⟩))
end
