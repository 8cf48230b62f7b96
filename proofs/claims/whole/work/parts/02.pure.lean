/-! pure pictures: moving rules up and down, ranges, one rule against one packet, the first rule that matches -/
def po_up (a : Nat → Int32) (f m : Nat) : Nat → Int32 := fun i => if f ≤ i ∧ i < m then a (i + 1) else a i
def po_dn (a : Nat → Int32) (t m : Nat) : Nat → Int32 := fun i => if t < i ∧ i ≤ m then a (i - 1) else a i
theorem po_up_0 (a : Nat → Int32) {f m : Nat} (h : m ≤ f) : po_up a f m = a := by
  funext i
  exact if_neg (by omega)
theorem po_dn_0 (a : Nat → Int32) {t m : Nat} (h : m ≤ t) : po_dn a t m = a := by
  funext i
  exact if_neg (by omega)
theorem po_up_s (a : Nat → Int32) {f m : Nat} (h : f < m) : po_up (upd a f (a (f + 1))) (f + 1) m = po_up a f m := by
  funext i
  show (if f + 1 ≤ i ∧ i < m then (if i + 1 = f then a (f + 1) else a (i + 1)) else (if i = f then a (f + 1) else a i)) = (if f ≤ i ∧ i < m then a (i + 1) else a i)
  repeat' split
  all_goals first | rfl | omega | exact congrArg a (by omega)
theorem po_dn_s (a : Nat → Int32) (t d : Nat) : po_dn (upd a (t + d + 1) (a (t + d))) t (t + d) = po_dn a t (t + d + 1) := by
  funext i
  show (if t < i ∧ i ≤ t + d then (if i - 1 = t + d + 1 then a (t + d) else a (i - 1)) else (if i = t + d + 1 then a (t + d) else a i)) = (if t < i ∧ i ≤ t + d + 1 then a (i - 1) else a i)
  repeat' split
  all_goals first | rfl | omega | exact congrArg a (by omega)
theorem po_shift (a : Nat → Int32) {f t m : Nat} (hf : f ≤ m) (ht : t ≤ m) (x : Int32) : upd (po_dn (po_up a f t) t f) t x = upd (po_dn (po_up a f m) t m) t x := by
  funext i
  show (if i = t then x else (if t < i ∧ i ≤ f then (if f ≤ i - 1 ∧ i - 1 < t then a (i - 1 + 1) else a (i - 1)) else (if f ≤ i ∧ i < t then a (i + 1) else a i))) = (if i = t then x else (if t < i ∧ i ≤ m then (if f ≤ i - 1 ∧ i - 1 < m then a (i - 1 + 1) else a (i - 1)) else (if f ≤ i ∧ i < m then a (i + 1) else a i)))
  repeat' split
  all_goals first | rfl | omega | exact congrArg a (by omega)
def po_R (B : Nat) (a : Nat → Int32) : Prop := ∀ i, ∃ s, s < B ∧ a i = nI s
theorem po_R_0 {B : Nat} (h : 0 < B) : po_R B (fun _ => 0) := fun _ => ⟨0, h, rfl⟩
theorem po_R_up {B : Nat} {a : Nat → Int32} (h : po_R B a) (f m : Nat) : po_R B (po_up a f m) := by
  intro i
  by_cases c : f ≤ i ∧ i < m
  · rw [show po_up a f m i = a (i + 1) from if_pos c]; exact h _
  · rw [show po_up a f m i = a i from if_neg c]; exact h _
theorem po_R_dn {B : Nat} {a : Nat → Int32} (h : po_R B a) (t m : Nat) : po_R B (po_dn a t m) := by
  intro i
  by_cases c : t < i ∧ i ≤ m
  · rw [show po_dn a t m i = a (i - 1) from if_pos c]; exact h _
  · rw [show po_dn a t m i = a i from if_neg c]; exact h _
theorem po_R_upd {B : Nat} {a : Nat → Int32} (h : po_R B a) (k : Nat) {x : Int32} (hx : ∃ s, s < B ∧ x = nI s) : po_R B (upd a k x) := by
  intro i
  by_cases c : i = k
  · rw [show upd a k x i = x from if_pos c]; exact hx
  · rw [show upd a k x i = a i from if_neg c]; exact h _
/-- one rule (its three numbers) against one packet -/
def po_mt (s d k p : Nat) : Bool := decide (s / 32 ≤ p / 128 ∧ p / 128 ≤ s % 32) && decide (d / 32 ≤ p / 4 % 32 ∧ p / 4 % 32 ≤ d % 32) && decide (k / 2 ^ (p % 4) % 2 = 1)
def po_m (sa da ka : Nat → Int32) (p : Nat) : Nat → Bool := fun j => po_mt (sa j).toNatClampNeg (da j).toNatClampNeg (ka j).toNatClampNeg p
def po_b (b : Bool) : Int32 := if b = true then 1 else 0
/-- the first place that matches, of d places from j on, or -1 -/
def po_ff (m : Nat → Bool) : Nat → Nat → Int32
  | 0, _ => -1
  | d + 1, j => if m j = true then nI j else po_ff m d (j + 1)
theorem po_m1 {n : Nat} (h : n < 2 ^ 31) : ¬ nI n = -1 := by
  intro e
  have := nI_pos (n := n) h
  rw [e] at this
  exact this (by decide)
theorem po_m1' {n : Nat} (h : n < 2 ^ 31) : ¬ -1 = nI n := fun e => po_m1 h e.symm
theorem po_ff_t {m : Nat → Bool} {d j : Nat} (h : m j = true) : po_ff m (d + 1) j = nI j := if_pos h
theorem po_ff_f {m : Nat → Bool} {d j : Nat} (h : ¬ m j = true) : po_ff m (d + 1) j = po_ff m d (j + 1) := if_neg h
theorem po_ff_in (m : Nat → Bool) : ∀ d j : Nat, po_ff m d j = -1 ∨ ∃ i, j ≤ i ∧ i < j + d ∧ po_ff m d j = nI i := by
  intro d
  induction d with
  | zero => intro j; exact Or.inl rfl
  | succ d ih =>
    intro j
    by_cases h : m j = true
    · rw [po_ff_t h]; exact Or.inr ⟨j, by omega, by omega, rfl⟩
    · rw [po_ff_f h]
      rcases ih (j + 1) with e | ⟨i, h1, h2, e⟩
      · exact Or.inl e
      · exact Or.inr ⟨i, by omega, by omega, e⟩
theorem po_ff_c {m m' : Nat → Bool} : ∀ d j : Nat, (∀ i, j ≤ i → m i = m' i) → po_ff m d j = po_ff m' d j := by
  intro d
  induction d with
  | zero => intro j _; rfl
  | succ d ih =>
    intro j h
    by_cases c : m j = true
    · rw [po_ff_t c, po_ff_t ((h j (Nat.le_refl j)).symm.trans c)]
    · rw [po_ff_f c, po_ff_f (fun z => c ((h j (Nat.le_refl j)).trans z)), ih (j + 1) (fun i hi => h i (by omega))]
/-- the places but w -/
def po_wo (m : Nat → Bool) (w : Nat) : Nat → Bool := fun i => decide (i ≠ w) && m i
theorem po_wo_w (m : Nat → Bool) (w : Nat) : ¬ po_wo m w w = true := by
  simp [po_wo]
theorem po_wo_n (m : Nat → Bool) {w i : Nat} (h : i ≠ w) : po_wo m w i = m i := by
  simp [po_wo, h]
theorem po_ff_w (m : Nat → Bool) (w : Nat) (hw : w < 2 ^ 31) : ∀ d j : Nat, j + d < 2 ^ 31 → po_ff m d j = nI w → po_ff (po_wo m w) d j = po_ff m (j + d - (w + 1)) (w + 1) := by
  intro d
  induction d with
  | zero => intro j _ e; exact absurd e (po_m1' hw)
  | succ d ih =>
    intro j hj e
    by_cases c : m j = true
    · rw [po_ff_t c, nI_eq (by omega) hw] at e
      subst e
      rw [po_ff_f (po_wo_w m j), po_ff_c d (j + 1) (fun i hi => po_wo_n m (w := j) (by omega)), show j + (d + 1) - (j + 1) = d from by omega]
    · rw [po_ff_f c] at e
      have hn : ¬ po_wo m w j = true := by
        intro z
        by_cases q : j = w
        · subst q; exact po_wo_w m j z
        · rw [po_wo_n m q] at z; exact c z
      rw [po_ff_f hn, ih (j + 1) (by omega) e, show j + 1 + d - (w + 1) = j + (d + 1) - (w + 1) from by omega]
/-- the action of what the first match gave -/
def po_ac (df : Int32) (ka : Nat → Int32) (r : Int32) : Int32 := if r = -1 then df else nI ((ka r.toNatClampNeg).toNatClampNeg / 16)
theorem po_ac_n (df : Int32) (ka : Nat → Int32) : po_ac df ka (-1) = df := if_pos rfl
theorem po_ac_s (df : Int32) (ka : Nat → Int32) {j k : Nat} (hj : j < 2 ^ 31) (e : ka j = nI k) (hk : k < 2 ^ 31) : po_ac df ka (nI j) = nI (k / 16) := by
  unfold po_ac
  rw [if_neg (po_m1 hj), nI_clamp hj, e, nI_clamp hk]
theorem po_le_lt {x : Int32} {a : Nat} (h : a + 1 < 2 ^ 31) : x ≤ nI a ↔ x < nI (a + 1) := by
  rw [Int32.le_iff_toInt_le, Int32.lt_iff_toInt_lt, nI_toInt (by omega), nI_toInt h]
  omega
theorem po_big {x : Int32} {n : Nat} (h : nI (n + 1) ≤ x) (hn : n + 1 < 2 ^ 31) : ¬ x < 0 ∧ ¬ x < nI (n + 1) ∧ ¬ x ≤ nI n ∧ 0 ≤ x := by
  rw [Int32.le_iff_toInt_le, nI_toInt hn] at h
  have z : (0 : Int32).toInt = 0 := by decide
  refine ⟨?_, ?_, ?_, ?_⟩
  · rw [Int32.lt_iff_toInt_lt, z]; omega
  · rw [Int32.lt_iff_toInt_lt, nI_toInt hn]; omega
  · rw [Int32.le_iff_toInt_le, nI_toInt (by omega)]; omega
  · rw [Int32.le_iff_toInt_le, z]; omega
theorem po_neg {x : Int32} (h : x < 0) : ¬ 0 ≤ x := Int32.not_le.mpr h
theorem po_m_e {sa da ka : Nat → Int32} {j s d k : Nat} (p : Nat) (es : sa j = nI s) (hs : s < 1024) (ed : da j = nI d) (hd : d < 1024) (ek : ka j = nI k) (hk : k < 64) : po_m sa da ka p j = po_mt s d k p := by
  show po_mt (sa j).toNatClampNeg (da j).toNatClampNeg (ka j).toNatClampNeg p = _
  rw [es, ed, ek, nI_clamp (show s < 2 ^ 31 by omega), nI_clamp (show d < 2 ^ 31 by omega), nI_clamp (show k < 2 ^ 31 by omega)]
theorem po_b1 : ¬ po_b true = 0 := by decide
theorem po_10 : ¬ (1 : Int32) = 0 := by decide
theorem po_nt {x : Bool} (h : ¬ x = true) : x = false := by
  cases x
  · rfl
  · exact absurd rfl h
theorem po_mod2 (n : Nat) : n % 2 < 2 ^ 31 := Nat.lt_of_lt_of_le (Nat.mod_lt n (by decide)) (by decide)
theorem po_bit {k t : Nat} (hk : k < 64) (ht : t < 32) : (nI k >>> (nI t &&& 31)) &&& 1 = nI (k / 2 ^ t % 2) := by
  rw [pk_shrN (show k < 2 ^ 31 by omega) _ t (s_l t ht)]
  exact pk_andN (Nat.lt_of_le_of_lt (Nat.div_le_self _ _) (by omega)) 1 (by decide)
theorem po_num (a b t : Nat) : ((128 * nI a) + (4 * nI b)) + nI t = nI (128 * a + 4 * b + t) := by
  rw [show (128 : Int32) * nI a = nI (128 * a) from pk_mul 128 a, show (4 : Int32) * nI b = nI (4 * b) from pk_mul 4 b, nI_add, nI_add]
