/-! bits, popcounts, rows, weights: pure rows -/
def bz_sv (b : Bool) : Int32 := if b = true then 1 else 0
theorem bz_sv1 {b : Bool} : bz_sv b = 1 ↔ b = true := by cases b <;> decide
theorem bz_sv0 {b : Bool} : bz_sv b = 0 ↔ b = false := by cases b <;> decide
theorem bz_svi {a b : Bool} : bz_sv a = bz_sv b ↔ a = b := by cases a <;> cases b <;> decide
theorem bz_svn (b : Bool) : bz_sv b = nI b.toNat := by cases b <;> decide
theorem bz_svlt (b : Bool) : bz_sv b < 2 := by cases b <;> decide
theorem bz_b1 (i : Nat) : bt 1 i = decide (i = 0) := by
  rcases Nat.lt_or_ge i 32 with h | h
  · exact (by decide +kernel : ∀ i, i < 32 → bt 1 i = decide (i = 0)) i h
  · rw [b_big h, decide_eq_false (by omega)]
theorem bz_tst (x : Int32) {v : Nat} (hv : v < 32) : x >>> (nI v &&& 31) &&& 1 = bz_sv (bt x v) := by
  apply b_ext
  intro i hi
  rw [b_and, b_sshr v hv x hi, bz_b1]
  by_cases h : i = 0
  · subst h
    rw [if_pos (by omega), Nat.add_zero]
    generalize bt x v = b
    cases b <;> decide
  · rw [decide_eq_false h, Bool.and_false]
    generalize bt x v = b
    cases b
    · exact (b_0 i).symm
    · show false = bt 1 i
      rw [bz_b1, decide_eq_false h]
theorem bz_one {u i : Nat} (hu : u < 32) (hi : i < 32) : bt ((1 : Int32) <<< (nI u &&& 31)) i = decide (i = u) := by
  rw [b_shl u hu 1 hi, bz_b1]
  by_cases h : i = u
  · subst h; simp
  · rw [decide_eq_false h]
    by_cases h2 : u ≤ i
    · rw [decide_eq_false (by omega : ¬ i - u = 0), Bool.and_false]
    · rw [decide_eq_false h2, Bool.false_and]
theorem bz_one2 {u i : Nat} (hu : u < 32) : bt ((1 : Int32) <<< (nI u &&& 31)) i = decide (i = u) := by
  rcases Nat.lt_or_ge i 32 with h | h
  · exact bz_one hu h
  · rw [b_big h, decide_eq_false (by omega)]
theorem bz_shv (A : Bool) {u i : Nat} (hu : u < 32) (hi : i < 32) : bt (bz_sv A <<< (nI u &&& 31)) i = (decide (i = u) && A) := by
  cases A
  · show bt ((0 : Int32) <<< (nI u &&& 31)) i = _
    rw [b_shl u hu 0 hi, b_0, Bool.and_false, Bool.and_false]
  · show bt ((1 : Int32) <<< (nI u &&& 31)) i = _
    rw [bz_one hu hi, Bool.and_true]
theorem bz_not (x : Int32) {i : Nat} (hi : i < 32) : bt (x ^^^ (-1)) i = !bt x i := by
  rw [b_xor, b_m1 i hi, Bool.xor_true]
theorem bz_bn (k i : Nat) : bt (nI k) i = (decide (i < 32) && k.testBit i) := by
  show (BitVec.ofNat 32 k).getLsbD i = _
  rw [BitVec.getLsbD_ofNat]
theorem bz_lo {x : Int32} {n : Nat} (h : ∀ i, n ≤ i → bt x i = false) : ∃ k, k < 2 ^ n ∧ x = nI k := by
  refine ⟨x.toBitVec.toNat, Nat.lt_pow_two_of_testBit _ (fun i hi => h i hi), ?_⟩
  apply Int32.toBitVec_inj.1
  show x.toBitVec = BitVec.ofNat 32 x.toBitVec.toNat
  simp
theorem bz_hi {k n i : Nat} (h : k < 2 ^ n) (hi : n ≤ i) : bt (nI k) i = false := by
  rw [bz_bn, Nat.testBit_lt_two_pow (Nat.lt_of_lt_of_le h (Nat.pow_le_pow_right (by decide) hi)), Bool.and_false]
theorem bz_p2 : ∀ n, n < 8 → (1 : Int32) <<< (nI n &&& 31) = nI (2 ^ n) := by decide +kernel
theorem bz_ev : ∀ n, n < 8 → ∀ i, i < 32 → bt (nI (2 ^ n) - 1) i = decide (i < n) := by decide +kernel
theorem bz_pow {n : Nat} (h : n ≤ 7) : 2 ^ n ≤ 128 := (Nat.pow_le_pow_right (by decide) h : 2 ^ n ≤ 2 ^ 7)
theorem bz_nt {b : Bool} (h : ¬ b = true) : b = false := by
  cases b
  · rfl
  · exact absurd rfl h
theorem bz_t1 (b : Bool) : b.toNat ≤ 1 := by cases b <;> decide
theorem bz_tn {a b : Bool} (h : a = true → b = true) : a.toNat ≤ b.toNat := by
  cases a
  · exact Nat.zero_le _
  · have hb := h rfl
    subst hb
    exact Nat.le_refl _
def bz_pc (s : Int32) : Nat → Nat
  | 0 => 0
  | m + 1 => bz_pc s m + (bt s m).toNat
theorem bz_pc_s (s : Int32) (m : Nat) : bz_pc s (m + 1) = bz_pc s m + (bt s m).toNat := rfl
theorem bz_pc_le (s : Int32) : ∀ m, bz_pc s m ≤ m := by
  intro m
  induction m with
  | zero => exact Nat.le_refl _
  | succ m ih => rw [bz_pc_s]; have := bz_t1 (bt s m); omega
theorem bz_pc_mono (s : Int32) {a b : Nat} (h : a ≤ b) : bz_pc s a ≤ bz_pc s b := by
  induction b with
  | zero => have : a = 0 := by omega
            subst this; exact Nat.le_refl _
  | succ b ih =>
    by_cases e : a = b + 1
    · subst e; exact Nat.le_refl _
    · have := ih (by omega)
      rw [bz_pc_s]; omega
theorem bz_pc_sub {s t : Int32} (h : ∀ i, bt s i = true → bt t i = true) : ∀ m, bz_pc s m ≤ bz_pc t m := by
  intro m
  induction m with
  | zero => exact Nat.le_refl _
  | succ m ih => rw [bz_pc_s, bz_pc_s]; have := bz_tn (h m); omega
theorem bz_pc_lt {s t : Int32} (h : ∀ i, bt s i = true → bt t i = true) {j : Nat} (h1 : bt s j = false) (h2 : bt t j = true) : ∀ m, j < m → bz_pc s m < bz_pc t m := by
  intro m
  induction m with
  | zero => intro hj; omega
  | succ m ih =>
    intro hj
    rw [bz_pc_s, bz_pc_s]
    by_cases e : j = m
    · subst e
      have := bz_pc_sub h j
      rw [h1, h2]
      show bz_pc s j + 0 < bz_pc t j + 1
      omega
    · have := ih (by omega)
      have := bz_tn (h m)
      omega
theorem bz_pc_all {s : Int32} : ∀ m, m ≤ bz_pc s m → ∀ i, i < m → bt s i = true := by
  intro m
  induction m with
  | zero => intro _ i hi; omega
  | succ m ih =>
    intro h i hi
    rw [bz_pc_s] at h
    have h1 := bz_t1 (bt s m)
    have h2 := bz_pc_le s m
    by_cases e : i = m
    · subst e
      cases eb : bt s i
      · rw [eb] at h
        have : false.toNat = 0 := rfl
        omega
      · rfl
    · exact ih (by omega) i (by omega)
def bz_row (s x : Int32) : Nat → Nat
  | 0 => 0
  | p + 1 => if bt s p = true then bz_row s x p + (bt x p).toNat * 2 ^ bz_pc s p else bz_row s x p
theorem bz_row_s (s x : Int32) (p : Nat) : bz_row s x (p + 1) = if bt s p = true then bz_row s x p + (bt x p).toNat * 2 ^ bz_pc s p else bz_row s x p := rfl
theorem bz_row_lt (s x : Int32) : ∀ p, bz_row s x p < 2 ^ bz_pc s p := by
  intro p
  induction p with
  | zero =>
    show 0 < 2 ^ 0
    decide
  | succ p ih =>
    rw [bz_row_s, bz_pc_s]
    by_cases h : bt s p = true
    · rw [if_pos h, h]
      show _ < 2 ^ (bz_pc s p + 1)
      have h2 : (bt x p).toNat * 2 ^ bz_pc s p ≤ 2 ^ bz_pc s p := by
        have := Nat.mul_le_mul_right (2 ^ bz_pc s p) (bz_t1 (bt x p))
        omega
      rw [Nat.pow_succ]
      omega
    · rw [if_neg h, bz_nt h]
      show bz_row s x p < 2 ^ (bz_pc s p + 0)
      exact ih
theorem bz_orT : ∀ k, k < 3 → ∀ r, r < 8 → r < 2 ^ k → ∀ b : Bool, nI r ||| (bz_sv b <<< (nI k &&& 31)) = nI (r + b.toNat * 2 ^ k) := by decide +kernel
def bz_ix (ps : Nat → Int32) (x : Int32) (v : Nat) : Nat := 16 * v + 2 * bz_row (ps v) x v + (bt x v).toNat
def bz_wt (ps en : Nat → Int32) (x : Int32) : Nat → Int32
  | 0 => 1
  | v + 1 => bz_wt ps en x v * en (bz_ix ps x v)
theorem bz_wt_s (ps en : Nat → Int32) (x : Int32) (v : Nat) : bz_wt ps en x (v + 1) = bz_wt ps en x v * en (bz_ix ps x v) := rfl
/-- parents: lesser numbers alone, at most three, none at or beyond n -/
def bz_P (n : Nat) (ps : Nat → Int32) : Prop := ∀ v, v < 7 → (∀ i, v ≤ i → bt (ps v) i = false) ∧ bz_pc (ps v) 7 ≤ 3 ∧ (n ≤ v → ps v = 0)
/-- entries: 0 to 9 -/
def bz_N (en : Nat → Int32) : Prop := ∀ j, j < 112 → ∃ e, e ≤ 9 ∧ en j = nI e
/-- observations: two sets against an array of values -/
def bz_O (n : Nat) (os oo : Int32) (se : Nat → Int32) : Prop := (∀ i, n ≤ i → bt os i = false) ∧ (∀ i, bt oo i = true → bt os i = true) ∧ (∀ v, v < 7 → se v = if bt os v = true then bz_sv (bt oo v) else 2)
theorem bz_row8 {n : Nat} {ps : Nat → Int32} (hP : bz_P n ps) {v : Nat} (hv : v < 7) (x : Int32) : bz_row (ps v) x v < 8 := by
  have h1 := bz_row_lt (ps v) x v
  have h2 : bz_pc (ps v) v ≤ 3 := Nat.le_trans (bz_pc_mono _ (by omega)) (hP v hv).2.1
  have h3 : 2 ^ bz_pc (ps v) v ≤ 2 ^ 3 := Nat.pow_le_pow_right (by decide) h2
  omega
theorem bz_ix_lt {n : Nat} {ps : Nat → Int32} (hP : bz_P n ps) {v : Nat} (hv : v < 7) (x : Int32) : bz_ix ps x v < 112 := by
  have h1 := bz_row8 hP hv x
  have h2 := bz_t1 (bt x v)
  unfold bz_ix
  omega
theorem bz_wt_n {n : Nat} {ps en : Nat → Int32} (hP : bz_P n ps) (hN : bz_N en) (x : Int32) : ∀ m, m ≤ 7 → ∃ q, q ≤ 9 ^ m ∧ bz_wt ps en x m = nI q := by
  intro m
  induction m with
  | zero => exact fun _ => ⟨1, Nat.le_refl _, rfl⟩
  | succ m ih =>
    intro hm
    obtain ⟨q, hq, e⟩ := ih (by omega)
    obtain ⟨z, hz, ez⟩ := hN _ (bz_ix_lt hP (by omega : m < 7) x)
    refine ⟨q * z, ?_, ?_⟩
    · rw [Nat.pow_succ]; exact Nat.mul_le_mul hq hz
    · rw [bz_wt_s, e, ez, pk_mul]
theorem bz_wt_0 {n : Nat} {ps en : Nat → Int32} (hP : bz_P n ps) (hN : bz_N en) (x : Int32) {m : Nat} (hm : m ≤ 7) : ¬ bz_wt ps en x m < 0 := by
  obtain ⟨q, hq, e⟩ := bz_wt_n hP hN x m hm
  have : 9 ^ m ≤ 9 ^ 7 := Nat.pow_le_pow_right (by decide) hm
  rw [e]
  exact nI_pos (by omega)
theorem bz_ag_t {n : Nat} {os oo x : Int32} {se : Nat → Int32} (hO : bz_O n os oo se) (h : ∀ v, v < n → bt os v = true → bt x v = bt oo v) : x &&& os = oo := by
  apply b_ext
  intro i _
  rw [b_and]
  cases e : bt os i
  · rw [Bool.and_false]
    cases e2 : bt oo i
    · rfl
    · have := hO.2.1 i e2
      rw [e] at this
      cases this
  · rw [Bool.and_true]
    rcases Nat.lt_or_ge i n with hi | hi
    · exact h i hi e
    · rw [hO.1 i hi] at e
      cases e
theorem bz_ag_f {os oo x : Int32} {v : Nat} (h : bt os v = true) (hne : ¬ bt x v = bt oo v) : ¬ x &&& os = oo := by
  intro e
  apply hne
  rw [← e, b_and, h, Bool.and_true]
