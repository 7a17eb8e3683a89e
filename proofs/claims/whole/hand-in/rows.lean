section
/-! rows pasted from kit/rows -/
theorem pk_us {f : Nat → Int32} {k : Nat} {x : Int32} : upd f k x k = x := if_pos rfl
theorem pk_un {f : Nat → Int32} {k j : Nat} {x : Int32} (h : j ≠ k) : upd f k x j = f j := if_neg h
theorem pk_sub {a b : Nat} (h : b ≤ a) : nI a - nI b = nI (a - b) := by
  obtain ⟨c, rfl⟩ : ∃ c, a = c + b := ⟨a - b, by omega⟩
  rw [← nI_add, Int32.add_sub_cancel, Nat.add_sub_cancel]
theorem pk_m1 (n : Nat) : nI (n + 1) + (-1) = nI n := by
  rw [← nI_1, Int32.add_assoc, show (1 : Int32) + (-1) = 0 from rfl, Int32.add_zero]
theorem pk_mul (a b : Nat) : nI a * nI b = nI (a * b) := (Int32.ofNat_mul a b).symm
theorem pk_div {a d : Nat} (ha : a < 2 ^ 31) (h0 : 0 < d) (hd : d < 2 ^ 31) : nI a / nI d = nI (a / d) := by
  apply Int32.toInt_inj.mp
  rw [lg_idiv_nonneg (by rw [nI_toInt ha]; omega) (by rw [nI_toInt hd]; omega), nI_toInt ha, nI_toInt hd, nI_toInt (Nat.lt_of_le_of_lt (Nat.div_le_self a d) ha)]
  first | rfl | exact (Int.natCast_ediv _ _).symm
theorem pk_rem {a d : Nat} (ha : a < 2 ^ 31) (h0 : 0 < d) (hd : d < 2 ^ 31) : nI a - nI a / nI d * nI d = nI (a % d) := by
  rw [pk_div ha h0 hd, pk_mul, pk_sub (Nat.div_mul_le_self a d)]
  exact congrArg nI (by have := Nat.div_add_mod' a d; omega)
theorem pk_ix (x : Int32) {n : Nat} (hn : n < 2 ^ 31) : x < 0 ∨ nI n ≤ x ∨ ∃ j : Nat, j < n ∧ x = nI j := by
  by_cases h : x < 0
  · exact Or.inl h
  · obtain ⟨j, hj, rfl⟩ := nI_of h
    by_cases h2 : j < n
    · exact Or.inr (Or.inr ⟨j, h2, rfl⟩)
    · exact Or.inr (Or.inl (nI_le (by omega) hj))
theorem pk_le {x y : Int32} {A B : Prop} (a b : Nat) (f : a ≤ b → A) (g : b < a → B) (hx : x = nI a := by rfl) (hy : y = nI b := by rfl) (ha : a < 2 ^ 31 := by omega) (hb : b < 2 ^ 31 := by omega) : (x ≤ y → A) ∧ (¬ x ≤ y → B) := by
  subst hx hy
  rw [nI_leI ha hb]
  exact ⟨f, fun z => g (by omega)⟩
theorem pk_lt {x y : Int32} {A B : Prop} (a b : Nat) (f : a < b → A) (g : b ≤ a → B) (hx : x = nI a := by rfl) (hy : y = nI b := by rfl) (ha : a < 2 ^ 31 := by omega) (hb : b < 2 ^ 31 := by omega) : (x < y → A) ∧ (¬ x < y → B) := by
  subst hx hy
  rw [nI_ltI ha hb]
  exact ⟨f, fun z => g (by omega)⟩
theorem pk_eq {x y : Int32} {A B : Prop} (a b : Nat) (f : a = b → A) (g : a ≠ b → B) (hx : x = nI a := by rfl) (hy : y = nI b := by rfl) (ha : a < 2 ^ 31 := by omega) (hb : b < 2 ^ 31 := by omega) : (x = y → A) ∧ (¬ x = y → B) := by
  subst hx hy
  rw [nI_eq ha hb]
  exact ⟨f, g⟩
theorem pk_in {x : Int32} (n N : Nat) (h : n < N) (hx : x = nI n := by rfl) (hN : N < 2 ^ 31 := by omega) : vp_in x N := by
  subst hx
  exact vp_in_nI h hN
theorem pk_cl {x : Int32} (n : Nat) (hx : x = nI n := by rfl) (h : n < 2 ^ 31 := by omega) : x.toNatClampNeg = n := by
  subst hx
  exact nI_clamp h
theorem pk_tn {n : Nat} (h : n < 2 ^ 32) : (nI n).toBitVec.toNat = n := Nat.mod_eq_of_lt h
theorem pk_shl (a s : Int32) (k : Nat) (hs : (s.toBitVec.smod 32).toNat = k) : (a <<< s).toBitVec.toNat = a.toBitVec.toNat * 2 ^ k % 2 ^ 32 := by
  show (a.toBitVec <<< (s.toBitVec.smod 32).toNat).toNat = _
  rw [hs, BitVec.toNat_shiftLeft, Nat.shiftLeft_eq]
theorem pk_shlN {n : Nat} (s : Int32) (k : Nat) (hs : (s.toBitVec.smod 32).toNat = k) (h : n * 2 ^ k < 2 ^ 32) : nI n <<< s = nI (n * 2 ^ k) := by
  apply Int32.toBitVec_inj.mp
  apply BitVec.eq_of_toNat_eq
  have hn : n < 2 ^ 32 := Nat.lt_of_le_of_lt (Nat.le_mul_of_pos_right n (Nat.two_pow_pos k)) h
  rw [pk_shl _ _ k hs, pk_tn hn, pk_tn h, Nat.mod_eq_of_lt h]
theorem pk_loop {σ : Type} (W : Nat → Nat → σ → Prop) (I : Nat → σ → Prop) (e i0 : Nat) (s : σ) (hi : i0 ≤ e) (h0 : I i0 s) (hx : ∀ n s, I e s → W (n + 1) e s)
    (hs : ∀ n i s, i < e → I i s → (∀ s', I (i + 1) s' → W n (i + 1) s') → W (n + 1) i s) : ∃ n, W n i0 s :=
  ⟨e + 1, loop_i W I e hx hs (e + 1) i0 s hi (by omega) h0⟩
theorem pk_loopD {σ : Type} (W : Nat → Nat → σ → Prop) (I : Nat → σ → Prop) (hx : ∀ n s, I 0 s → W (n + 1) 0 s)
    (hs : ∀ n i s, I (i + 1) s → (∀ s', I i s' → W n i s') → W (n + 1) (i + 1) s) : ∀ (e : Nat) (s : σ), I e s → W (e + 1) e s := by
  intro e
  induction e with
  | zero => exact fun s h => hx 0 s h
  | succ e ih => exact fun s h => hs (e + 1) e s h (fun s' h' => ih s' h')
def bt (x : Int32) (i : Nat) : Bool := x.toBitVec.getLsbD i
theorem b_ext {x y : Int32} (h : ∀ i, i < 32 → bt x i = bt y i) : x = y := Int32.toBitVec_inj.mp (BitVec.eq_of_getLsbD_eq (fun i hi => h i hi))
theorem b_or (x y : Int32) (i : Nat) : bt (x ||| y) i = (bt x i || bt y i) := by unfold bt; rw [Int32.toBitVec_or, BitVec.getLsbD_or]
theorem b_and (x y : Int32) (i : Nat) : bt (x &&& y) i = (bt x i && bt y i) := by unfold bt; rw [Int32.toBitVec_and, BitVec.getLsbD_and]
theorem b_xor (x y : Int32) (i : Nat) : bt (x ^^^ y) i = (bt x i ^^ bt y i) := by unfold bt; rw [Int32.toBitVec_xor, BitVec.getLsbD_xor]
theorem b_big {x : Int32} {i : Nat} (h : 32 ≤ i) : bt x i = false := BitVec.getLsbD_of_ge _ _ h
theorem b_m1 : ∀ i, i < 32 → bt (-1) i = true := by decide +kernel
theorem b_0 (i : Nat) : bt 0 i = false := BitVec.getLsbD_zero
theorem s_l : ∀ n, n < 32 → ((nI n &&& 31).toBitVec.smod 32).toNat = n := by decide +kernel
theorem b_shl (n : Nat) (hn : n < 32) (x : Int32) {i : Nat} (hi : i < 32) : bt (x <<< (nI n &&& 31)) i = (decide (n ≤ i) && bt x (i - n)) := by
  unfold bt
  rw [Int32.toBitVec_shiftLeft]
  show (x.toBitVec <<< ((nI n &&& 31).toBitVec.smod 32).toNat).getLsbD i = _
  rw [s_l n hn, BitVec.getLsbD_shiftLeft]
  rcases Nat.lt_or_ge i n with h | h
  · simp [h, Nat.not_le.mpr h]
  · simp [hi, h, Nat.not_lt.mpr h]
theorem b_sshr (n : Nat) (hn : n < 32) (x : Int32) {i : Nat} (hi : i < 32) : bt (x >>> (nI n &&& 31)) i = if n + i < 32 then bt x (n + i) else bt x 31 := by
  unfold bt
  rw [Int32.toBitVec_shiftRight]
  show (x.toBitVec.sshiftRight ((nI n &&& 31).toBitVec.smod 32).toNat).getLsbD i = _
  rw [s_l n hn, BitVec.getLsbD_sshiftRight, BitVec.msb_eq_getLsbD_last]
  simp [hi]
end
section
/-! bits, popcounts, rows, weights: pure rows -/
def bz_sv (b : Bool) : Int32 := if b = true then 1 else 0
theorem bz_sv1 {b : Bool} : bz_sv b = 1 ↔ b = true := by cases b <;> decide
theorem bz_sv0 {b : Bool} : bz_sv b = 0 ↔ b = false := by cases b <;> decide
theorem bz_svi {a b : Bool} : bz_sv a = bz_sv b ↔ a = b := by cases a <;> cases b <;> decide
theorem bz_svn (b : Bool) : bz_sv b = nI b.toNat := by cases b <;> decide
theorem bz_svlt (b : Bool) : bz_sv b < 2 := by cases b <;> decide
theorem bz_b1 (i : Nat) : bt 1 i = decide (i = 0) := by
  rcases Nat.lt_or_ge i 32 with h | h
  · exact (by decide +kernel : ∀ i, i < 32 → bt 1 i = decide (i = 0)) i h
  · rw [b_big h, decide_eq_false (by omega)]
theorem bz_tst (x : Int32) {v : Nat} (hv : v < 32) : x >>> (nI v &&& 31) &&& 1 = bz_sv (bt x v) := by
  apply b_ext
  intro i hi
  rw [b_and, b_sshr v hv x hi, bz_b1]
  by_cases h : i = 0
  · subst h
    rw [if_pos (by omega), Nat.add_zero]
    generalize bt x v = b
    cases b <;> decide
  · rw [decide_eq_false h, Bool.and_false]
    generalize bt x v = b
    cases b
    · exact (b_0 i).symm
    · show false = bt 1 i
      rw [bz_b1, decide_eq_false h]
theorem bz_one {u i : Nat} (hu : u < 32) (hi : i < 32) : bt ((1 : Int32) <<< (nI u &&& 31)) i = decide (i = u) := by
  rw [b_shl u hu 1 hi, bz_b1]
  by_cases h : i = u
  · subst h; simp
  · rw [decide_eq_false h]
    by_cases h2 : u ≤ i
    · rw [decide_eq_false (by omega : ¬ i - u = 0), Bool.and_false]
    · rw [decide_eq_false h2, Bool.false_and]
theorem bz_one2 {u i : Nat} (hu : u < 32) : bt ((1 : Int32) <<< (nI u &&& 31)) i = decide (i = u) := by
  rcases Nat.lt_or_ge i 32 with h | h
  · exact bz_one hu h
  · rw [b_big h, decide_eq_false (by omega)]
theorem bz_shv (A : Bool) {u i : Nat} (hu : u < 32) (hi : i < 32) : bt (bz_sv A <<< (nI u &&& 31)) i = (decide (i = u) && A) := by
  cases A
  · show bt ((0 : Int32) <<< (nI u &&& 31)) i = _
    rw [b_shl u hu 0 hi, b_0, Bool.and_false, Bool.and_false]
  · show bt ((1 : Int32) <<< (nI u &&& 31)) i = _
    rw [bz_one hu hi, Bool.and_true]
theorem bz_not (x : Int32) {i : Nat} (hi : i < 32) : bt (x ^^^ (-1)) i = !bt x i := by
  rw [b_xor, b_m1 i hi, Bool.xor_true]
theorem bz_bn (k i : Nat) : bt (nI k) i = (decide (i < 32) && k.testBit i) := by
  show (BitVec.ofNat 32 k).getLsbD i = _
  rw [BitVec.getLsbD_ofNat]
theorem bz_lo {x : Int32} {n : Nat} (h : ∀ i, n ≤ i → bt x i = false) : ∃ k, k < 2 ^ n ∧ x = nI k := by
  refine ⟨x.toBitVec.toNat, Nat.lt_pow_two_of_testBit _ (fun i hi => h i hi), ?_⟩
  apply Int32.toBitVec_inj.1
  show x.toBitVec = BitVec.ofNat 32 x.toBitVec.toNat
  simp
theorem bz_hi {k n i : Nat} (h : k < 2 ^ n) (hi : n ≤ i) : bt (nI k) i = false := by
  rw [bz_bn, Nat.testBit_lt_two_pow (Nat.lt_of_lt_of_le h (Nat.pow_le_pow_right (by decide) hi)), Bool.and_false]
theorem bz_p2 : ∀ n, n < 8 → (1 : Int32) <<< (nI n &&& 31) = nI (2 ^ n) := by decide +kernel
theorem bz_ev : ∀ n, n < 8 → ∀ i, i < 32 → bt (nI (2 ^ n) - 1) i = decide (i < n) := by decide +kernel
theorem bz_pow {n : Nat} (h : n ≤ 7) : 2 ^ n ≤ 128 := (Nat.pow_le_pow_right (by decide) h : 2 ^ n ≤ 2 ^ 7)
theorem bz_nt {b : Bool} (h : ¬ b = true) : b = false := by
  cases b
  · rfl
  · exact absurd rfl h
theorem bz_t1 (b : Bool) : b.toNat ≤ 1 := by cases b <;> decide
theorem bz_tn {a b : Bool} (h : a = true → b = true) : a.toNat ≤ b.toNat := by
  cases a
  · exact Nat.zero_le _
  · have hb := h rfl
    subst hb
    exact Nat.le_refl _
def bz_pc (s : Int32) : Nat → Nat
  | 0 => 0
  | m + 1 => bz_pc s m + (bt s m).toNat
theorem bz_pc_s (s : Int32) (m : Nat) : bz_pc s (m + 1) = bz_pc s m + (bt s m).toNat := rfl
theorem bz_pc_le (s : Int32) : ∀ m, bz_pc s m ≤ m := by
  intro m
  induction m with
  | zero => exact Nat.le_refl _
  | succ m ih => rw [bz_pc_s]; have := bz_t1 (bt s m); omega
theorem bz_pc_mono (s : Int32) {a b : Nat} (h : a ≤ b) : bz_pc s a ≤ bz_pc s b := by
  induction b with
  | zero => have : a = 0 := by omega
            subst this; exact Nat.le_refl _
  | succ b ih =>
    by_cases e : a = b + 1
    · subst e; exact Nat.le_refl _
    · have := ih (by omega)
      rw [bz_pc_s]; omega
theorem bz_pc_sub {s t : Int32} (h : ∀ i, bt s i = true → bt t i = true) : ∀ m, bz_pc s m ≤ bz_pc t m := by
  intro m
  induction m with
  | zero => exact Nat.le_refl _
  | succ m ih => rw [bz_pc_s, bz_pc_s]; have := bz_tn (h m); omega
theorem bz_pc_lt {s t : Int32} (h : ∀ i, bt s i = true → bt t i = true) {j : Nat} (h1 : bt s j = false) (h2 : bt t j = true) : ∀ m, j < m → bz_pc s m < bz_pc t m := by
  intro m
  induction m with
  | zero => intro hj; omega
  | succ m ih =>
    intro hj
    rw [bz_pc_s, bz_pc_s]
    by_cases e : j = m
    · subst e
      have := bz_pc_sub h j
      rw [h1, h2]
      show bz_pc s j + 0 < bz_pc t j + 1
      omega
    · have := ih (by omega)
      have := bz_tn (h m)
      omega
theorem bz_pc_all {s : Int32} : ∀ m, m ≤ bz_pc s m → ∀ i, i < m → bt s i = true := by
  intro m
  induction m with
  | zero => intro _ i hi; omega
  | succ m ih =>
    intro h i hi
    rw [bz_pc_s] at h
    have h1 := bz_t1 (bt s m)
    have h2 := bz_pc_le s m
    by_cases e : i = m
    · subst e
      cases eb : bt s i
      · rw [eb] at h
        have : false.toNat = 0 := rfl
        omega
      · rfl
    · exact ih (by omega) i (by omega)
def bz_row (s x : Int32) : Nat → Nat
  | 0 => 0
  | p + 1 => if bt s p = true then bz_row s x p + (bt x p).toNat * 2 ^ bz_pc s p else bz_row s x p
theorem bz_row_s (s x : Int32) (p : Nat) : bz_row s x (p + 1) = if bt s p = true then bz_row s x p + (bt x p).toNat * 2 ^ bz_pc s p else bz_row s x p := rfl
theorem bz_row_lt (s x : Int32) : ∀ p, bz_row s x p < 2 ^ bz_pc s p := by
  intro p
  induction p with
  | zero =>
    show 0 < 2 ^ 0
    decide
  | succ p ih =>
    rw [bz_row_s, bz_pc_s]
    by_cases h : bt s p = true
    · rw [if_pos h, h]
      show _ < 2 ^ (bz_pc s p + 1)
      have h2 : (bt x p).toNat * 2 ^ bz_pc s p ≤ 2 ^ bz_pc s p := by
        have := Nat.mul_le_mul_right (2 ^ bz_pc s p) (bz_t1 (bt x p))
        omega
      rw [Nat.pow_succ]
      omega
    · rw [if_neg h, bz_nt h]
      show bz_row s x p < 2 ^ (bz_pc s p + 0)
      exact ih
theorem bz_orT : ∀ k, k < 3 → ∀ r, r < 8 → r < 2 ^ k → ∀ b : Bool, nI r ||| (bz_sv b <<< (nI k &&& 31)) = nI (r + b.toNat * 2 ^ k) := by decide +kernel
def bz_ix (ps : Nat → Int32) (x : Int32) (v : Nat) : Nat := 16 * v + 2 * bz_row (ps v) x v + (bt x v).toNat
def bz_wt (ps en : Nat → Int32) (x : Int32) : Nat → Int32
  | 0 => 1
  | v + 1 => bz_wt ps en x v * en (bz_ix ps x v)
theorem bz_wt_s (ps en : Nat → Int32) (x : Int32) (v : Nat) : bz_wt ps en x (v + 1) = bz_wt ps en x v * en (bz_ix ps x v) := rfl
/-- parents: lesser numbers alone, at most three, none at or beyond n -/
def bz_P (n : Nat) (ps : Nat → Int32) : Prop := ∀ v, v < 7 → (∀ i, v ≤ i → bt (ps v) i = false) ∧ bz_pc (ps v) 7 ≤ 3 ∧ (n ≤ v → ps v = 0)
/-- entries: 0 to 9 -/
def bz_N (en : Nat → Int32) : Prop := ∀ j, j < 112 → ∃ e, e ≤ 9 ∧ en j = nI e
/-- observations: two sets against an array of values -/
def bz_O (n : Nat) (os oo : Int32) (se : Nat → Int32) : Prop := (∀ i, n ≤ i → bt os i = false) ∧ (∀ i, bt oo i = true → bt os i = true) ∧ (∀ v, v < 7 → se v = if bt os v = true then bz_sv (bt oo v) else 2)
theorem bz_row8 {n : Nat} {ps : Nat → Int32} (hP : bz_P n ps) {v : Nat} (hv : v < 7) (x : Int32) : bz_row (ps v) x v < 8 := by
  have h1 := bz_row_lt (ps v) x v
  have h2 : bz_pc (ps v) v ≤ 3 := Nat.le_trans (bz_pc_mono _ (by omega)) (hP v hv).2.1
  have h3 : 2 ^ bz_pc (ps v) v ≤ 2 ^ 3 := Nat.pow_le_pow_right (by decide) h2
  omega
theorem bz_ix_lt {n : Nat} {ps : Nat → Int32} (hP : bz_P n ps) {v : Nat} (hv : v < 7) (x : Int32) : bz_ix ps x v < 112 := by
  have h1 := bz_row8 hP hv x
  have h2 := bz_t1 (bt x v)
  unfold bz_ix
  omega
theorem bz_wt_n {n : Nat} {ps en : Nat → Int32} (hP : bz_P n ps) (hN : bz_N en) (x : Int32) : ∀ m, m ≤ 7 → ∃ q, q ≤ 9 ^ m ∧ bz_wt ps en x m = nI q := by
  intro m
  induction m with
  | zero => exact fun _ => ⟨1, Nat.le_refl _, rfl⟩
  | succ m ih =>
    intro hm
    obtain ⟨q, hq, e⟩ := ih (by omega)
    obtain ⟨z, hz, ez⟩ := hN _ (bz_ix_lt hP (by omega : m < 7) x)
    refine ⟨q * z, ?_, ?_⟩
    · rw [Nat.pow_succ]; exact Nat.mul_le_mul hq hz
    · rw [bz_wt_s, e, ez, pk_mul]
theorem bz_wt_0 {n : Nat} {ps en : Nat → Int32} (hP : bz_P n ps) (hN : bz_N en) (x : Int32) {m : Nat} (hm : m ≤ 7) : ¬ bz_wt ps en x m < 0 := by
  obtain ⟨q, hq, e⟩ := bz_wt_n hP hN x m hm
  have : 9 ^ m ≤ 9 ^ 7 := Nat.pow_le_pow_right (by decide) hm
  rw [e]
  exact nI_pos (by omega)
theorem bz_ag_t {n : Nat} {os oo x : Int32} {se : Nat → Int32} (hO : bz_O n os oo se) (h : ∀ v, v < n → bt os v = true → bt x v = bt oo v) : x &&& os = oo := by
  apply b_ext
  intro i _
  rw [b_and]
  cases e : bt os i
  · rw [Bool.and_false]
    cases e2 : bt oo i
    · rfl
    · have := hO.2.1 i e2
      rw [e] at this
      cases this
  · rw [Bool.and_true]
    rcases Nat.lt_or_ge i n with hi | hi
    · exact h i hi e
    · rw [hO.1 i hi] at e
      cases e
theorem bz_ag_f {os oo x : Int32} {v : Nat} (h : bt os v = true) (hne : ¬ bt x v = bt oo v) : ¬ x &&& os = oo := by
  intro e
  apply hne
  rw [← e, b_and, h, Bool.and_true]
end
section
/-! sums, greatest weights, first places: pure rows -/
def bz_sum (c : Nat → Bool) (w : Nat → Int32) : Nat → Int64
  | 0 => 0
  | m + 1 => if c m = true then bz_sum c w m + (w m).toInt64 else bz_sum c w m
theorem bz_sum_s (c : Nat → Bool) (w : Nat → Int32) (m : Nat) : bz_sum c w (m + 1) = if c m = true then bz_sum c w m + (w m).toInt64 else bz_sum c w m := rfl
theorem bz_sum_c {c d : Nat → Bool} {w : Nat → Int32} (h : ∀ k, c k = d k) (m : Nat) : bz_sum c w m = bz_sum d w m := by rw [show c = d from funext h]
theorem bz_sum_2 {c d e : Nat → Bool} {w : Nat → Int32} (h : ∀ k, e k = (c k || d k)) (hx : ∀ k, (c k && d k) = false) : ∀ m, bz_sum c w m + bz_sum d w m = bz_sum e w m := by
  intro m
  induction m with
  | zero => exact Int64.add_zero 0
  | succ m ih =>
    have h2 := hx m
    rw [bz_sum_s c w m, bz_sum_s d w m, bz_sum_s e w m, h m, ← ih]
    cases ec : c m <;> cases ed : d m
    · simp only [Bool.false_eq_true, Bool.or_false, ↓reduceIte]
    · simp only [Bool.false_eq_true, Bool.false_or, ↓reduceIte]
      exact (Int64.add_assoc _ _ _).symm
    · simp only [Bool.false_eq_true, Bool.or_false, ↓reduceIte]
      rw [Int64.add_assoc, Int64.add_comm (w m).toInt64, Int64.add_assoc]
    · rw [ec, ed] at h2
      cases h2
theorem bz_sum_z {c : Nat → Bool} {w : Nat → Int32} (h : ∀ k, c k = false) : ∀ m, bz_sum c w m = 0 := by
  intro m
  induction m with
  | zero => rfl
  | succ m ih => rw [bz_sum_s, h m, if_neg Bool.false_ne_true, ih]
def bz_max (c : Nat → Bool) (w : Nat → Int32) : Nat → Int32
  | 0 => 0
  | m + 1 => if c m = true then (if bz_max c w m < w m then w m else bz_max c w m) else bz_max c w m
theorem bz_max_s (c : Nat → Bool) (w : Nat → Int32) (m : Nat) : bz_max c w (m + 1) = if c m = true then (if bz_max c w m < w m then w m else bz_max c w m) else bz_max c w m := rfl
theorem bz_max_c {c d : Nat → Bool} {w : Nat → Int32} (h : ∀ k, c k = d k) (m : Nat) : bz_max c w m = bz_max d w m := by rw [show c = d from funext h]
theorem bz_mxc (C D w : Int32) : (if D < (if C < w then w else C) then (if C < w then w else C) else D) = (if (if D < C then C else D) < w then w else (if D < C then C else D)) := by
  by_cases h1 : C < w <;> by_cases h2 : D < C <;> by_cases h3 : D < w <;> simp only [h1, h2, h3, ↓reduceIte] <;>
    (apply Int32.toInt_inj.mp; rw [Int32.lt_iff_toInt_lt] at h1 h2 h3; omega)
theorem bz_mxd (C D w : Int32) : (if (if D < w then w else D) < C then C else (if D < w then w else D)) = (if (if D < C then C else D) < w then w else (if D < C then C else D)) := by
  by_cases h1 : C < w <;> by_cases h2 : D < C <;> by_cases h3 : D < w <;> by_cases h4 : w < C <;> simp only [h1, h2, h3, h4, ↓reduceIte] <;>
    (apply Int32.toInt_inj.mp; rw [Int32.lt_iff_toInt_lt] at h1 h2 h3 h4; omega)
theorem bz_max_2 {c d e : Nat → Bool} {w : Nat → Int32} (h : ∀ k, e k = (c k || d k)) (hx : ∀ k, (c k && d k) = false) : ∀ m, (if bz_max d w m < bz_max c w m then bz_max c w m else bz_max d w m) = bz_max e w m := by
  intro m
  induction m with
  | zero => simp [bz_max]
  | succ m ih =>
    have h2 := hx m
    rw [bz_max_s c w m, bz_max_s d w m, bz_max_s e w m, h m, ← ih]
    cases ec : c m <;> cases ed : d m
    · simp only [Bool.false_eq_true, Bool.or_false, ↓reduceIte]
    · simp only [Bool.false_eq_true, Bool.false_or, ↓reduceIte]
      exact bz_mxd _ _ _
    · simp only [Bool.false_eq_true, Bool.or_false, ↓reduceIte]
      exact bz_mxc _ _ _
    · rw [ec, ed] at h2
      cases h2
theorem bz_max_at {c : Nat → Bool} {w : Nat → Int32} (hw : ∀ k, ¬ w k < 0) : ∀ m, (∃ k, k < m ∧ c k = true ∧ w k = bz_max c w m) ∨ ((∀ k, k < m → c k = false) ∧ bz_max c w m = 0) := by
  intro m
  induction m with
  | zero => exact Or.inr ⟨fun k hk => by omega, rfl⟩
  | succ m ih =>
    rw [bz_max_s]
    cases ec : c m
    · rw [if_neg Bool.false_ne_true]
      rcases ih with ⟨k, hk, h1, h2⟩ | ⟨h1, h2⟩
      · exact Or.inl ⟨k, by omega, h1, h2⟩
      · refine Or.inr ⟨fun k hk => ?_, h2⟩
        by_cases e : k = m
        · rw [e]; exact ec
        · exact h1 k (by omega)
    · rw [if_pos rfl]
      by_cases hl : bz_max c w m < w m
      · rw [if_pos hl]; exact Or.inl ⟨m, by omega, ec, rfl⟩
      · rw [if_neg hl]
        rcases ih with ⟨k, hk, h1, h2⟩ | ⟨h1, h2⟩
        · exact Or.inl ⟨k, by omega, h1, h2⟩
        · refine Or.inl ⟨m, by omega, ec, ?_⟩
          rw [h2] at hl ⊢
          have hm := hw m
          rw [Int32.lt_iff_toInt_lt] at hl hm
          apply Int32.toInt_inj.mp
          omega
theorem pk_least (P : Nat → Prop) (h : ∃ k, P k) : ∃ k, P k ∧ ∀ j, j < k → ¬ P j := by
  obtain ⟨k, hk⟩ := h
  induction k using Nat.strongRecOn with
  | ind k ih =>
    by_cases e : ∃ j, j < k ∧ P j
    · obtain ⟨j, hj, pj⟩ := e
      exact ih j hj pj
    · exact ⟨k, hk, fun j hj pj => e ⟨j, hj, pj⟩⟩
theorem bz_first {p : Nat → Prop} {m : Nat} (h : ∃ k, k < m ∧ p k) : ∃ k, k < m ∧ p k ∧ ∀ j, j < k → ¬ p j := by
  obtain ⟨k, hk, hp⟩ := h
  obtain ⟨q, hq, hl⟩ := pk_least p ⟨k, hp⟩
  refine ⟨q, ?_, hq, hl⟩
  rcases Nat.lt_or_ge k q with z | z
  · exact absurd hp (hl k z)
  · omega
theorem bz_c1 (x : Int32) {v : Nat} (hv : v < 32) (B : Bool) : (x &&& ((1 : Int32) <<< (nI v &&& 31)) = bz_sv B <<< (nI v &&& 31)) ↔ bt x v = B := by
  constructor
  · intro e
    have h := congrArg (fun z => bt z v) e
    simp only [b_and, bz_one hv hv, bz_shv B hv hv] at h
    simpa using h
  · intro e
    apply b_ext
    intro i hi
    rw [b_and, bz_one hv hi, bz_shv B hv hi]
    by_cases h : i = v
    · subst h
      rw [e, Bool.and_comm]
    · rw [decide_eq_false h, Bool.and_false, Bool.false_and]
theorem bz_c2 (x : Int32) {u v : Nat} (hu : u < 32) (hv : v < 32) (A B : Bool) (h : u = v → A = B) : (x &&& (((1 : Int32) <<< (nI u &&& 31)) ||| ((1 : Int32) <<< (nI v &&& 31))) = (bz_sv A <<< (nI u &&& 31)) ||| (bz_sv B <<< (nI v &&& 31))) ↔ (bt x u = A ∧ bt x v = B) := by
  constructor
  · intro e
    have hh : ∀ i, i < 32 → (bt x i && (decide (i = u) || decide (i = v))) = ((decide (i = u) && A) || (decide (i = v) && B)) := by
      intro i hi
      have h := congrArg (fun z => bt z i) e
      simp only [b_and, b_or, bz_one hu hi, bz_one hv hi, bz_shv A hu hi, bz_shv B hv hi] at h
      exact h
    by_cases huv : u = v
    · subst huv
      have h0 := h rfl
      subst h0
      have h1 := hh u hu
      simp at h1
      exact ⟨h1, h1⟩
    · have h1 := hh u hu
      have h2 := hh v hv
      have hvu : ¬ v = u := fun z => huv z.symm
      simp [huv] at h1
      simp [hvu] at h2
      exact ⟨h1, h2⟩
  · rintro ⟨e1, e2⟩
    apply b_ext
    intro i hi
    rw [b_and, b_or, b_or, bz_one hu hi, bz_one hv hi, bz_shv A hu hi, bz_shv B hv hi]
    by_cases h1 : i = u
    · by_cases h2 : i = v
      · have h0 := h (h1.symm.trans h2)
        rw [h1, e1, decide_eq_true rfl, decide_eq_true (h1.symm.trans h2), h0]
        cases B <;> rfl
      · rw [decide_eq_true h1, decide_eq_false h2, h1, e1]
        cases A <;> cases B <;> rfl
    · by_cases h2 : i = v
      · rw [decide_eq_false h1, decide_eq_true h2, h2, e2]
        cases A <;> cases B <;> rfl
      · rw [decide_eq_false h1, decide_eq_false h2]
        simp
def bz_cx (os oo f o : Int32) (k : Nat) : Bool := decide (nI k &&& os = oo) && decide (nI k &&& f = o)
def bz_cd (os oo : Int32) (u : Nat) (A : Bool) (v : Nat) (B : Bool) (k : Nat) : Bool := decide (bt (nI k) u = A) && decide (bt (nI k) v = B) && decide (nI k &&& os = oo)
def bz_cm (os oo : Int32) (v : Nat) (B : Bool) (k : Nat) : Bool := decide (bt (nI k) v = B) && decide (nI k &&& os = oo)
theorem bz_cx2 (os oo : Int32) {u v : Nat} (hu : u < 32) (hv : v < 32) (A B : Bool) (h : u = v → A = B) (k : Nat) : bz_cx os oo (((1 : Int32) <<< (nI u &&& 31)) ||| ((1 : Int32) <<< (nI v &&& 31))) ((bz_sv A <<< (nI u &&& 31)) ||| (bz_sv B <<< (nI v &&& 31))) k = bz_cd os oo u A v B k := by
  unfold bz_cx bz_cd
  rw [Bool.and_comm, ← Bool.decide_and (bt (nI k) u = A)]
  exact congrArg (· && decide (nI k &&& os = oo)) (decide_eq_decide.mpr (bz_c2 (nI k) hu hv A B h))
theorem bz_cx1 (os oo : Int32) {v : Nat} (hv : v < 32) (B : Bool) (k : Nat) : bz_cx os oo ((1 : Int32) <<< (nI v &&& 31)) (bz_sv B <<< (nI v &&& 31)) k = bz_cm os oo v B k := by
  unfold bz_cx bz_cm
  rw [Bool.and_comm]
  exact congrArg (· && decide (nI k &&& os = oo)) (decide_eq_decide.mpr (bz_c1 (nI k) hv B))
theorem bz_cdm (os oo : Int32) (v : Nat) (B : Bool) (k : Nat) : bz_cd os oo v B v B k = bz_cm os oo v B k := by
  unfold bz_cd bz_cm
  rw [Bool.and_self]
theorem bz_cx0 (os oo : Int32) (k : Nat) : bz_cx os oo 0 0 k = decide (nI k &&& os = oo) := by
  unfold bz_cx
  rw [Int32.and_zero, decide_eq_true rfl, Bool.and_true]
theorem bz_cx_or (os oo : Int32) (k : Nat) : bz_cx os oo 0 0 k = (bz_cm os oo 0 false k || bz_cm os oo 0 true k) := by
  rw [bz_cx0]
  unfold bz_cm
  generalize decide (nI k &&& os = oo) = a
  generalize bt (nI k) 0 = b
  cases a <;> cases b <;> rfl
theorem bz_cm_x (os oo : Int32) (k : Nat) : (bz_cm os oo 0 false k && bz_cm os oo 0 true k) = false := by
  unfold bz_cm
  generalize decide (nI k &&& os = oo) = a
  generalize bt (nI k) 0 = b
  cases a <;> cases b <;> rfl
theorem bz_cd_z (os oo : Int32) (v : Nat) {A B : Bool} (h : ¬ A = B) (k : Nat) : bz_cd os oo v A v B k = false := by
  unfold bz_cd
  generalize decide (nI k &&& os = oo) = a
  generalize bt (nI k) v = b
  cases a <;> cases b <;> cases A <;> cases B <;> first | rfl | exact absurd rfl h
theorem bz_tot (os oo : Int32) (w : Nat → Int32) (m : Nat) : bz_sum (bz_cd os oo 0 false 0 false) w m + bz_sum (bz_cd os oo 0 true 0 true) w m = bz_sum (bz_cx os oo 0 0) w m := by
  rw [bz_sum_c (bz_cdm os oo 0 false) m, bz_sum_c (bz_cdm os oo 0 true) m]
  exact bz_sum_2 (bz_cx_or os oo) (bz_cm_x os oo) m
theorem bz_top (os oo : Int32) (w : Nat → Int32) (m : Nat) : (if bz_max (bz_cm os oo 0 true) w m < bz_max (bz_cm os oo 0 false) w m then bz_max (bz_cm os oo 0 false) w m else bz_max (bz_cm os oo 0 true) w m) = bz_max (bz_cx os oo 0 0) w m :=
  bz_max_2 (bz_cx_or os oo) (bz_cm_x os oo) m
end
section
/-! families, links, closures: pure rows -/
theorem bz_nz (x y : Int32) : (¬ (x &&& y = 0)) ↔ ∃ i, i < 32 ∧ bt x i = true ∧ bt y i = true := by
  constructor
  · intro h
    apply Classical.byContradiction
    intro hn
    apply h
    apply b_ext
    intro i hi
    rw [b_and, b_0]
    cases ex : bt x i
    · rfl
    · cases ey : bt y i
      · rfl
      · exact absurd ⟨i, hi, ex, ey⟩ hn
  · rintro ⟨i, _, hx, hy⟩ e
    have h : bt (x &&& y) i = true := by rw [b_and, hx, hy]; rfl
    rw [e, b_0] at h
    cases h
theorem bz_l32 {x : Int32} {i : Nat} (h : bt x i = true) : i < 32 := by
  rcases Nat.lt_or_ge i 32 with z | z
  · exact z
  · rw [b_big z] at h
    cases h
def bz_fm (ps : Nat → Int32) (w : Nat) : Int32 := ps w ||| ((1 : Int32) <<< (nI w &&& 31))
theorem bz_fm_b (ps : Nat → Int32) {w : Nat} (hw : w < 32) (j : Nat) : bt (bz_fm ps w) j = true ↔ (bt (ps w) j = true ∨ j = w) := by
  unfold bz_fm
  rw [b_or, bz_one2 hw, Bool.or_eq_true, decide_eq_true_iff]
theorem bz_fm_n {n : Nat} {ps : Nat → Int32} (hP : bz_P n ps) (hn : n ≤ 7) {w j : Nat} (hw : w < n) (h : bt (bz_fm ps w) j = true) : j < n := by
  rcases (bz_fm_b ps (by omega) j).mp h with z | z
  · rcases Nat.lt_or_ge j w with y | y
    · omega
    · rw [(hP w (by omega)).1 j y] at z
      cases z
  · omega
def bz_lk (ps : Nat → Int32) (S M : Int32) : Nat → Int32
  | 0 => 0
  | m + 1 => if bt M m = true ∧ ¬ (bz_fm ps m &&& S = 0) then bz_lk ps S M m ||| bz_fm ps m else bz_lk ps S M m
theorem bz_lk_s (ps : Nat → Int32) (S M : Int32) (m : Nat) : bz_lk ps S M (m + 1) = if bt M m = true ∧ ¬ (bz_fm ps m &&& S = 0) then bz_lk ps S M m ||| bz_fm ps m else bz_lk ps S M m := rfl
theorem bz_lk_b (ps : Nat → Int32) (S M : Int32) (j : Nat) : ∀ m, bt (bz_lk ps S M m) j = true ↔ ∃ w, w < m ∧ bt M w = true ∧ (∃ i, i < 32 ∧ bt (bz_fm ps w) i = true ∧ bt S i = true) ∧ bt (bz_fm ps w) j = true := by
  intro m
  induction m with
  | zero =>
    constructor
    · intro h
      have h : bt 0 j = true := h
      rw [b_0] at h
      cases h
    · rintro ⟨w, hw, _⟩
      omega
  | succ m ih =>
    by_cases c : bt M m = true ∧ ¬ (bz_fm ps m &&& S = 0)
    · rw [bz_lk_s, if_pos c, b_or, Bool.or_eq_true, ih]
      constructor
      · rintro (⟨w, hw, h⟩ | h)
        · exact ⟨w, by omega, h⟩
        · exact ⟨m, by omega, c.1, (bz_nz _ _).mp c.2, h⟩
      · rintro ⟨w, hw, h1, h2, h3⟩
        by_cases e : w = m
        · subst e; exact Or.inr h3
        · exact Or.inl ⟨w, by omega, h1, h2, h3⟩
    · rw [bz_lk_s, if_neg c, ih]
      constructor
      · rintro ⟨w, hw, h⟩
        exact ⟨w, by omega, h⟩
      · rintro ⟨w, hw, h1, h2, h3⟩
        by_cases e : w = m
        · subst e; exact absurd ⟨h1, (bz_nz _ _).mpr h2⟩ c
        · exact ⟨w, by omega, h1, h2, h3⟩
def bz_bl (ps : Nat → Int32) (v : Nat) : Nat → Int32
  | 0 => ps v
  | m + 1 => if bt (ps m) v = true then bz_bl ps v m ||| (((1 : Int32) <<< (nI m &&& 31)) ||| ps m) else bz_bl ps v m
theorem bz_bl_s (ps : Nat → Int32) (v m : Nat) : bz_bl ps v (m + 1) = if bt (ps m) v = true then bz_bl ps v m ||| (((1 : Int32) <<< (nI m &&& 31)) ||| ps m) else bz_bl ps v m := rfl
theorem bz_bl_b (ps : Nat → Int32) (v j : Nat) : ∀ m, bt (bz_bl ps v m) j = true ↔ bt (ps v) j = true ∨ ∃ w, w < m ∧ bt (ps w) v = true ∧ bt (bz_fm ps w) j = true := by
  intro m
  induction m with
  | zero =>
    constructor
    · intro h; exact Or.inl h
    · rintro (h | ⟨w, hw, _⟩)
      · exact h
      · omega
  | succ m ih =>
    by_cases c : bt (ps m) v = true
    · have e : bt (((1 : Int32) <<< (nI m &&& 31)) ||| ps m) j = bt (bz_fm ps m) j := by
        unfold bz_fm
        rw [b_or, b_or, Bool.or_comm]
      rw [bz_bl_s, if_pos c, b_or, Bool.or_eq_true, ih, e]
      constructor
      · rintro ((h | ⟨w, hw, h⟩) | h)
        · exact Or.inl h
        · exact Or.inr ⟨w, by omega, h⟩
        · exact Or.inr ⟨m, by omega, c, h⟩
      · rintro (h | ⟨w, hw, h1, h2⟩)
        · exact Or.inl (Or.inl h)
        · by_cases e : w = m
          · subst e; exact Or.inr h2
          · exact Or.inl (Or.inr ⟨w, by omega, h1, h2⟩)
    · rw [bz_bl_s, if_neg c, ih]
      constructor
      · rintro (h | ⟨w, hw, h⟩)
        · exact Or.inl h
        · exact Or.inr ⟨w, by omega, h⟩
      · rintro (h | ⟨w, hw, h1, h2⟩)
        · exact Or.inl h
        · by_cases e : w = m
          · subst e; exact absurd h1 c
          · exact Or.inr ⟨w, by omega, h1, h2⟩
theorem bz_bool {a b : Bool} (h : a = true ↔ b = true) : a = b := by
  cases a <;> cases b
  · rfl
  · exact (h.mpr rfl)
  · exact (h.mp rfl).symm
  · rfl
theorem bz_blk {n v : Nat} (ps : Nat → Int32) (hn : n ≤ 7) (hv : v < n) : bz_lk ps ((1 : Int32) <<< (nI v &&& 31)) (nI (2 ^ n) - 1) n &&& (((1 : Int32) <<< (nI v &&& 31)) ^^^ (-1)) = bz_bl ps v n &&& (((1 : Int32) <<< (nI v &&& 31)) ^^^ (-1)) := by
  apply b_ext
  intro j hj
  rw [b_and, b_and, bz_not _ hj, bz_one (by omega) hj]
  by_cases e : j = v
  · rw [decide_eq_true e, Bool.not_true, Bool.and_false, Bool.and_false]
  · rw [decide_eq_false e, Bool.not_false, Bool.and_true, Bool.and_true]
    apply bz_bool
    rw [bz_lk_b, bz_bl_b]
    constructor
    · rintro ⟨w, hw, _, ⟨i, hi, h1, h2⟩, h3⟩
      rw [bz_one (by omega) hi, decide_eq_true_iff] at h2
      subst h2
      by_cases ew : w = i
      · subst ew
        rcases (bz_fm_b ps (by omega) j).mp h3 with z | z
        · exact Or.inl z
        · exact absurd z e
      · rcases (bz_fm_b ps (by omega) i).mp h1 with z | z
        · exact Or.inr ⟨w, hw, z, h3⟩
        · exact absurd z.symm ew
    · have hm : ∀ w, w < n → bt (nI (2 ^ n) - 1) w = true := by
        intro w hw
        rw [bz_ev n (by omega) w (by omega), decide_eq_true hw]
      have hs : bt ((1 : Int32) <<< (nI v &&& 31)) v = true := by
        rw [bz_one (by omega) (by omega), decide_eq_true rfl]
      rintro (h | ⟨w, hw, h1, h2⟩)
      · exact ⟨v, hv, hm v hv, ⟨v, by omega, (bz_fm_b ps (by omega) v).mpr (Or.inr rfl), hs⟩, (bz_fm_b ps (by omega) j).mpr (Or.inl h)⟩
      · exact ⟨w, hw, hm w hw, ⟨v, by omega, (bz_fm_b ps (by omega) v).mpr (Or.inl h1), hs⟩, h2⟩
/-- a set with its ancestors: from m - 1 down -/
def bz_an (ps : Nat → Int32) : Nat → Int32 → Int32
  | 0 => fun s => s
  | m + 1 => fun s => bz_an ps m (if bt s m = true then s ||| ps m else s)
theorem bz_an_s (ps : Nat → Int32) (m : Nat) (s : Int32) : bz_an ps (m + 1) s = bz_an ps m (if bt s m = true then s ||| ps m else s) := rfl
theorem bz_an_7 {n : Nat} {ps : Nat → Int32} (hP : bz_P n ps) (s : Int32) : ∀ d, n + d ≤ 7 → bz_an ps (n + d) s = bz_an ps n s := by
  intro d
  induction d with
  | zero => intro _; rfl
  | succ d ih =>
    intro h
    show bz_an ps (n + d + 1) s = _
    rw [bz_an_s, (hP (n + d) (by omega)).2.2 (by omega), Int32.or_zero, ite_self]
    exact ih (by omega)
theorem bz_an_b {n : Nat} {ps : Nat → Int32} (hP : bz_P n ps) (hn : n ≤ 7) : ∀ m, m ≤ n → ∀ s, (∀ i, n ≤ i → bt s i = false) → ∀ i, n ≤ i → bt (bz_an ps m s) i = false := by
  intro m
  induction m with
  | zero => intro _ s h i hi; exact h i hi
  | succ m ih =>
    intro hm s h i hi
    rw [bz_an_s]
    refine ih (by omega) _ ?_ i hi
    intro k hk
    by_cases c : bt s m = true
    · rw [if_pos c, b_or, h k hk, (hP m (by omega)).1 k (by omega)]
      rfl
    · rw [if_neg c]
      exact h k hk
/-- i and j share a family of a member -/
def bz_E (ps : Nat → Int32) (M : Int32) (n : Nat) (i j : Nat) : Prop := ∃ w, w < n ∧ bt M w = true ∧ bt (bz_fm ps w) i = true ∧ bt (bz_fm ps w) j = true
/-- nothing unobserved is linked to R but what lies in R -/
def bz_cl (ps : Nat → Int32) (M : Int32) (n : Nat) (os : Int32) (R : Nat → Prop) : Prop := ∀ i j, R i → bz_E ps M n i j → bt os j = false → R j
def bz_Q (ps : Nat → Int32) (M : Int32) (n : Nat) (os : Int32) (u k : Nat) (R : Int32) : Prop :=
  bt R u = true ∧ (bz_cl ps M n os (fun i => bt R i = true) ∨ k + 1 ≤ bz_pc R n) ∧ (∀ P : Nat → Prop, bz_cl ps M n os P → P u → ∀ i, bt R i = true → P i)
theorem bz_Q0 {ps : Nat → Int32} {M os : Int32} {n u : Nat} (hu : u < n) (hn : n ≤ 7) : bz_Q ps M n os u 0 ((1 : Int32) <<< (nI u &&& 31)) := by
  have h1 : bt ((1 : Int32) <<< (nI u &&& 31)) u = true := by rw [bz_one2 (by omega), decide_eq_true rfl]
  refine ⟨h1, Or.inr ?_, ?_⟩
  · have := bz_pc_lt (s := 0) (t := (1 : Int32) <<< (nI u &&& 31)) (fun i h => by rw [b_0] at h; cases h) (b_0 u) h1 n hu
    omega
  · intro P _ hP i hi
    rw [bz_one2 (by omega), decide_eq_true_iff] at hi
    subst hi
    exact hP
theorem bz_Qs {ps : Nat → Int32} {M os : Int32} {n u k : Nat} {R R' : Int32} (hP : bz_P n ps) (hn : n ≤ 7) (h : bz_Q ps M n os u k R)
    (h1 : ∀ i, bt R i = true → bt R' i = true) (h2 : ∀ i j, bt R i = true → bz_E ps M n i j → bt os j = false → bt R' j = true)
    (h3 : ∀ P : Nat → Prop, bz_cl ps M n os P → (∀ i, bt R i = true → P i) → ∀ i, bt R' i = true → P i) : bz_Q ps M n os u (k + 1) R' := by
  obtain ⟨a, b, c⟩ := h
  refine ⟨h1 u a, ?_, fun P hc hu => h3 P hc (c P hc hu)⟩
  by_cases hc : bz_cl ps M n os (fun i => bt R i = true)
  · left
    have hs := h3 _ hc (fun i z => z)
    intro i j hi hE ho
    exact h1 j (hc i j (hs i hi) hE ho)
  · right
    rcases b with b | b
    · exact absurd b hc
    · apply Classical.byContradiction
      intro hlt
      apply hc
      intro i j hi hE ho
      show bt R j = true
      cases ej : bt R j
      · exfalso
        have h4 := bz_pc_lt h1 ej (h2 i j hi hE ho) n (by
          obtain ⟨w, hw, _, _, hj⟩ := hE
          exact bz_fm_n hP hn hw hj)
        omega
      · rfl
theorem bz_Qn {ps : Nat → Int32} {M os : Int32} {n u k : Nat} {R : Int32} (hP : bz_P n ps) (hn : n ≤ 7) (hk : n ≤ k + 1) (h : bz_Q ps M n os u k R) : bz_cl ps M n os (fun i => bt R i = true) := by
  rcases h.2.1 with b | b
  · exact b
  · intro i j _ hE _
    obtain ⟨w, hw, _, _, hj⟩ := hE
    exact bz_pc_all n (by omega) j (bz_fm_n hP hn hw hj)
theorem bz_QQ {ps : Nat → Int32} {M os : Int32} {n u k l : Nat} {R T : Int32} (hP : bz_P n ps) (hn : n ≤ 7) (hk : n ≤ k + 1) (hl : n ≤ l + 1) (h : bz_Q ps M n os u k R) (g : bz_Q ps M n os u l T) (j : Nat) : bt R j = bt T j := by
  apply bz_bool
  constructor
  · exact h.2.2 _ (bz_Qn hP hn hl g) g.1 j
  · exact g.2.2 _ (bz_Qn hP hn hk h) h.1 j
/-- one step of the component -/
theorem bz_Qx {ps : Nat → Int32} {M os : Int32} {n u k : Nat} {R : Int32} (hP : bz_P n ps) (hn : n ≤ 7) (h : bz_Q ps M n os u k R) : bz_Q ps M n os u (k + 1) (R ||| (bz_lk ps R M n &&& (os ^^^ (-1)))) := by
  refine bz_Qs hP hn h ?_ ?_ ?_
  · intro i hi
    rw [b_or, hi, Bool.true_or]
  · intro i j hi hE ho
    obtain ⟨w, hw, hM, hi2, hj⟩ := hE
    have h5 : bt (bz_lk ps R M n) j = true := (bz_lk_b ps R M j n).mpr ⟨w, hw, hM, ⟨i, bz_l32 hi, hi2, hi⟩, hj⟩
    rw [b_or, b_and, bz_not _ (bz_l32 h5), h5, ho]
    simp
  · intro P hc hR i hi
    rw [b_or, Bool.or_eq_true] at hi
    rcases hi with hi | hi
    · exact hR i hi
    · rw [b_and, Bool.and_eq_true] at hi
      obtain ⟨h5, h6⟩ := hi
      rw [bz_not _ (bz_l32 h5)] at h6
      obtain ⟨w, hw, hM, ⟨q, _, hq1, hq2⟩, hj⟩ := (bz_lk_b ps R M i n).mp h5
      refine hc q i (hR q hq2) ⟨w, hw, hM, hq1, hj⟩ ?_
      simpa using h6
/-- one round of the reference -/
def bz_yr (ls : Nat → Int32) (os R : Int32) : Nat → Int32
  | 0 => R
  | w + 1 => if bt (bz_yr ls os R w) w = true then bz_yr ls os R w ||| (ls w &&& (os ^^^ (-1))) else bz_yr ls os R w
theorem bz_yr_s (ls : Nat → Int32) (os R : Int32) (w : Nat) : bz_yr ls os R (w + 1) = if bt (bz_yr ls os R w) w = true then bz_yr ls os R w ||| (ls w &&& (os ^^^ (-1))) else bz_yr ls os R w := rfl
theorem bz_yr_1 (ls : Nat → Int32) (os R : Int32) (w i : Nat) (h : bt (bz_yr ls os R w) i = true) : bt (bz_yr ls os R (w + 1)) i = true := by
  rw [bz_yr_s]
  by_cases c : bt (bz_yr ls os R w) w = true
  · rw [if_pos c, b_or, h, Bool.true_or]
  · rw [if_neg c]; exact h
theorem bz_yr_m (ls : Nat → Int32) (os R : Int32) (i : Nat) (h : bt R i = true) : ∀ m, bt (bz_yr ls os R m) i = true := by
  intro m
  induction m with
  | zero => exact h
  | succ m ih => exact bz_yr_1 _ _ _ _ _ ih
theorem bz_Qy {ps : Nat → Int32} {M os : Int32} {n u k : Nat} {R : Int32} {ls : Nat → Int32} (hP : bz_P n ps) (hn : n ≤ 7) (hl : ∀ q, q < 7 → ∀ j, bt (ls q) j = true ↔ bz_E ps M n q j) (h : bz_Q ps M n os u k R) : bz_Q ps M n os u (k + 1) (bz_yr ls os R 7) := by
  refine bz_Qs hP hn h (fun i hi => bz_yr_m _ _ _ i hi 7) ?_ ?_
  · intro i j hi hE ho
    have hi7 : i < 7 := by
      obtain ⟨w, hw, _, hi2, _⟩ := hE
      have := bz_fm_n hP hn hw hi2
      omega
    have key : ∀ m, i < m → bt (bz_yr ls os R m) j = true := by
      intro m
      induction m with
      | zero => intro z; omega
      | succ m ih =>
        intro z
        by_cases e : i = m
        · subst e
          have h5 : bt (ls i) j = true := (hl i hi7 j).mpr hE
          rw [bz_yr_s, if_pos (bz_yr_m _ _ _ i hi i), b_or, b_and, bz_not _ (bz_l32 h5), h5, ho]
          simp
        · exact bz_yr_1 _ _ _ _ _ (ih (by omega))
    exact key 7 hi7
  · intro P hc hR
    have key : ∀ m, m ≤ 7 → ∀ i, bt (bz_yr ls os R m) i = true → P i := by
      intro m
      induction m with
      | zero => intro _ i hi; exact hR i hi
      | succ m ih =>
        intro hm i hi
        rw [bz_yr_s] at hi
        by_cases c : bt (bz_yr ls os R m) m = true
        · rw [if_pos c, b_or, Bool.or_eq_true] at hi
          rcases hi with hi | hi
          · exact ih (by omega) i hi
          · rw [b_and, Bool.and_eq_true] at hi
            obtain ⟨h5, h6⟩ := hi
            rw [bz_not _ (bz_l32 h5)] at h6
            refine hc m i (ih (by omega) m c) ((hl m (by omega) i).mp h5) ?_
            simpa using h6
        · rw [if_neg c] at hi
          exact ih (by omega) i hi
    exact key 7 (Nat.le_refl _)
/-- the reference's lines -/
def bz_d1 (f : Int32) (L : Nat → Int32) (m : Nat) : Nat → Int32 := fun q => if q < m ∧ bt f q = true then L q ||| f else L q
theorem bz_d1_0 (f : Int32) (L : Nat → Int32) : bz_d1 f L 0 = L := by
  funext q
  unfold bz_d1
  rw [if_neg (fun z : q < 0 ∧ bt f q = true => Nat.not_lt_zero q z.1)]
theorem bz_d1_t {f : Int32} {L : Nat → Int32} {m : Nat} (h : bt f m = true) : upd (bz_d1 f L m) m (bz_d1 f L m m ||| f) = bz_d1 f L (m + 1) := by
  funext q
  unfold upd bz_d1
  by_cases e : q = m
  · subst e
    rw [if_pos rfl, if_neg (fun z : q < q ∧ bt f q = true => Nat.lt_irrefl q z.1), if_pos (⟨Nat.lt_succ_self q, h⟩ : q < q + 1 ∧ bt f q = true)]
  · rw [if_neg e]
    by_cases c : q < m ∧ bt f q = true
    · rw [if_pos c, if_pos (⟨by omega, c.2⟩ : q < m + 1 ∧ bt f q = true)]
    · rw [if_neg c, if_neg (fun z : q < m + 1 ∧ bt f q = true => c ⟨by omega, z.2⟩)]
theorem bz_d1_f {f : Int32} {L : Nat → Int32} {m : Nat} (h : ¬ bt f m = true) : bz_d1 f L m = bz_d1 f L (m + 1) := by
  funext q
  unfold bz_d1
  by_cases c : q < m ∧ bt f q = true
  · rw [if_pos c, if_pos (⟨by omega, c.2⟩ : q < m + 1 ∧ bt f q = true)]
  · rw [if_neg c, if_neg]
    rintro ⟨z1, z2⟩
    by_cases e : q = m
    · subst e; exact h z2
    · exact c ⟨by omega, z2⟩
def bz_z (L : Nat → Int32) (m : Nat) : Nat → Int32 := fun q => if q < m then 0 else L q
theorem bz_z0 (L : Nat → Int32) : bz_z L 0 = L := by
  funext q
  unfold bz_z
  rw [if_neg (Nat.not_lt_zero q)]
theorem bz_zs (L : Nat → Int32) (m : Nat) : upd (bz_z L m) m 0 = bz_z L (m + 1) := by
  funext q
  unfold upd bz_z
  by_cases e : q = m
  · rw [if_pos e, if_pos (by omega)]
  · rw [if_neg e]
    by_cases c : q < m
    · rw [if_pos c, if_pos (by omega)]
    · rw [if_neg c, if_neg (by omega)]
def bz_dr (ps : Nat → Int32) (M : Int32) (L : Nat → Int32) : Nat → (Nat → Int32)
  | 0 => bz_z L 7
  | m + 1 => if bt M m = true then bz_d1 (bz_fm ps m) (bz_dr ps M L m) 7 else bz_dr ps M L m
theorem bz_dr_s (ps : Nat → Int32) (M : Int32) (L : Nat → Int32) (m : Nat) : bz_dr ps M L (m + 1) = if bt M m = true then bz_d1 (bz_fm ps m) (bz_dr ps M L m) 7 else bz_dr ps M L m := rfl
theorem bz_dr_b (ps : Nat → Int32) (M : Int32) (L : Nat → Int32) {q : Nat} (hq : q < 7) (j : Nat) : ∀ m, bt (bz_dr ps M L m q) j = true ↔ bz_E ps M m q j := by
  intro m
  induction m with
  | zero =>
    have e : bz_dr ps M L 0 q = 0 := if_pos hq
    rw [e, b_0]
    constructor
    · intro h; cases h
    · rintro ⟨w, hw, _⟩; omega
  | succ m ih =>
    have up : bz_E ps M m q j → bz_E ps M (m + 1) q j := fun ⟨w, hw, h⟩ => ⟨w, by omega, h⟩
    rw [bz_dr_s]
    by_cases c : bt M m = true
    · rw [if_pos c]
      unfold bz_d1
      by_cases d : bt (bz_fm ps m) q = true
      · rw [if_pos (⟨hq, d⟩ : q < 7 ∧ bt (bz_fm ps m) q = true), b_or, Bool.or_eq_true, ih]
        constructor
        · rintro (h | h)
          · exact up h
          · exact ⟨m, by omega, c, d, h⟩
        · rintro ⟨w, hw, h1, h2, h3⟩
          by_cases e : w = m
          · subst e; exact Or.inr h3
          · exact Or.inl ⟨w, by omega, h1, h2, h3⟩
      · rw [if_neg (fun z : q < 7 ∧ bt (bz_fm ps m) q = true => d z.2), ih]
        constructor
        · exact up
        · rintro ⟨w, hw, h1, h2, h3⟩
          by_cases e : w = m
          · subst e; exact absurd h2 d
          · exact ⟨w, by omega, h1, h2, h3⟩
    · rw [if_neg c, ih]
      constructor
      · exact up
      · rintro ⟨w, hw, h1, h2, h3⟩
        by_cases e : w = m
        · subst e; exact absurd h1 c
        · exact ⟨w, by omega, h1, h2, h3⟩
theorem bz_E7 {ps : Nat → Int32} {M : Int32} {n q j : Nat} (hn : n ≤ 7) (hM : ∀ i, n ≤ i → bt M i = false) : bz_E ps M 7 q j ↔ bz_E ps M n q j := by
  constructor
  · rintro ⟨w, hw, h1, h2⟩
    refine ⟨w, ?_, h1, h2⟩
    rcases Nat.lt_or_ge w n with z | z
    · exact z
    · rw [hM w z] at h1
      cases h1
  · rintro ⟨w, hw, h⟩
    exact ⟨w, by omega, h⟩
/-- filling and sowing -/
def bz_fl (en : Nat → Int32) (b m : Nat) : Nat → Int32 := fun j => if b ≤ j ∧ j < b + m then 1 else en j
theorem bz_fl0 (en : Nat → Int32) (b : Nat) : bz_fl en b 0 = en := by
  funext j
  unfold bz_fl
  rw [if_neg (by omega)]
theorem bz_fls (en : Nat → Int32) (b m : Nat) : upd (bz_fl en b m) (b + m) 1 = bz_fl en b (m + 1) := by
  funext j
  unfold upd bz_fl
  by_cases e : j = b + m
  · rw [if_pos e, if_pos (by omega)]
  · rw [if_neg e]
    by_cases c : b ≤ j ∧ j < b + m
    · rw [if_pos c, if_pos (by omega)]
    · rw [if_neg c, if_neg (by omega)]
theorem bz_flf (en : Nat → Int32) (m k : Nat) : bz_fl (bz_fl en 0 m) m k = bz_fl en 0 (m + k) := by
  funext j
  unfold bz_fl
  by_cases c : m ≤ j ∧ j < m + k
  · rw [if_pos c, if_pos (by omega)]
  · rw [if_neg c]
    by_cases d : 0 ≤ j ∧ j < 0 + m
    · rw [if_pos d, if_pos (by omega)]
    · rw [if_neg d, if_neg (by omega)]
theorem bz_flN {en : Nat → Int32} (h : bz_N en) (b m : Nat) : bz_N (bz_fl en b m) := by
  intro j hj
  unfold bz_fl
  by_cases c : b ≤ j ∧ j < b + m
  · rw [if_pos c]; exact ⟨1, by omega, rfl⟩
  · rw [if_neg c]; exact h j hj
theorem bz_upN {en : Nat → Int32} (h : bz_N en) (k : Nat) {e : Nat} (he : e ≤ 9) : bz_N (upd en k (nI e)) := by
  intro j hj
  unfold upd
  by_cases c : j = k
  · rw [if_pos c]; exact ⟨e, he, rfl⟩
  · rw [if_neg c]; exact h j hj
def bz_sw (en : Nat → Int32) (v s : Nat) : Nat → (Nat → Int32)
  | 0 => en
  | r + 1 => upd (upd (bz_sw en v s r) (16 * v + 2 * r) (nI ((s + 3 * r) % 10))) (16 * v + 2 * r + 1) (nI ((s + 3 * r + 5 + r) % 10))
theorem bz_sw_s (en : Nat → Int32) (v s r : Nat) : bz_sw en v s (r + 1) = upd (upd (bz_sw en v s r) (16 * v + 2 * r) (nI ((s + 3 * r) % 10))) (16 * v + 2 * r + 1) (nI ((s + 3 * r + 5 + r) % 10)) := rfl
theorem bz_swN {en : Nat → Int32} (h : bz_N en) (v s : Nat) : ∀ r, bz_N (bz_sw en v s r) := by
  intro r
  induction r with
  | zero => exact h
  | succ r ih => exact bz_upN (bz_upN ih _ (by omega)) _ (by omega)
end
section
/-! what the stores keep: pure rows -/
theorem bz_upP {n : Nat} {ps : Nat → Int32} (h : bz_P n ps) {v s : Nat} (hv : v < n) (hs : s < 2 ^ v) (hc : bz_pc (nI s) 7 ≤ 3) : bz_P n (upd ps v (nI s)) := by
  intro w hw
  by_cases e : w = v
  · subst e
    rw [pk_us]
    exact ⟨fun i hi => bz_hi hs hi, hc, fun z => by omega⟩
  · rw [pk_un e]
    exact h w hw
theorem bz_P0 (n : Nat) : bz_P n (fun _ => 0) := by
  intro v _
  exact ⟨fun i _ => b_0 i, (by decide +kernel : bz_pc 0 7 ≤ 3), fun _ => rfl⟩
theorem bz_upO2 {n v : Nat} {os oo : Int32} {se : Nat → Int32} (h : bz_O n os oo se) (hv : v < n) (hn : n ≤ 7) : bz_O n (os &&& (((1 : Int32) <<< (nI v &&& 31)) ^^^ (-1))) (oo &&& (((1 : Int32) <<< (nI v &&& 31)) ^^^ (-1))) (upd se v 2) := by
  obtain ⟨h1, h2, h3⟩ := h
  refine ⟨fun i hi => ?_, fun i hi => ?_, fun w hw => ?_⟩
  · rw [b_and, h1 i hi, Bool.false_and]
  · rw [b_and, Bool.and_eq_true] at hi ⊢
    exact ⟨h2 i hi.1, hi.2⟩
  · rw [b_and, b_and, bz_not _ (by omega), bz_one (by omega) (by omega)]
    by_cases e : w = v
    · subst e
      rw [pk_us, decide_eq_true rfl, Bool.not_true, Bool.and_false, if_neg Bool.false_ne_true]
    · rw [pk_un e, decide_eq_false e, Bool.not_false, Bool.and_true, Bool.and_true]
      exact h3 w hw
theorem bz_upOb {n v : Nat} {os oo : Int32} {se : Nat → Int32} (B : Bool) (h : bz_O n os oo se) (hv : v < n) (hn : n ≤ 7) : bz_O n ((os &&& (((1 : Int32) <<< (nI v &&& 31)) ^^^ (-1))) ||| ((1 : Int32) <<< (nI v &&& 31))) ((oo &&& (((1 : Int32) <<< (nI v &&& 31)) ^^^ (-1))) ||| (bz_sv B <<< (nI v &&& 31))) (upd se v (bz_sv B)) := by
  obtain ⟨h1, h2, h3⟩ := bz_upO2 h hv hn
  refine ⟨fun i hi => ?_, fun i hi => ?_, fun w hw => ?_⟩
  · rw [b_or, h1 i hi, bz_one2 (by omega), decide_eq_false (by omega)]
    rfl
  · have h32 := bz_l32 hi
    rw [b_or, Bool.or_eq_true] at hi ⊢
    rcases hi with hi | hi
    · exact Or.inl (h2 i hi)
    · rw [bz_shv B (by omega) h32, Bool.and_eq_true] at hi
      right
      rw [bz_one (by omega) h32]
      exact hi.1
  · have h4 := h3 w hw
    rw [b_or, b_or, bz_one (by omega) (by omega), bz_shv B (by omega) (by omega)]
    by_cases e : w = v
    · subst e
      have z : bt (oo &&& (((1 : Int32) <<< (nI w &&& 31)) ^^^ (-1))) w = false := by
        rw [b_and, bz_not _ (by omega), bz_one (by omega) (by omega), decide_eq_true rfl, Bool.not_true, Bool.and_false]
      rw [pk_us, decide_eq_true rfl, Bool.or_true, if_pos rfl, z, Bool.true_and, Bool.false_or]
    · rw [pk_un e] at h4 ⊢
      rw [decide_eq_false e, Bool.or_false, Bool.false_and, Bool.or_false]
      exact h4
theorem bz_O0 {n : Nat} {se : Nat → Int32} (h : ∀ v, v < 7 → se v = 2) : bz_O n 0 0 se := by
  refine ⟨fun i _ => b_0 i, fun i hi => ?_, fun v hv => ?_⟩
  · rw [b_0] at hi
    cases hi
  · rw [b_0, if_neg Bool.false_ne_true]
    exact h v hv
/-- the observed value, by the sets -/
def bz_ov (os oo : Int32) (v : Nat) : Int32 := if bt os v = true then bz_sv (bt oo v) else 2
theorem bz_ov2 (os oo : Int32) (v : Nat) : bz_ov os oo v < 2 ↔ bt os v = true := by
  unfold bz_ov
  by_cases h : bt os v = true
  · rw [if_pos h]
    exact ⟨fun _ => h, fun _ => bz_svlt _⟩
  · rw [if_neg h]
    exact ⟨fun z => absurd z (by decide), fun z => absurd z h⟩
theorem bz_bad {x : Int32} {n : Nat} (hn : n ≤ 7) (h : x < 0 ∨ nI n ≤ x) (j : Nat) (hj : j < n) : ¬ x = nI j := by
  rintro rfl
  rcases h with h | h
  · exact nI_pos (by omega) h
  · rw [nI_leI (by omega) (by omega)] at h
    omega
/-- a value or not: 0 or 1 -/
theorem bz_val (x : Int32) : (∃ B, x = bz_sv B) ∨ (¬ x = 0 ∧ ¬ x = 1 ∧ (x < 0 ∨ 1 < x)) := by
  by_cases h0 : x = 0
  · exact Or.inl ⟨false, h0⟩
  · by_cases h1 : x = 1
    · exact Or.inl ⟨true, h1⟩
    · refine Or.inr ⟨h0, h1, ?_⟩
      have e0 : (0 : Int32).toInt = 0 := by decide
      have e1 : (1 : Int32).toInt = 1 := by decide
      have h0' : ¬ x.toInt = 0 := fun z => h0 (Int32.toInt_inj.mp (z.trans e0.symm))
      have h1' : ¬ x.toInt = 1 := fun z => h1 (Int32.toInt_inj.mp (z.trans e1.symm))
      rw [Int32.lt_iff_toInt_lt, Int32.lt_iff_toInt_lt, e0, e1]
      omega
theorem bz_val0 (B : Bool) : ¬ bz_sv B < 0 ∧ ¬ 1 < bz_sv B ∧ 0 ≤ bz_sv B ∧ bz_sv B ≤ 1 := by cases B <;> decide
end
section
/-! the component's walks against the pure rows -/
theorem bz_tr {α : Type} {P : α → Prop} {a b : α} (e : a = b) (h : P a) : P b := e ▸ h
theorem bz_lpF {α : Type} (W : Nat → Int32 → α → Prop) (F : Nat → α) (e : Nat) (hx : ∀ n, W (n + 1) (nI e) (F e)) (hs : ∀ n i, i < e → W n (nI (i + 1)) (F (i + 1)) → W (n + 1) (nI i) (F i)) : ∃ n, W n (nI 0) (F 0) := by
  have key : ∀ d i, i + d = e → W (d + 1) (nI i) (F i) := by
    intro d
    induction d with
    | zero =>
      intro i h
      have h2 : i = e := by omega
      subst h2
      exact hx 0
    | succ d ih =>
      intro i h
      exact hs (d + 1) i (by omega) (ih (i + 1) (by omega))
  exact ⟨e + 1, key e 0 (by omega)⟩
theorem bz_q1 {s : Int32} {i : Nat} (hi : i < 32) (c : bt s i = true) : s >>> (nI i &&& 31) &&& 1 = 1 := by rw [bz_tst s hi, c]; rfl
theorem bz_q0 {s : Int32} {i : Nat} (hi : i < 32) (c : ¬ bt s i = true) : ¬ s >>> (nI i &&& 31) &&& 1 = 1 := by rw [bz_tst s hi, bz_sv1]; exact c
theorem bz_p1 {ps : Nat → Int32} {v i : Nat} (hv : v < 7) (hi : i < 32) (c : bt (ps v) i = true) : (ps (nI v).toNatClampNeg) >>> (nI i &&& 31) &&& 1 = 1 := by rw [nI_clamp (by omega)]; exact bz_q1 hi c
theorem bz_p0 {ps : Nat → Int32} {v i : Nat} (hv : v < 7) (hi : i < 32) (c : ¬ bt (ps v) i = true) : ¬ (ps (nI v).toNatClampNeg) >>> (nI i &&& 31) &&& 1 = 1 := by rw [nI_clamp (by omega)]; exact bz_q0 hi c
theorem bz_szs (s : Int32) {i : Nat} (hi : i < 32) : nI (bz_pc s i) + (s >>> (nI i &&& 31) &&& 1) = nI (bz_pc s (i + 1)) := by rw [bz_tst s hi, bz_svn, nI_add, bz_pc_s]
theorem bz_rws {s : Int32} (x : Int32) {i : Nat} (hi : i < 32) (c : bt s i = true) (h3 : bz_pc s (i + 1) ≤ 3) : nI (bz_row s x i) ||| ((x >>> (nI i &&& 31) &&& 1) <<< (nI (bz_pc s i) &&& 31)) = nI (bz_row s x (i + 1)) := by
  have h4 : bz_pc s (i + 1) = bz_pc s i + 1 := by rw [bz_pc_s, c]; rfl
  have h5 := bz_row_lt s x i
  have h6 : 2 ^ bz_pc s i ≤ 2 ^ 2 := Nat.pow_le_pow_right (by decide) (by omega)
  rw [bz_tst x hi, bz_orT (bz_pc s i) (by omega) (bz_row s x i) (by omega) h5 (bt x i), bz_row_s, if_pos c]
theorem bz_pcs {s : Int32} {i : Nat} (c : bt s i = true) : nI (bz_pc s i) + 1 = nI (bz_pc s (i + 1)) := by rw [nI_1, bz_pc_s, c]; rfl
theorem bz_pcf {s : Int32} {i : Nat} (c : ¬ bt s i = true) : bz_pc s i = bz_pc s (i + 1) := by rw [bz_pc_s, bz_nt c]; rfl
theorem bz_rwf {s x : Int32} {i : Nat} (c : ¬ bt s i = true) : bz_row s x i = bz_row s x (i + 1) := by rw [bz_row_s, if_neg c]
theorem bz_wtc {ps en : Nat → Int32} {x : Int32} {i : Nat} (h : bz_ix ps x i < 112) : bz_wt ps en x i * en (nI (bz_ix ps x i)).toNatClampNeg = bz_wt ps en x (i + 1) := by rw [nI_clamp (by omega), bz_wt_s]
theorem bz_eX (ps : Nat → Int32) (x : Int32) {i : Nat} (hi : i < 32) : nI i * 16 + nI (bz_row (ps i) x i) * 2 + (x >>> (nI i &&& 31) &&& 1) = nI (bz_ix ps x i) := by
  rw [bz_tst x hi, bz_svn]
  show nI i * nI 16 + nI (bz_row (ps i) x i) * nI 2 + nI (bt x i).toNat = _
  rw [pk_mul, pk_mul, nI_add, nI_add]
  exact congrArg nI (by unfold bz_ix; omega)
theorem bz_eY (ps : Nat → Int32) (x : Int32) {i : Nat} (hi : i < 32) : 16 * nI i + 2 * nI (bz_row (ps i) x i) + (x >>> (nI i &&& 31) &&& 1) = nI (bz_ix ps x i) := by
  rw [bz_tst x hi, bz_svn]
  show nI 16 * nI i + nI 2 * nI (bz_row (ps i) x i) + nI (bt x i).toNat = _
  rw [pk_mul, pk_mul, nI_add, nI_add]
  exact congrArg nI (by unfold bz_ix; omega)
theorem bz_xsz (s : Int32) (post : Int32 → Prop) (h : post (nI (bz_pc s 7))) : wpX_sizeOf post s :=
  bz_lpF (fun f i (a : Int32) => wX_sizeOf_4 post s f a i) (fun i => nI (bz_pc s i)) 7
    (fun f => br_t (nI_le (a := 7) (b := 7) (by decide) (by decide)) h)
    (fun f i hi k => br_f (nI_ge (b := 7) hi (by decide)) (nm_r (bz_szs s (by omega)) (nm_r (nI_1 i) k)))
theorem bz_xplace (Q : Int32 → Prop) {p0 p1 p2 : Int32} {m : Nat} (e : p0 * 16 + p1 * 2 + p2 = nI m) (h : Q (nI m)) : wpX_placeOf Q p0 p1 p2 := by
  unfold wpX_placeOf
  rw [e]
  exact h
theorem bz_xrow {n : Nat} {os oo : Int32} {ps en : Nat → Int32} (hP : bz_P n ps) {v : Nat} (hv : v < 7) (x : Int32) (post : Int32 → Prop) (h : post (nI (bz_row (ps v) x v))) : wpX_rowFor post (nI n, os, oo, ps, en) (nI v) x := by
  refine bz_lpF (fun f i (a : Int32 × Int32) => wX_rowFor_8 post (nI v) x (nI n) os oo ps en f a.1 a.2 i) (fun i => (nI (bz_row (ps v) x i), nI (bz_pc (ps v) i))) v (fun f => br_t (nI_le (Nat.le_refl v) (by omega)) h) ?_
  intro f i hi k
  have h3 : bz_pc (ps v) (i + 1) ≤ 3 := Nat.le_trans (bz_pc_mono _ (by omega)) (hP v hv).2.1
  refine br_f (nI_ge hi (by omega)) ⟨vp_in_nI hv (by decide), ?_⟩
  by_cases c : bt (ps v) i = true
  · exact br_t (bz_p1 hv (by omega) c) (nm_r (bz_rws x (by omega) c h3) (nm_r (bz_pcs c) (nm_r (nI_1 i) k)))
  · refine br_f (bz_p0 hv (by omega) c) (nm_r (nI_1 i) ?_)
    show wX_rowFor_8 post (nI v) x (nI n) os oo ps en f (nI (bz_row (ps v) x i)) (nI (bz_pc (ps v) i)) (nI (i + 1))
    rw [bz_rwf (x := x) c, bz_pcf c]
    exact k
theorem bz_xwt {n : Nat} {os oo : Int32} {ps en : Nat → Int32} (hP : bz_P n ps) (hn : n ≤ 7) (x : Int32) (post : Int32 → Prop) (h : post (bz_wt ps en x n)) : wpX_weightOf post (nI n, os, oo, ps, en) x := by
  refine bz_lpF (fun f i (a : Int32) => wX_weightOf_4 post x (nI n) os oo ps en f a i) (fun i => bz_wt ps en x i) n (fun f => br_t (nI_le (Nat.le_refl n) (by omega)) h) ?_
  intro f i hi k
  have h7 := bz_ix_lt hP (by omega : i < 7) x
  exact br_f (nI_ge hi (by omega)) (bz_xrow hP (by omega) x _ (bz_xplace _ (bz_eX ps x (by omega)) ⟨vp_in_nI h7 (by decide), nm_r (bz_wtc h7) (nm_r (nI_1 i) k)⟩))
def bz_W (ps en : Nat → Int32) (n k : Nat) : Int32 := bz_wt ps en (nI k) n
theorem bz_xsum {n : Nat} {os oo : Int32} {ps en : Nat → Int32} (hP : bz_P n ps) (hn : n ≤ 7) (fx o : Int32) (post : Int64 → Prop) (h : post (bz_sum (bz_cx os oo fx o) (bz_W ps en n) (2 ^ n))) : wpX_sumWhere post (nI n, os, oo, ps, en) fx o := by
  have h27 := bz_pow hn
  refine nm_r (bz_p2 n (by omega)) ?_
  refine bz_lpF (fun f i (a : Int64) => wX_sumWhere_13 post fx o (nI (2 ^ n)) (nI n) os oo ps en f a i) (fun i => bz_sum (bz_cx os oo fx o) (bz_W ps en n) i) (2 ^ n) (fun f => br_t (nI_le (Nat.le_refl _) (by omega)) h) ?_
  intro f i hi k
  refine br_f (nI_ge hi (by omega)) ?_
  by_cases a : nI i &&& os = oo
  · refine br_t a (br_f (by decide) ?_)
    by_cases b : nI i &&& fx = o
    · have c : bz_cx os oo fx o i = true := by unfold bz_cx; rw [decide_eq_true a, decide_eq_true b]; rfl
      have e : bz_sum (bz_cx os oo fx o) (bz_W ps en n) i + (bz_wt ps en (nI i) n).toInt64 = bz_sum (bz_cx os oo fx o) (bz_W ps en n) (i + 1) := by rw [bz_sum_s, if_pos c]; rfl
      exact br_t b (bz_xwt hP hn (nI i) _ (nm_r e (nm_r (nI_1 i) k)))
    · have c : bz_cx os oo fx o i = false := by unfold bz_cx; rw [decide_eq_false b, Bool.and_false]
      have e : bz_sum (bz_cx os oo fx o) (bz_W ps en n) (i + 1) = bz_sum (bz_cx os oo fx o) (bz_W ps en n) i := by rw [bz_sum_s, c, if_neg Bool.false_ne_true]
      exact br_f b (nm_r (nI_1 i) (bz_tr (P := fun z => wX_sumWhere_13 post fx o (nI (2 ^ n)) (nI n) os oo ps en f z (nI (i + 1))) e k))
  · have c : bz_cx os oo fx o i = false := by unfold bz_cx; rw [decide_eq_false a, Bool.false_and]
    have e : bz_sum (bz_cx os oo fx o) (bz_W ps en n) (i + 1) = bz_sum (bz_cx os oo fx o) (bz_W ps en n) i := by rw [bz_sum_s, c, if_neg Bool.false_ne_true]
    exact br_f a (br_t rfl (nm_r (nI_1 i) (bz_tr (P := fun z => wX_sumWhere_13 post fx o (nI (2 ^ n)) (nI n) os oo ps en f z (nI (i + 1))) e k)))
theorem bz_xmax {n : Nat} {os oo : Int32} {ps en : Nat → Int32} (hP : bz_P n ps) (hn : n ≤ 7) (fx o : Int32) (post : Int32 → Prop) (h : post (bz_max (bz_cx os oo fx o) (bz_W ps en n) (2 ^ n))) : wpX_greatestWhere post (nI n, os, oo, ps, en) fx o := by
  have h27 := bz_pow hn
  refine nm_r (bz_p2 n (by omega)) ?_
  refine bz_lpF (fun f i (a : Int32) => wX_greatestWhere_13 post fx o (nI (2 ^ n)) (nI n) os oo ps en f a i) (fun i => bz_max (bz_cx os oo fx o) (bz_W ps en n) i) (2 ^ n) (fun f => br_t (nI_le (Nat.le_refl _) (by omega)) h) ?_
  intro f i hi k
  refine br_f (nI_ge hi (by omega)) ?_
  by_cases a : nI i &&& os = oo
  · refine br_t a (br_f (by decide) ?_)
    by_cases b : nI i &&& fx = o
    · have c : bz_cx os oo fx o i = true := by unfold bz_cx; rw [decide_eq_true a, decide_eq_true b]; rfl
      refine br_t b (bz_xwt hP hn (nI i) _ ?_)
      by_cases l : bz_max (bz_cx os oo fx o) (bz_W ps en n) i < bz_W ps en n i
      · have e : bz_max (bz_cx os oo fx o) (bz_W ps en n) (i + 1) = bz_W ps en n i := by rw [bz_max_s, if_pos c, if_pos l]
        exact br_f (Int32.not_le.mpr l) (nm_r (nI_1 i) (bz_tr (P := fun z => wX_greatestWhere_13 post fx o (nI (2 ^ n)) (nI n) os oo ps en f z (nI (i + 1))) e k))
      · have e : bz_max (bz_cx os oo fx o) (bz_W ps en n) (i + 1) = bz_max (bz_cx os oo fx o) (bz_W ps en n) i := by rw [bz_max_s, if_pos c, if_neg l]
        exact br_t (Int32.not_lt.mp l) (nm_r (nI_1 i) (bz_tr (P := fun z => wX_greatestWhere_13 post fx o (nI (2 ^ n)) (nI n) os oo ps en f z (nI (i + 1))) e k))
    · have c : bz_cx os oo fx o i = false := by unfold bz_cx; rw [decide_eq_false b, Bool.and_false]
      have e : bz_max (bz_cx os oo fx o) (bz_W ps en n) (i + 1) = bz_max (bz_cx os oo fx o) (bz_W ps en n) i := by rw [bz_max_s, c, if_neg Bool.false_ne_true]
      exact br_f b (nm_r (nI_1 i) (bz_tr (P := fun z => wX_greatestWhere_13 post fx o (nI (2 ^ n)) (nI n) os oo ps en f z (nI (i + 1))) e k))
  · have c : bz_cx os oo fx o i = false := by unfold bz_cx; rw [decide_eq_false a, Bool.false_and]
    have e : bz_max (bz_cx os oo fx o) (bz_W ps en n) (i + 1) = bz_max (bz_cx os oo fx o) (bz_W ps en n) i := by rw [bz_max_s, c, if_neg Bool.false_ne_true]
    exact br_f a (br_t rfl (nm_r (nI_1 i) (bz_tr (P := fun z => wX_greatestWhere_13 post fx o (nI (2 ^ n)) (nI n) os oo ps en f z (nI (i + 1))) e k)))
theorem bz_xfind {n : Nat} {os oo : Int32} {ps en : Nat → Int32} (hP : bz_P n ps) (hn : n ≤ 7) (g : Int32) (post : Int32 → Prop) {q : Nat} (hq : q < 2 ^ n) (ha : nI q &&& os = oo) (hw : bz_W ps en n q = g) (hl : ∀ j, j < q → ¬ (nI j &&& os = oo ∧ bz_W ps en n j = g)) (h : post (nI q)) : ∃ f, wX_bestNumber_16 post g (nI (2 ^ n)) (nI n) os oo ps en f 0 := by
  have h27 := bz_pow hn
  have key : ∀ d i, i + d = q → wX_bestNumber_16 post g (nI (2 ^ n)) (nI n) os oo ps en (d + 1) (nI i) := by
    intro d
    induction d with
    | zero =>
      intro i hi
      have hi2 : i = q := by omega
      subst hi2
      exact br_f (nI_ge hq (by omega)) (br_t ha (br_f (by decide) (bz_xwt hP hn (nI i) _ (br_t hw h))))
    | succ d ih =>
      intro i hi
      refine br_f (nI_ge (by omega) (by omega)) ?_
      have k := ih (i + 1) (by omega)
      by_cases a : nI i &&& os = oo
      · exact br_t a (br_f (by decide) (bz_xwt hP hn (nI i) _ (br_f (fun z => hl i (by omega) ⟨a, z⟩) (nm_r (nI_1 i) k))))
      · exact br_f a (br_t rfl (nm_r (nI_1 i) k))
  exact ⟨q + 1, key q 0 (by omega)⟩
theorem bz_nm1 : ∀ n, n < 8 → nI n - 1 = nI n + (-1) := by decide +kernel
theorem bz_xan {n : Nat} {os oo : Int32} {ps en : Nat → Int32} (hn : n ≤ 7) (s : Int32) (post : Int32 → Prop) (h : post (bz_an ps n s)) : wpX_withAncestors post (nI n, os, oo, ps, en) s := by
  have key : ∀ m, m ≤ 7 → ∀ s, post (bz_an ps m s) → wX_withAncestors_9 post (nI n) os oo ps en (m + 1) s (nI m + (-1)) := by
    intro m
    induction m with
    | zero =>
      intro _ s h
      exact br_t (by decide) h
    | succ m ih =>
      intro hm s h
      rw [pk_m1]
      rw [bz_an_s] at h
      refine br_f (nI_pos (by omega)) ?_
      by_cases c : bt s m = true
      · rw [if_pos c] at h
        exact br_t (bz_q1 (by omega) c) ⟨vp_in_nI (by omega) (by decide), nm_r (by rw [nI_clamp (by omega)]) (nm_e (ih (by omega) _ h))⟩
      · rw [if_neg c] at h
        exact br_f (bz_q0 (by omega) c) (nm_e (ih (by omega) _ h))
  exact nm_r (bz_nm1 n (by omega)) ⟨n + 1, key n hn s h⟩
theorem bz_xlk {n : Nat} {os oo : Int32} {ps en : Nat → Int32} (hn : n ≤ 7) (S M : Int32) (post : Int32 → Prop) (h : post (bz_lk ps S M n)) : wpX_linkedTo post (nI n, os, oo, ps, en) S M := by
  refine bz_lpF (fun f i (a : Int32) => wX_linkedTo_5 post S M (nI n) os oo ps en f a i) (fun i => bz_lk ps S M i) n (fun f => br_t (nI_le (Nat.le_refl _) (by omega)) h) ?_
  intro f i hi k
  have e0 : (ps (nI i).toNatClampNeg) ||| ((1 : Int32) <<< (nI i &&& 31)) = bz_fm ps i := by rw [nI_clamp (by omega)]; rfl
  refine br_f (nI_ge hi (by omega)) ⟨vp_in_nI (by omega) (by decide), nm_r e0 ?_⟩
  by_cases c : bt M i = true
  · refine br_t (bz_q1 (by omega) c) ?_
    by_cases d : bz_fm ps i &&& S = 0
    · have e : bz_lk ps S M (i + 1) = bz_lk ps S M i := by rw [bz_lk_s, if_neg (fun z : bt M i = true ∧ ¬ (bz_fm ps i &&& S = 0) => z.2 d)]
      exact br_t d (nm_r (nI_1 i) (bz_tr (P := fun z => wX_linkedTo_5 post S M (nI n) os oo ps en f z (nI (i + 1))) e k))
    · have e : bz_lk ps S M i ||| bz_fm ps i = bz_lk ps S M (i + 1) := by rw [bz_lk_s, if_pos (⟨c, d⟩ : bt M i = true ∧ ¬ (bz_fm ps i &&& S = 0))]
      exact br_f d (nm_r e (nm_r (nI_1 i) k))
  · have e : bz_lk ps S M (i + 1) = bz_lk ps S M i := by rw [bz_lk_s, if_neg (fun z : bt M i = true ∧ ¬ (bz_fm ps i &&& S = 0) => c z.1)]
    exact br_f (bz_q0 (by omega) c) (nm_r (nI_1 i) (bz_tr (P := fun z => wX_linkedTo_5 post S M (nI n) os oo ps en f z (nI (i + 1))) e k))
theorem bz_xfill {n : Nat} {os oo : Int32} {ps en : Nat → Int32} {c0 : Int32} {v : Nat} (hv : v < 7) (post : SX → Prop) (h : post (c0, os, oo, ps, bz_fl en (16 * v) 16)) : wpX_fillTableWithOnes post (c0, os, oo, ps, en) (nI v) := by
  have e0 : nI v * 16 = nI (16 * v) := by
    show nI v * nI 16 = _
    rw [pk_mul, Nat.mul_comm]
  refine nm_r e0 ?_
  have key := bz_lpF (fun f i (a : Nat → Int32) => wX_fillTableWithOnes_7 post (nI (16 * v)) c0 os oo f i ps a) (fun i => bz_fl en (16 * v) i) 16 (fun f => br_t (nI_le (a := 16) (b := 16) (by decide) (by decide)) h) (by
    intro f i hi k
    have e1 : nI (16 * v) + nI i = nI (16 * v + i) := nI_add _ _
    refine br_f (nI_ge (b := 16) hi (by decide)) ?_
    rw [e1]
    exact ⟨vp_in_nI (by omega) (by decide), nm_r (by rw [nI_clamp (by omega), bz_fls]) (nm_r (nI_1 i) k)⟩)
  rw [bz_fl0] at key
  exact key
theorem bz_xgood {n : Nat} {os oo : Int32} {ps en : Nat → Int32} {v : Nat} (hn : n ≤ 7) (hv : v < n) (Q : Int32 → Prop) (h : Q 1) : wpX_isGood Q (nI n, os, oo, ps, en) (nI v) :=
  br_f (nI_pos (by omega)) (br_f (nI_ge hv (by omega)) h)
theorem bz_xbad {n : Nat} {os oo : Int32} {ps en : Nat → Int32} {x : Int32} (hx : x < 0 ∨ nI n ≤ x) (Q : Int32 → Prop) (h : Q 0) : wpX_isGood Q (nI n, os, oo, ps, en) x := by
  by_cases c : x < 0
  · exact br_t c h
  · rcases hx with z | z
    · exact absurd z c
    · exact br_f c (br_t z h)
theorem bz_xval (B : Bool) (Q : Int32 → Prop) (h : Q 1) : wpX_isValue Q (bz_sv B) := by
  cases B
  · exact br_t rfl h
  · exact br_f (by decide) (br_t rfl h)
theorem bz_xnval {x : Int32} (h0 : ¬ x = 0) (h1 : ¬ x = 1) (Q : Int32 → Prop) (h : Q 0) : wpX_isValue Q x := br_f h0 (br_f h1 h)
end
section
/-! the reference's walks against the pure rows -/
theorem bz_ysz {n : Nat} {ps en se ls : Nat → Int32} (s : Int32) (post : Int32 → Prop) (h : post (nI (bz_pc s 7))) : wpY_size post (nI n, ps, en, se, ls) s :=
  bz_lpF (fun f i (a : Int32) => wY_size_4 post s (nI n) ps en se ls f a i) (fun i => nI (bz_pc s i)) 7
    (fun f => br_t (nI_le (a := 7) (b := 7) (by decide) (by decide)) h)
    (fun f i hi k => br_f (nI_ge (b := 7) hi (by decide)) (nm_r (bz_szs s (by omega)) (nm_r (nI_1 i) k)))
theorem bz_yrow {n : Nat} {ps en se ls : Nat → Int32} (hP : bz_P n ps) {v : Nat} (hv : v < 7) (x : Int32) (post : Int32 → Prop) (h : post (nI (bz_row (ps v) x v))) : wpY_row post (nI n, ps, en, se, ls) (nI v) x := by
  refine bz_lpF (fun f i (a : Int32 × Int32) => wY_row_8 post (nI v) x (nI n) ps en se ls f a.1 a.2 i) (fun i => (nI (bz_row (ps v) x i), nI (bz_pc (ps v) i))) v (fun f => br_t (nI_le (Nat.le_refl v) (by omega)) h) ?_
  intro f i hi k
  have h3 : bz_pc (ps v) (i + 1) ≤ 3 := Nat.le_trans (bz_pc_mono _ (by omega)) (hP v hv).2.1
  refine br_f (nI_ge hi (by omega)) ⟨vp_in_nI hv (by decide), ?_⟩
  by_cases c : bt (ps v) i = true
  · exact br_t (bz_p1 hv (by omega) c) (nm_r (bz_rws x (by omega) c h3) (nm_r (bz_pcs c) (nm_r (nI_1 i) k)))
  · refine br_f (bz_p0 hv (by omega) c) (nm_r (nI_1 i) ?_)
    show wY_row_8 post (nI v) x (nI n) ps en se ls f (nI (bz_row (ps v) x i)) (nI (bz_pc (ps v) i)) (nI (i + 1))
    rw [bz_rwf (x := x) c, bz_pcf c]
    exact k
theorem bz_ywt {n : Nat} {ps en se ls : Nat → Int32} (hP : bz_P n ps) (hn : n ≤ 7) (x : Int32) (post : Int32 → Prop) (h : post (bz_wt ps en x n)) : wpY_worth post (nI n, ps, en, se, ls) x := by
  refine bz_lpF (fun f i (a : Int32) => wY_worth_4 post x (nI n) ps en se ls f a i) (fun i => bz_wt ps en x i) n (fun f => br_t (nI_le (Nat.le_refl n) (by omega)) h) ?_
  intro f i hi k
  have h7 := bz_ix_lt hP (by omega : i < 7) x
  refine br_f (nI_ge hi (by omega)) (br_f (nI_ge (b := 7) (by omega) (by decide)) (bz_yrow hP (by omega) x _ ?_))
  rw [bz_eY ps x (by omega)]
  exact ⟨vp_in_nI h7 (by decide), nm_r (bz_wtc h7) (nm_r (nI_1 i) k)⟩
theorem bz_yag {n : Nat} {os oo : Int32} {ps en se ls : Nat → Int32} (hO : bz_O n os oo se) (hn : n ≤ 7) (x : Int32) (post : Int32 → Prop) (h1 : x &&& os = oo → post 1) (h0 : ¬ x &&& os = oo → post 0) : wpY_agrees post (nI n, ps, en, se, ls) x := by
  have key : ∀ d i, i + d = n → (∀ v, v < i → bt os v = true → bt x v = bt oo v) → wY_agrees_2 post x (nI n) ps en se ls (d + 1) (nI i) := by
    intro d
    induction d with
    | zero =>
      intro i hi hv
      have hi2 : i = n := by omega
      subst hi2
      exact br_t (nI_le (Nat.le_refl _) (by omega)) (h1 (bz_ag_t hO hv))
    | succ d ih =>
      intro i hi hv
      have hs := hO.2.2 i (by omega)
      refine br_f (nI_ge (by omega) (by omega)) (br_f (nI_ge (b := 7) (by omega) (by decide)) ⟨vp_in_nI (by omega) (by decide), ?_⟩)
      rw [nI_clamp (by omega), hs, bz_tst x (by omega)]
      by_cases c : bt os i = true
      · rw [if_pos c]
        refine br_f (by cases bt oo i <;> decide) ⟨vp_in_nI (by omega) (by decide), ?_⟩
        by_cases e : bt x i = bt oo i
        · refine br_t (by rw [e]) (nm_r (nI_1 i) (ih (i + 1) (by omega) ?_))
          intro v hvi hov
          by_cases z : v = i
          · rw [z]; exact e
          · exact hv v (by omega) hov
        · exact br_f (fun z => e (bz_svi.mp z)) (h0 (bz_ag_f c e))
      · rw [if_neg c]
        refine br_t (by decide) (nm_r (nI_1 i) (ih (i + 1) (by omega) ?_))
        intro v hvi hov
        by_cases z : v = i
        · rw [z] at hov; exact absurd hov c
        · exact hv v (by omega) hov
  exact ⟨n + 1, key n 0 (by omega) (fun v hv => by omega)⟩
theorem bz_ysum {n : Nat} {os oo : Int32} {ps en se ls : Nat → Int32} (hP : bz_P n ps) (hO : bz_O n os oo se) (hn : n ≤ 7) {u v : Nat} (hu : u < 32) (hv : v < 32) (A B : Bool) (post : Int64 → Prop) (h : post (bz_sum (bz_cd os oo u A v B) (bz_W ps en n) (2 ^ n))) : wpY_sum post (nI n, ps, en, se, ls) (nI u) (bz_sv A) (nI v) (bz_sv B) := by
  have h27 := bz_pow hn
  have hp2 := bz_p2 n (by omega)
  refine bz_lpF (fun f i (a : Int64) => wY_sum_6 post (nI u) (bz_sv A) (nI v) (bz_sv B) (nI n) ps en se ls f a i) (fun i => bz_sum (bz_cd os oo u A v B) (bz_W ps en n) i) (2 ^ n) (fun f => br_t (by rw [hp2]; exact nI_le (Nat.le_refl _) (by omega)) h) ?_
  intro f i hi k
  refine br_f (by rw [hp2]; exact nI_ge hi (by omega)) ?_
  rw [bz_tst (nI i) hu, bz_tst (nI i) hv]
  have no : bz_cd os oo u A v B i = false → wY_sum_6 post (nI u) (bz_sv A) (nI v) (bz_sv B) (nI n) ps en se ls f (bz_sum (bz_cd os oo u A v B) (bz_W ps en n) i) (nI (i + 1)) := by
    intro c
    have e : bz_sum (bz_cd os oo u A v B) (bz_W ps en n) (i + 1) = bz_sum (bz_cd os oo u A v B) (bz_W ps en n) i := by rw [bz_sum_s, c, if_neg Bool.false_ne_true]
    exact bz_tr (P := fun z => wY_sum_6 post (nI u) (bz_sv A) (nI v) (bz_sv B) (nI n) ps en se ls f z (nI (i + 1))) e k
  by_cases a : bt (nI i) u = A
  · refine br_t (by rw [a]) ?_
    by_cases b : bt (nI i) v = B
    · refine br_t (by rw [b]) (bz_yag hO hn (nI i) _ ?_ ?_)
      · intro g
        have c : bz_cd os oo u A v B i = true := by unfold bz_cd; rw [decide_eq_true a, decide_eq_true b, decide_eq_true g]; rfl
        have e : bz_sum (bz_cd os oo u A v B) (bz_W ps en n) i + (bz_wt ps en (nI i) n).toInt64 = bz_sum (bz_cd os oo u A v B) (bz_W ps en n) (i + 1) := by rw [bz_sum_s, if_pos c]; rfl
        exact br_f (by decide) (bz_ywt hP hn (nI i) _ (nm_r e (nm_r (nI_1 i) k)))
      · intro g
        exact br_t rfl (nm_r (nI_1 i) (no (by unfold bz_cd; rw [decide_eq_false g, Bool.and_false])))
    · exact br_f (fun z => b (bz_svi.mp z)) (nm_r (nI_1 i) (no (by unfold bz_cd; rw [decide_eq_false b, Bool.and_false, Bool.false_and])))
  · exact br_f (fun z => a (bz_svi.mp z)) (nm_r (nI_1 i) (no (by unfold bz_cd; rw [decide_eq_false a, Bool.false_and, Bool.false_and])))
theorem bz_ysum1 {n : Nat} {os oo : Int32} {ps en se ls : Nat → Int32} (hP : bz_P n ps) (hO : bz_O n os oo se) (hn : n ≤ 7) {v : Nat} (hv : v < 32) (B : Bool) (post : Int64 → Prop) (h : post (bz_sum (bz_cm os oo v B) (bz_W ps en n) (2 ^ n))) : wpY_sum post (nI n, ps, en, se, ls) (nI v) (bz_sv B) (nI v) (bz_sv B) :=
  bz_ysum hP hO hn hv hv B B post (by rw [bz_sum_c (bz_cdm os oo v B)]; exact h)
theorem bz_ymost {n : Nat} {os oo : Int32} {ps en se ls : Nat → Int32} (hP : bz_P n ps) (hO : bz_O n os oo se) (hn : n ≤ 7) {v : Nat} (hv : v < 32) (B : Bool) (post : Int32 → Prop) (h : post (bz_max (bz_cm os oo v B) (bz_W ps en n) (2 ^ n))) : wpY_most post (nI n, ps, en, se, ls) (nI v) (bz_sv B) := by
  have h27 := bz_pow hn
  have hp2 := bz_p2 n (by omega)
  refine bz_lpF (fun f i (a : Int32) => wY_most_5 post (nI v) (bz_sv B) (nI n) ps en se ls f a i) (fun i => bz_max (bz_cm os oo v B) (bz_W ps en n) i) (2 ^ n) (fun f => br_t (by rw [hp2]; exact nI_le (Nat.le_refl _) (by omega)) h) ?_
  intro f i hi k
  refine br_f (by rw [hp2]; exact nI_ge hi (by omega)) ?_
  rw [bz_tst (nI i) hv]
  have no : bz_max (bz_cm os oo v B) (bz_W ps en n) (i + 1) = bz_max (bz_cm os oo v B) (bz_W ps en n) i → wY_most_5 post (nI v) (bz_sv B) (nI n) ps en se ls f (bz_max (bz_cm os oo v B) (bz_W ps en n) i) (nI (i + 1)) :=
    fun e => bz_tr (P := fun z => wY_most_5 post (nI v) (bz_sv B) (nI n) ps en se ls f z (nI (i + 1))) e k
  by_cases b : bt (nI i) v = B
  · refine br_t (by rw [b]) (bz_yag hO hn (nI i) _ ?_ ?_)
    · intro g
      have c : bz_cm os oo v B i = true := by unfold bz_cm; rw [decide_eq_true b, decide_eq_true g]; rfl
      refine br_f (by decide) (bz_ywt hP hn (nI i) _ ?_)
      by_cases l : bz_max (bz_cm os oo v B) (bz_W ps en n) i < bz_W ps en n i
      · have e : bz_max (bz_cm os oo v B) (bz_W ps en n) (i + 1) = bz_W ps en n i := by rw [bz_max_s, if_pos c, if_pos l]
        exact br_f (Int32.not_le.mpr l) (nm_r (nI_1 i) (bz_tr (P := fun z => wY_most_5 post (nI v) (bz_sv B) (nI n) ps en se ls f z (nI (i + 1))) e k))
      · exact br_t (Int32.not_lt.mp l) (nm_r (nI_1 i) (no (by rw [bz_max_s, if_pos c, if_neg l])))
    · intro g
      have c : bz_cm os oo v B i = false := by unfold bz_cm; rw [decide_eq_false g, Bool.and_false]
      exact br_t rfl (nm_r (nI_1 i) (no (by rw [bz_max_s, c, if_neg Bool.false_ne_true])))
  · have c : bz_cm os oo v B i = false := by unfold bz_cm; rw [decide_eq_false b, Bool.false_and]
    exact br_f (fun z => b (bz_svi.mp z)) (nm_r (nI_1 i) (no (by rw [bz_max_s, c, if_neg Bool.false_ne_true])))
theorem bz_ybest {n : Nat} {os oo : Int32} {ps en se ls : Nat → Int32} (hP : bz_P n ps) (hO : bz_O n os oo se) (hn : n ≤ 7) (post : Int32 → Prop) (h : post (bz_max (bz_cx os oo 0 0) (bz_W ps en n) (2 ^ n))) : wpY_greatest post (nI n, ps, en, se, ls) := by
  rw [← bz_top] at h
  refine bz_ymost hP hO hn (v := 0) (by decide) false _ (bz_ymost hP hO hn (v := 0) (by decide) true _ ?_)
  by_cases l : bz_max (bz_cm os oo 0 true) (bz_W ps en n) (2 ^ n) < bz_max (bz_cm os oo 0 false) (bz_W ps en n) (2 ^ n)
  · rw [if_pos l] at h
    exact br_f (Int32.not_le.mpr l) h
  · rw [if_neg l] at h
    exact br_t (Int32.not_lt.mp l) h
theorem bz_yfind {n : Nat} {os oo : Int32} {ps en se ls : Nat → Int32} (hP : bz_P n ps) (hO : bz_O n os oo se) (hn : n ≤ 7) (g : Int32) (post : Int32 → Prop) {q : Nat} (hq : q < 2 ^ n) (ha : nI q &&& os = oo) (hw : bz_W ps en n q = g) (hl : ∀ j, j < q → ¬ (nI j &&& os = oo ∧ bz_W ps en n j = g)) (h : post (nI q)) : ∃ f, wY_bestNumber_7 post g (nI n) ps en se ls f 0 := by
  have h27 := bz_pow hn
  have hp2 := bz_p2 n (by omega)
  have key : ∀ d i, i + d = q → wY_bestNumber_7 post g (nI n) ps en se ls (d + 1) (nI i) := by
    intro d
    induction d with
    | zero =>
      intro i hi
      have hi2 : i = q := by omega
      subst hi2
      exact br_f (by rw [hp2]; exact nI_ge hq (by omega)) (bz_yag hO hn (nI i) _ (fun _ => br_f (by decide) (bz_ywt hP hn (nI i) _ (br_t hw h))) (fun z => absurd ha z))
    | succ d ih =>
      intro i hi
      refine br_f (by rw [hp2]; exact nI_ge (by omega) (by omega)) ?_
      have k := ih (i + 1) (by omega)
      refine bz_yag hO hn (nI i) _ (fun a => br_f (by decide) (bz_ywt hP hn (nI i) _ (br_f (fun z => hl i (by omega) ⟨a, z⟩) (nm_r (nI_1 i) k)))) (fun a => br_t rfl (nm_r (nI_1 i) k))
  exact ⟨q + 1, key q 0 (by omega)⟩
theorem bz_yan {n : Nat} {ps en se ls : Nat → Int32} (hP : bz_P n ps) (hn : n ≤ 7) (s : Int32) (post : Int32 → Prop) (h : post (bz_an ps n s)) : wpY_closed post (nI n, ps, en, se, ls) s := by
  have key : ∀ m, m ≤ 7 → ∀ s, post (bz_an ps m s) → wY_closed_5 post (nI n) ps en se ls (m + 1) s (nI m + (-1)) := by
    intro m
    induction m with
    | zero =>
      intro _ s h
      exact br_t (by decide) h
    | succ m ih =>
      intro hm s h
      rw [pk_m1]
      rw [bz_an_s] at h
      refine br_f (nI_pos (by omega)) ?_
      by_cases c : bt s m = true
      · rw [if_pos c] at h
        exact br_t (bz_q1 (by omega) c) ⟨vp_in_nI (by omega) (by decide), nm_r (by rw [nI_clamp (by omega)]) (nm_e (ih (by omega) _ h))⟩
      · rw [if_neg c] at h
        exact br_f (bz_q0 (by omega) c) (nm_e (ih (by omega) _ h))
  have e7 := bz_an_7 hP s (7 - n) (by omega)
  rw [show n + (7 - n) = 7 from by omega] at e7
  rw [← e7] at h
  exact ⟨8, key 7 (by decide) s h⟩
theorem bz_ybl {n : Nat} {ps en se ls : Nat → Int32} (hn : n ≤ 7) {v : Nat} (hv : v < n) (post : Int32 → Prop) (h : post (bz_bl ps v n &&& (((1 : Int32) <<< (nI v &&& 31)) ^^^ (-1)))) : ∃ f, wY_blanket_19 post (nI v) (nI n) ps en se ls f (ps v) 0 := by
  refine bz_lpF (fun f i (a : Int32) => wY_blanket_19 post (nI v) (nI n) ps en se ls f a i) (fun i => bz_bl ps v i) n (fun f => br_t (nI_le (Nat.le_refl _) (by omega)) h) ?_
  intro f i hi k
  refine br_f (nI_ge hi (by omega)) (br_f (nI_ge (b := 7) (by omega) (by decide)) ⟨vp_in_nI (by omega) (by decide), ?_⟩)
  by_cases c : bt (ps i) v = true
  · have e : bz_bl ps v i ||| (((1 : Int32) <<< (nI i &&& 31)) ||| ps (nI i).toNatClampNeg) = bz_bl ps v (i + 1) := by rw [nI_clamp (by omega), bz_bl_s, if_pos c]
    exact br_t (bz_p1 (by omega) (by omega) c) ⟨vp_in_nI (by omega) (by decide), nm_r e (nm_r (nI_1 i) k)⟩
  · have e : bz_bl ps v (i + 1) = bz_bl ps v i := by rw [bz_bl_s, if_neg c]
    exact br_f (bz_p0 (by omega) (by omega) c) (nm_r (nI_1 i) (bz_tr (P := fun z => wY_blanket_19 post (nI v) (nI n) ps en se ls f z (nI (i + 1))) e k))
theorem bz_ydr1 {n : Nat} {ps en se L : Nat → Int32} (fm : Int32) (post : SY → Prop) (J : Int32 → (Nat → Int32) → (Nat → Int32) → (Nat → Int32) → (Nat → Int32) → Prop) (x1 : Int32) (w : Nat) (h : J (nI (w + 1)) ps en se (bz_d1 fm L 7)) : ∃ f, wY_draw_52 post J x1 (nI w) fm (nI n) f 0 ps en se L := by
  have key := bz_lpF (fun f i (a : Nat → Int32) => wY_draw_52 post J x1 (nI w) fm (nI n) f i ps en se a) (fun i => bz_d1 fm L i) 7 (fun f => br_t (nI_le (a := 7) (b := 7) (by decide) (by decide)) (nm_r (nI_1 w) h)) (by
    intro f i hi k
    refine br_f (nI_ge (b := 7) hi (by decide)) ?_
    by_cases c : bt fm i = true
    · exact br_t (bz_q1 (by omega) c) ⟨vp_in_nI (by omega) (by decide), vp_in_nI (by omega) (by decide), nm_r (by rw [nI_clamp (by omega), bz_d1_t c]) (nm_r (nI_1 i) k)⟩
    · exact br_f (bz_q0 (by omega) c) (nm_r (nI_1 i) (bz_tr (P := fun z => wY_draw_52 post J x1 (nI w) fm (nI n) f (nI (i + 1)) ps en se z) (bz_d1_f c).symm k)))
  rw [bz_d1_0] at key
  exact key
theorem bz_ydr {n : Nat} {ps en se ls : Nat → Int32} (M : Int32) (post : SY → Prop) (h : post (nI n, ps, en, se, bz_dr ps M ls 7)) : wpY_draw post (nI n, ps, en, se, ls) M := by
  have k2 : ∃ f, wY_draw_23 post M (nI n) f 0 ps en se (bz_z ls 7) := by
    refine bz_lpF (fun f i (a : Nat → Int32) => wY_draw_23 post M (nI n) f i ps en se a) (fun i => bz_dr ps M ls i) 7 (fun f => br_t (nI_le (a := 7) (b := 7) (by decide) (by decide)) h) ?_
    intro f i hi k
    refine br_f (nI_ge (b := 7) hi (by decide)) ?_
    by_cases c : bt M i = true
    · have e0 : (ps (nI i).toNatClampNeg) ||| ((1 : Int32) <<< (nI i &&& 31)) = bz_fm ps i := by rw [nI_clamp (by omega)]; rfl
      have e : bz_dr ps M ls (i + 1) = bz_d1 (bz_fm ps i) (bz_dr ps M ls i) 7 := by rw [bz_dr_s, if_pos c]
      exact br_t (bz_q1 (by omega) c) ⟨vp_in_nI (by omega) (by decide), nm_r e0 (bz_ydr1 (bz_fm ps i) post _ M i (bz_tr (P := fun z => wY_draw_23 post M (nI n) f (nI (i + 1)) ps en se z) e k))⟩
    · have e : bz_dr ps M ls (i + 1) = bz_dr ps M ls i := by rw [bz_dr_s, if_neg c]
      exact br_f (bz_q0 (by omega) c) (nm_r (nI_1 i) (bz_tr (P := fun z => wY_draw_23 post M (nI n) f (nI (i + 1)) ps en se z) e k))
  have key := bz_lpF (fun f i (a : Nat → Int32) => wY_draw_2 post M (nI n) f i ps en se a) (fun i => bz_z ls i) 7 (fun f => br_t (nI_le (a := 7) (b := 7) (by decide) (by decide)) k2) (by
    intro f i hi k
    exact br_f (nI_ge (b := 7) hi (by decide)) ⟨vp_in_nI (by omega) (by decide), nm_r (by rw [nI_clamp (by omega), bz_zs]) (nm_r (nI_1 i) k)⟩)
  rw [bz_z0] at key
  exact key
theorem bz_ybad {n : Nat} {ps en se ls : Nat → Int32} {x : Int32} (hx : x < 0 ∨ nI n ≤ x) (Q : Int32 → Prop) (h : Q 1) : wpY_bad Q (nI n, ps, en, se, ls) x := by
  by_cases c : x < 0
  · exact br_t c h
  · rcases hx with z | z
    · exact absurd z c
    · exact br_f c (br_t z h)
theorem bz_ygood {n : Nat} {ps en se ls : Nat → Int32} {v : Nat} (hn : n ≤ 7) (hv : v < n) (Q : Int32 → Prop) (h : Q 0) : wpY_bad Q (nI n, ps, en, se, ls) (nI v) :=
  br_f (nI_pos (by omega)) (br_f (nI_ge hv (by omega)) (br_t (nI_le (b := 6) (by omega) (by decide)) h))
theorem bz_yval {n : Nat} {ps en se ls : Nat → Int32} (B : Bool) (Q : Int32 → Prop) (h : Q 0) : wpY_badValue Q (nI n, ps, en, se, ls) (bz_sv B) :=
  br_f (bz_val0 B).1 (br_t (bz_val0 B).2.2.2 h)
theorem bz_ynval {n : Nat} {ps en se ls : Nat → Int32} {x : Int32} (hx : x < 0 ∨ 1 < x) (Q : Int32 → Prop) (h : Q 1) : wpY_badValue Q (nI n, ps, en, se, ls) x := by
  by_cases c : x < 0
  · exact br_t c h
  · rcases hx with z | z
    · exact absurd z c
    · exact br_f c (br_f (Int32.not_le.mpr z) h)
end
section
/-! further walks: rows, stores, pairs -/
theorem bz_gd (x : Int32) {n : Nat} (hn : n ≤ 7) : (x < 0 ∨ nI n ≤ x) ∨ ∃ v, v < n ∧ x = nI v := by
  rcases pk_ix x (n := n) (by omega) with z | z | z
  · exact Or.inl (Or.inl z)
  · exact Or.inl (Or.inr z)
  · exact Or.inr z
theorem bz_ca (a : Nat → Int32) {v : Nat} (hv : v < 112) : a (nI v).toNatClampNeg = a v := by rw [nI_clamp (by omega)]
theorem bz_cu (a : Nat → Int32) {v : Nat} (x : Int32) (hv : v < 112) : upd a (nI v).toNatClampNeg x = upd a v x := by rw [nI_clamp (by omega)]
theorem bz_xrc {n : Nat} {os oo : Int32} {ps en : Nat → Int32} (hP : bz_P n ps) {v : Nat} (hv : v < 7) (Q : Int32 → Prop) (h : Q (nI (2 ^ bz_pc (ps v) 7))) : wpX_rowCount Q (nI n, os, oo, ps, en) (nI v) := by
  refine ⟨vp_in_nI hv (by decide), ?_⟩
  rw [bz_ca ps (by omega)]
  refine bz_xsz _ _ ?_
  rw [bz_p2 _ (by have := bz_pc_le (ps v) 7; omega)]
  exact h
theorem bz_yrc {n : Nat} {ps en se ls : Nat → Int32} (hP : bz_P n ps) {v : Nat} (hv : v < 7) (Q : Int32 → Prop) (h : Q (nI (2 ^ bz_pc (ps v) 7))) : wpY_rows Q (nI n, ps, en, se, ls) (nI v) := by
  refine ⟨vp_in_nI hv (by decide), ?_⟩
  rw [bz_ca ps (by omega)]
  refine bz_ysz _ _ ?_
  rw [bz_p2 _ (by have := bz_pc_le (ps v) 7; omega)]
  exact h
theorem bz_r8 {n : Nat} {ps : Nat → Int32} (hP : bz_P n ps) {v : Nat} (hv : v < 7) : 2 ^ bz_pc (ps v) 7 ≤ 8 := (Nat.pow_le_pow_right (by decide) (hP v hv).2.1 : 2 ^ bz_pc (ps v) 7 ≤ 2 ^ 3)
theorem bz_xov {n : Nat} {os oo : Int32} {ps en : Nat → Int32} {v : Nat} (hv : v < 32) (Q : Int32 → Prop) (h : Q (bz_ov os oo v)) : wpX_observedValue Q (nI n, os, oo, ps, en) (nI v) := by
  unfold bz_ov at h
  show ((os >>> (nI v &&& 31) &&& 1 = 0 → Q 2) ∧ (¬ os >>> (nI v &&& 31) &&& 1 = 0 → Q (oo >>> (nI v &&& 31) &&& 1)))
  rw [bz_tst os hv, bz_tst oo hv]
  by_cases c : bt os v = true
  · rw [if_pos c] at h
    exact br_f (by rw [c]; decide) h
  · rw [if_neg c] at h
    exact br_t (by rw [bz_nt c]; decide) h
theorem bz_ypar {n : Nat} {ps en se ls : Nat → Int32} {v : Nat} (hv : v < 7) (x3 : Int32) (post : Int32 → SY → Prop) (h : post x3 (nI n, ps, bz_fl en (16 * v) 16, se, ls)) : ∃ f, wY_parents_50 post (nI v) x3 (nI n) f 0 ps en se ls := by
  have e0 : 16 * nI v = nI (16 * v) := pk_mul 16 v
  have key := bz_lpF (fun f i (a : Nat → Int32) => wY_parents_50 post (nI v) x3 (nI n) f i ps a se ls) (fun i => bz_fl en (16 * v) i) 16 (fun f => br_t (nI_le (a := 16) (b := 16) (by decide) (by decide)) h) (by
    intro f i hi k
    have e1 : 16 * nI v + nI i = nI (16 * v + i) := by rw [e0, nI_add]
    refine br_f (nI_ge (b := 16) hi (by decide)) ?_
    rw [e1]
    exact ⟨vp_in_nI (by omega) (by decide), nm_r (by rw [nI_clamp (by omega), bz_fls]) (nm_r (nI_1 i) k)⟩)
  rw [bz_fl0] at key
  exact key
theorem bz_pX (v r b : Nat) : nI v * 16 + nI r * 2 + nI b = nI (16 * v + 2 * r + b) := by
  show nI v * nI 16 + nI r * nI 2 + nI b = _
  rw [pk_mul, pk_mul, nI_add, nI_add]
  exact congrArg nI (by omega)
theorem bz_pY (v r b : Nat) : 16 * nI v + 2 * nI r + nI b = nI (16 * v + 2 * r + b) := by
  show nI 16 * nI v + nI 2 * nI r + nI b = _
  rw [pk_mul, pk_mul, nI_add, nI_add]
theorem bz_vT (s r b : Nat) : nI s + 3 * nI r + 5 * nI b + nI r * nI b = nI (s + 3 * r + 5 * b + r * b) := by
  show nI s + nI 3 * nI r + nI 5 * nI b + nI r * nI b = _
  rw [pk_mul, pk_mul, pk_mul, nI_add, nI_add, nI_add]
theorem bz_v10 {a : Nat} (h : a < 1000) : nI a - nI a / 10 * 10 = nI (a % 10) := pk_rem (d := 10) (by omega) (by decide) (by decide)
theorem bz_vR (s r b : Nat) (h : s + 3 * r + 5 * b + r * b < 1000) : (nI s + 3 * nI r + 5 * nI b + nI r * nI b) - (nI s + 3 * nI r + 5 * nI b + nI r * nI b) / 10 * 10 = nI ((s + 3 * r + 5 * b + r * b) % 10) := by
  rw [bz_vT]
  exact bz_v10 h
theorem bz_xsow2 {c0 os oo : Int32} {ps a : Nat → Int32} {v s i : Nat} (hv : v < 7) (hs : s ≤ 9) (hi : i < 8) (x3 : Int32) (post : Int32 → SX → Prop) (J : Int32 → (Nat → Int32) → (Nat → Int32) → Prop)
    (h : J (nI (i + 1)) ps (upd (upd a (16 * v + 2 * i) (nI ((s + 3 * i) % 10))) (16 * v + 2 * i + 1) (nI ((s + 3 * i + 5 + i) % 10)))) : ∃ f, wX_sow_41 post J (nI v) (nI s) x3 (nI i) c0 os oo f 0 ps a := by
  have v0 := bz_vR s i 0 (by omega)
  have v1 := bz_vR s i 1 (by omega)
  rw [show s + 3 * i + 5 * 0 + i * 0 = s + 3 * i from by omega] at v0
  rw [show s + 3 * i + 5 * 1 + i * 1 = s + 3 * i + 5 + i from by omega] at v1
  have e0 : upd a (nI (16 * v + 2 * i + 0)).toNatClampNeg ((nI s + 3 * nI i + 5 * nI 0 + nI i * nI 0) - (nI s + 3 * nI i + 5 * nI 0 + nI i * nI 0) / 10 * 10) = upd a (16 * v + 2 * i) (nI ((s + 3 * i) % 10)) := by
    rw [v0, bz_cu _ _ (by omega)]; rfl
  have e1 : upd (upd a (16 * v + 2 * i) (nI ((s + 3 * i) % 10))) (nI (16 * v + 2 * i + 1)).toNatClampNeg ((nI s + 3 * nI i + 5 * nI 1 + nI i * nI 1) - (nI s + 3 * nI i + 5 * nI 1 + nI i * nI 1) / 10 * 10) = upd (upd a (16 * v + 2 * i) (nI ((s + 3 * i) % 10))) (16 * v + 2 * i + 1) (nI ((s + 3 * i + 5 + i) % 10)) := by
    rw [v1, bz_cu _ _ (by omega)]
  have k2 : wX_sow_41 post J (nI v) (nI s) x3 (nI i) c0 os oo 1 (nI 2) ps (upd (upd a (16 * v + 2 * i) (nI ((s + 3 * i) % 10))) (16 * v + 2 * i + 1) (nI ((s + 3 * i + 5 + i) % 10))) := br_t (by decide) (nm_r (nI_1 i) h)
  have k1 : wX_sow_41 post J (nI v) (nI s) x3 (nI i) c0 os oo 2 (nI 1) ps (upd a (16 * v + 2 * i) (nI ((s + 3 * i) % 10))) := br_f (by decide) (bz_xplace _ (bz_pX v i 1) ⟨by decide, vp_in_nI (by omega) (by decide), nm_r e1 (nm_r (nI_1 1) k2)⟩)
  have k0 : wX_sow_41 post J (nI v) (nI s) x3 (nI i) c0 os oo 3 (nI 0) ps a := br_f (by decide) (bz_xplace _ (bz_pX v i 0) ⟨by decide, vp_in_nI (by omega) (by decide), nm_r e0 (nm_r (nI_1 0) k1)⟩)
  exact ⟨3, k0⟩
theorem bz_xsow {c0 os oo : Int32} {ps en : Nat → Int32} {v s m : Nat} (hv : v < 7) (hs : s ≤ 9) (hm : m ≤ 8) (post : Int32 → SX → Prop) (h : post (2 * nI m) (c0, os, oo, ps, bz_sw en v s m)) : ∃ f, wX_sow_32 post (nI v) (nI s) (nI m) c0 os oo f 0 ps en :=
  bz_lpF (fun f i (a : Nat → Int32) => wX_sow_32 post (nI v) (nI s) (nI m) c0 os oo f i ps a) (fun i => bz_sw en v s i) m (fun f => br_t (nI_le (Nat.le_refl _) (by omega)) h)
    (fun f i hi k => br_f (nI_ge hi (by omega)) (bz_xsow2 hv hs (by omega) (nI m) post _ k))
theorem bz_ysow2 {c0 : Int32} {ps a se ls : Nat → Int32} {v s i : Nat} (hv : v < 7) (hs : s ≤ 9) (hi : i < 8) (x3 : Int32) (post : Int32 → SY → Prop) (J : Int32 → (Nat → Int32) → (Nat → Int32) → (Nat → Int32) → (Nat → Int32) → Prop)
    (h : J (nI (i + 1)) ps (upd (upd a (16 * v + 2 * i) (nI ((s + 3 * i) % 10))) (16 * v + 2 * i + 1) (nI ((s + 3 * i + 5 + i) % 10))) se ls) : ∃ f, wY_sow_41 post J (nI v) (nI s) x3 (nI i) c0 f 0 ps a se ls := by
  have v0 := bz_vR s i 0 (by omega)
  have v1 := bz_vR s i 1 (by omega)
  rw [show s + 3 * i + 5 * 0 + i * 0 = s + 3 * i from by omega] at v0
  rw [show s + 3 * i + 5 * 1 + i * 1 = s + 3 * i + 5 + i from by omega] at v1
  have p0 := bz_pY v i 0
  have p1 := bz_pY v i 1
  have i0 : vp_in (16 * nI v + 2 * nI i + nI 0) 112 := by rw [p0]; exact vp_in_nI (by omega) (by decide)
  have i1 : vp_in (16 * nI v + 2 * nI i + nI 1) 112 := by rw [p1]; exact vp_in_nI (by omega) (by decide)
  have e0 : upd a (16 * nI v + 2 * nI i + nI 0).toNatClampNeg ((nI s + 3 * nI i + 5 * nI 0 + nI i * nI 0) - (nI s + 3 * nI i + 5 * nI 0 + nI i * nI 0) / 10 * 10) = upd a (16 * v + 2 * i) (nI ((s + 3 * i) % 10)) := by
    rw [v0, p0, bz_cu _ _ (by omega)]; rfl
  have e1 : upd (upd a (16 * v + 2 * i) (nI ((s + 3 * i) % 10))) (16 * nI v + 2 * nI i + nI 1).toNatClampNeg ((nI s + 3 * nI i + 5 * nI 1 + nI i * nI 1) - (nI s + 3 * nI i + 5 * nI 1 + nI i * nI 1) / 10 * 10) = upd (upd a (16 * v + 2 * i) (nI ((s + 3 * i) % 10))) (16 * v + 2 * i + 1) (nI ((s + 3 * i + 5 + i) % 10)) := by
    rw [v1, p1, bz_cu _ _ (by omega)]
  have k2 : wY_sow_41 post J (nI v) (nI s) x3 (nI i) c0 1 (nI 2) ps (upd (upd a (16 * v + 2 * i) (nI ((s + 3 * i) % 10))) (16 * v + 2 * i + 1) (nI ((s + 3 * i + 5 + i) % 10))) se ls := br_t (by decide) (nm_r (nI_1 i) h)
  have k1 : wY_sow_41 post J (nI v) (nI s) x3 (nI i) c0 2 (nI 1) ps (upd a (16 * v + 2 * i) (nI ((s + 3 * i) % 10))) se ls := br_f (by decide) ⟨by decide, i1, nm_r e1 (nm_r (nI_1 1) k2)⟩
  have k0 : wY_sow_41 post J (nI v) (nI s) x3 (nI i) c0 3 (nI 0) ps a se ls := br_f (by decide) ⟨by decide, i0, nm_r e0 (nm_r (nI_1 0) k1)⟩
  exact ⟨3, k0⟩
theorem bz_ysow {c0 : Int32} {ps en se ls : Nat → Int32} {v s m : Nat} (hv : v < 7) (hs : s ≤ 9) (hm : m ≤ 8) (post : Int32 → SY → Prop) (h : post (2 * nI m) (c0, ps, bz_sw en v s m, se, ls)) : ∃ f, wY_sow_32 post (nI v) (nI s) (nI m) c0 f 0 ps en se ls :=
  bz_lpF (fun f i (a : Nat → Int32) => wY_sow_32 post (nI v) (nI s) (nI m) c0 f i ps a se ls) (fun i => bz_sw en v s i) m (fun f => br_t (nI_le (Nat.le_refl _) (by omega)) h)
    (fun f i hi k => br_f (nI_ge hi (by omega)) (bz_ysow2 hv hs (by omega) (nI m) post _ k))
theorem bz_xwith {n : Nat} {os oo : Int32} {ps en : Nat → Int32} (hP : bz_P n ps) (hn : n ≤ 7) {v : Nat} (hv : v < n) (B : Bool) (post : Int64 → Prop) (h : post (bz_sum (bz_cm os oo v B) (bz_W ps en n) (2 ^ n))) : wpX_totalWith post (nI n, os, oo, ps, en) (nI v) (bz_sv B) := by
  unfold wpX_totalWith
  dsimp only
  refine bz_xgood hn hv _ (br_f (by decide) ?_)
  refine bz_xval B _ (br_f (by decide) ?_)
  refine bz_xsum hP hn _ _ _ ?_
  rw [bz_sum_c (bz_cx1 os oo (by omega) B)]
  exact h
theorem bz_xpair {n : Nat} {os oo : Int32} {ps en : Nat → Int32} (hP : bz_P n ps) (hn : n ≤ 7) {u v : Nat} (hu : u < n) (hv : v < n) (A B : Bool) (post : Int64 → Prop) (h : post (bz_sum (bz_cd os oo u A v B) (bz_W ps en n) (2 ^ n))) : wpX_totalPair post (nI n, os, oo, ps, en) (nI u) (bz_sv A) (nI v) (bz_sv B) := by
  unfold wpX_totalPair
  dsimp only
  refine bz_xgood hn hu _ (br_f (by decide) ?_)
  refine bz_xgood hn hv _ (br_f (by decide) ?_)
  refine bz_xval A _ (br_f (by decide) ?_)
  refine bz_xval B _ (br_f (by decide) ?_)
  have key : (u = v → A = B) → wX_totalPair_52 post (nI u) (bz_sv A) (nI v) (bz_sv B) (nI n) os oo ps en := fun g =>
    bz_xsum hP hn _ _ _ (by rw [bz_sum_c (bz_cx2 os oo (by omega) (by omega) A B g)]; exact h)
  by_cases e : u = v
  · refine br_t (by rw [e]) ?_
    by_cases g : A = B
    · exact br_t (by rw [g]) (key (fun _ => g))
    · subst e
      rw [bz_sum_z (bz_cd_z os oo u g)] at h
      exact br_f (fun z => g (bz_svi.mp z)) h
  · exact br_f (fun z => e ((nI_eq (by omega) (by omega)).mp z)) (key (fun z => absurd z e))
theorem bz_xind1 {n : Nat} {os oo : Int32} {ps en : Nat → Int32} (hP : bz_P n ps) (hn : n ≤ 7) {u v : Nat} (hu : u < n) (hv : v < n) (T : Int64) (A B : Bool) (post : Int32 → Prop) (J : Int32 → Prop) (f : Nat) {x : Int32} (ex : bz_sv B + 1 = x)
    (h0 : ¬ T * bz_sum (bz_cd os oo u A v B) (bz_W ps en n) (2 ^ n) = bz_sum (bz_cm os oo u A) (bz_W ps en n) (2 ^ n) * bz_sum (bz_cm os oo v B) (bz_W ps en n) (2 ^ n) → post 0)
    (h1 : T * bz_sum (bz_cd os oo u A v B) (bz_W ps en n) (2 ^ n) = bz_sum (bz_cm os oo u A) (bz_W ps en n) (2 ^ n) * bz_sum (bz_cm os oo v B) (bz_W ps en n) (2 ^ n) → wX_independent_35 post J (nI u) (nI v) T (bz_sv A) (nI n) os oo ps en f x) : wX_independent_35 post J (nI u) (nI v) T (bz_sv A) (nI n) os oo ps en (f + 1) (bz_sv B) :=
  br_f (bz_val0 B).2.1 (bz_xpair hP hn hu hv A B _ (bz_xwith hP hn hu A _ (bz_xwith hP hn hv B _ (br_c (fun z => nm_r ex (h1 z)) h0))))
def bz_ind (T : Int64) (n : Nat) (os oo : Int32) (ps en : Nat → Int32) (u v : Nat) (A B : Bool) : Prop := T * bz_sum (bz_cd os oo u A v B) (bz_W ps en n) (2 ^ n) = bz_sum (bz_cm os oo u A) (bz_W ps en n) (2 ^ n) * bz_sum (bz_cm os oo v B) (bz_W ps en n) (2 ^ n)
theorem bz_xind {n : Nat} {os oo : Int32} {ps en : Nat → Int32} (hP : bz_P n ps) (hn : n ≤ 7) {u v : Nat} (hu : u < n) (hv : v < n) (T : Int64) (post : Int32 → Prop)
    (h0 : ∀ A B, ¬ bz_ind T n os oo ps en u v A B → post 0) (h1 : (∀ A B, bz_ind T n os oo ps en u v A B) → post 1) : ∃ f, wX_independent_26 post (nI u) (nI v) T (nI n) os oo ps en f 0 := by
  have inner : ∀ (A : Bool) (J : Int32 → Prop) (x : Int32), bz_sv A + 1 = x → ((∀ B, bz_ind T n os oo ps en u v A B) → J x) → ∃ f, wX_independent_35 post J (nI u) (nI v) T (bz_sv A) (nI n) os oo ps en f 0 := by
    intro A J x ex hJ
    refine ⟨3, bz_xind1 hP hn hu hv T A false post J 2 (x := bz_sv true) (by decide) (h0 A false) (fun a0 => bz_xind1 hP hn hu hv T A true post J 1 (x := 2) (by decide) (h0 A true) (fun a1 => ?_))⟩
    exact br_t (by decide) (nm_r ex (hJ (fun B => by cases B; exact a0; exact a1)))
  refine ⟨3, br_f (by decide) (inner false _ (bz_sv true) (by decide) (fun a => br_f (by decide) (inner true _ 2 (by decide) (fun b => br_t (by decide) (h1 ?_)))))⟩
  intro A
  cases A
  · exact a
  · exact b
theorem bz_yind1 {n : Nat} {os oo : Int32} {ps en se ls : Nat → Int32} (hP : bz_P n ps) (hO : bz_O n os oo se) (hn : n ≤ 7) {u v : Nat} (hu : u < n) (hv : v < n) (T : Int64) (A B : Bool) (post : Int32 → Prop) (f : Nat) {k : Nat} (hk : k < 4) (e1 : nI k / 2 = bz_sv A) (e2 : nI k - nI k / 2 * 2 = bz_sv B)
    (h0 : ¬ bz_ind T n os oo ps en u v A B → post 0)
    (h1 : bz_ind T n os oo ps en u v A B → wY_independent_39 post (nI u) (nI v) T (nI n) ps en se ls f (nI (k + 1))) : wY_independent_39 post (nI u) (nI v) T (nI n) ps en se ls (f + 1) (nI k) :=
  br_f (nI_ge (b := 4) hk (by decide)) ⟨by decide, nm_r e1 ⟨by decide, nm_r e2 (bz_ysum1 hP hO hn (by omega) A _ (bz_ysum1 hP hO hn (by omega) B _ (bz_ysum hP hO hn (by omega) (by omega) A B _ (br_c (fun z => nm_r (nI_1 k) (h1 z)) h0))))⟩⟩
theorem bz_yind {n : Nat} {os oo : Int32} {ps en se ls : Nat → Int32} (hP : bz_P n ps) (hO : bz_O n os oo se) (hn : n ≤ 7) {u v : Nat} (hu : u < n) (hv : v < n) (T : Int64) (post : Int32 → Prop)
    (h0 : ∀ A B, ¬ bz_ind T n os oo ps en u v A B → post 0) (h1 : (∀ A B, bz_ind T n os oo ps en u v A B) → post 1) : ∃ f, wY_independent_39 post (nI u) (nI v) T (nI n) ps en se ls f 0 := by
  refine ⟨5, bz_yind1 hP hO hn hu hv T false false post 4 (k := 0) (by decide) (by decide) (by decide) (h0 _ _) (fun a => bz_yind1 hP hO hn hu hv T false true post 3 (k := 1) (by decide) (by decide) (by decide) (h0 _ _) (fun b => bz_yind1 hP hO hn hu hv T true false post 2 (k := 2) (by decide) (by decide) (by decide) (h0 _ _) (fun c => bz_yind1 hP hO hn hu hv T true true post 1 (k := 3) (by decide) (by decide) (by decide) (h0 _ _) (fun d => br_t (nI_le (a := 4) (b := 4) (by decide) (by decide)) (h1 ?_)))))⟩
  intro A B
  cases A <;> cases B
  · exact a
  · exact b
  · exact c
  · exact d
/-- the two searches -/
theorem bz_xsep {n : Nat} {os oo : Int32} {ps en : Nat → Int32} (hP : bz_P n ps) (hn : n ≤ 7) {u v : Nat} (hu : u < n) (hv : v < n) (M : Int32) (post : Int32 → Prop) (h : ∀ R, bz_Q ps M n os u (n - 1) R → post (bz_sv (!bt R v))) : ∃ f, wX_separated_66 post (nI v) M (nI n) os oo ps en f ((1 : Int32) <<< (nI u &&& 31)) 1 := by
  have key : ∀ d j R, j + 1 + d = n → bz_Q ps M n os u j R → wX_separated_66 post (nI v) M (nI n) os oo ps en (d + 1) R (nI (j + 1)) := by
    intro d
    induction d with
    | zero =>
      intro j R hj hQ
      have hj2 : n = j + 1 := by omega
      have hr := h R (by rw [hj2]; rw [hj2] at hQ; exact hQ)
      refine br_t (nI_le (by omega) (by omega)) ?_
      by_cases c : bt R v = true
      · rw [c] at hr
        refine br_f ?_ hr
        exact (bz_nz _ _).mpr ⟨v, by omega, c, by rw [bz_one (by omega) (by omega), decide_eq_true rfl]⟩
      · rw [bz_nt c] at hr
        refine br_t ?_ hr
        apply Classical.byContradiction
        intro z
        obtain ⟨i, hi, h1, h2⟩ := (bz_nz _ _).mp z
        rw [bz_one (by omega) hi, decide_eq_true_iff] at h2
        rw [h2] at h1
        exact c h1
    | succ d ih =>
      intro j R hj hQ
      exact br_f (nI_ge (by omega) (by omega)) (bz_xlk hn R M _ (nm_e (nm_r (nI_1 (j + 1)) (ih (j + 1) _ (by omega) (bz_Qx hP hn hQ)))))
  exact ⟨n - 1 + 1, key (n - 1) 0 _ (by omega) (bz_Q0 hu hn)⟩
theorem bz_ysep {n : Nat} {os oo : Int32} {ps en se ls : Nat → Int32} (hP : bz_P n ps) (hn : n ≤ 7) {u v : Nat} (hu : u < n) (hv : v < n) (M : Int32) (hl : ∀ q, q < 7 → ∀ j, bt (ls q) j = true ↔ bz_E ps M n q j) (post : Int32 → SY → Prop) (h : ∀ R, bz_Q ps M n os u 7 R → post (bz_sv (!bt R v)) (nI n, ps, en, se, ls)) : ∃ f, wY_separated_123 post (nI v) os (nI n) ps en se ls f ((1 : Int32) <<< (nI u &&& 31)) 0 := by
  have inner : ∀ (J : Int32 → Int32 → Prop) (x6 : Nat) (R : Int32), J (bz_yr ls os R 7) (nI (x6 + 1)) → ∃ f, wY_separated_133 post J (nI v) os (nI x6) (nI n) ps en se ls f R 0 := by
    intro J x6 R hJ
    refine bz_lpF (fun f i (a : Int32) => wY_separated_133 post J (nI v) os (nI x6) (nI n) ps en se ls f a i) (fun i => bz_yr ls os R i) 7 (fun f => br_t (nI_le (a := 7) (b := 7) (by decide) (by decide)) (nm_r (nI_1 x6) hJ)) ?_
    intro f i hi k
    refine br_f (nI_ge (b := 7) hi (by decide)) ?_
    by_cases c : bt (bz_yr ls os R i) i = true
    · exact br_t (bz_q1 (by omega) c) ⟨vp_in_nI hi (by decide), nm_r (by rw [bz_ca ls (by omega), bz_yr_s, if_pos c]) (nm_r (nI_1 i) k)⟩
    · have e : bz_yr ls os R (i + 1) = bz_yr ls os R i := by rw [bz_yr_s, if_neg c]
      exact br_f (bz_q0 (by omega) c) (nm_r (nI_1 i) (bz_tr (P := fun z => wY_separated_133 post J (nI v) os (nI x6) (nI n) ps en se ls f z (nI (i + 1))) e k))
  have key : ∀ d j R, j + d = 7 → bz_Q ps M n os u j R → wY_separated_123 post (nI v) os (nI n) ps en se ls (d + 1) R (nI j) := by
    intro d
    induction d with
    | zero =>
      intro j R hj hQ
      have hj2 : j = 7 := by omega
      subst hj2
      have hr := h R hQ
      refine br_t (nI_le (a := 7) (b := 7) (by decide) (by decide)) ?_
      by_cases c : bt R v = true
      · rw [c] at hr
        exact br_t (bz_q1 (by omega) c) hr
      · rw [bz_nt c] at hr
        exact br_f (bz_q0 (by omega) c) hr
    | succ d ih =>
      intro j R hj hQ
      exact br_f (nI_ge (b := 7) (by omega) (by decide)) (inner _ j R (ih (j + 1) _ (by omega) (bz_Qy hP hn hl hQ)))
  exact ⟨8, key 7 0 _ (by omega) (bz_Q0 hu hn)⟩
theorem bz_yshut {n : Nat} {os oo : Int32} {ps en se ls : Nat → Int32} (hO : bz_O n os oo se) (hn : n ≤ 7) (x1 x2 : Int32) (post : Int32 → SY → Prop) (h : wY_separated_94 post x1 x2 os (nI n) ps en se ls) : ∃ f, wY_separated_54 post x1 x2 (nI n) ps en se ls f 0 0 := by
  have key : ∀ d i (s : Int32), i + d = n → (∀ j, bt s j = (decide (j < i) && bt os j)) → wY_separated_54 post x1 x2 (nI n) ps en se ls (d + 1) s (nI i) := by
    intro d
    induction d with
    | zero =>
      intro i s hi hs
      have hi2 : i = n := by omega
      subst hi2
      have e : s = os := by
        apply b_ext
        intro j _
        rw [hs j]
        rcases Nat.lt_or_ge j i with z | z
        · rw [decide_eq_true z, Bool.true_and]
        · rw [hO.1 j z, Bool.and_false]
      rw [e]
      exact br_t (nI_le (Nat.le_refl _) (by omega)) h
    | succ d ih =>
      intro i s hi hs
      have hse := hO.2.2 i (by omega)
      refine br_f (nI_ge (by omega) (by omega)) (br_f (nI_ge (b := 7) (by omega) (by decide)) ⟨vp_in_nI (by omega) (by decide), ?_⟩)
      rw [bz_ca se (by omega), hse]
      by_cases c : bt os i = true
      · rw [if_pos c]
        refine br_f (by cases bt oo i <;> decide) (nm_e (nm_r (nI_1 i) (ih (i + 1) _ (by omega) ?_)))
        intro j
        rw [b_or, hs j, bz_one2 (by omega)]
        by_cases z : j = i
        · subst z
          rw [c, decide_eq_true rfl, decide_eq_true (Nat.lt_succ_self j), Bool.or_true]
          rfl
        · rw [decide_eq_false z, Bool.or_false]
          by_cases y : j < i
          · rw [decide_eq_true y, decide_eq_true (by omega)]
          · rw [decide_eq_false y, decide_eq_false (by omega)]
      · rw [if_neg c]
        refine br_t (by decide) (nm_r (nI_1 i) (ih (i + 1) _ (by omega) ?_))
        intro j
        rw [hs j]
        by_cases z : j = i
        · subst z
          rw [bz_nt c, Bool.and_false, Bool.and_false]
        · by_cases y : j < i
          · rw [decide_eq_true y, decide_eq_true (by omega)]
          · rw [decide_eq_false y, decide_eq_false (by omega)]
  exact ⟨n + 1, key n 0 0 (by omega) (fun j => by rw [b_0, decide_eq_false (by omega)]; rfl)⟩
end
section
/-! the relation; constructors; the storing methods -/
def i_Rel (_ : Nat) (u : SX) (v : SY) : Prop := ∃ (n : Nat) (os oo : Int32) (ps en se ls : Nat → Int32), u = (nI n, os, oo, ps, en) ∧ v = (nI n, ps, en, se, ls) ∧ 2 ≤ n ∧ n ≤ 7 ∧ bz_P n ps ∧ bz_N en ∧ bz_O n os oo se
theorem i_up {k : Nat} {u : SX} {v : SY} (h : i_Rel k u v) : i_Rel (k + 5) u v := h
def bz_two (m : Nat) : Nat → Int32 := fun q => if q < m then 2 else 0
theorem bz_two0 : bz_two 0 = fun _ => 0 := by
  funext q
  unfold bz_two
  rw [if_neg (Nat.not_lt_zero q)]
theorem bz_twos (m : Nat) : upd (bz_two m) m 2 = bz_two (m + 1) := by
  funext q
  unfold upd bz_two
  by_cases e : q = m
  · rw [if_pos e, if_pos (by omega)]
  · rw [if_neg e]
    by_cases c : q < m
    · rw [if_pos c, if_pos (by omega)]
    · rw [if_neg c, if_neg (by omega)]
theorem bz_xinit {n : Nat} (post : SX → Prop) (h : post (nI n, 0, 0, fun _ => 0, bz_fl (fun _ => 0) 0 112)) : ∃ f, wX_init_45 post f 0 (nI n) 0 0 (fun _ => 0) (fun _ => 0) := by
  have key := bz_lpF (fun f i (a : Nat → Int32) => wX_init_45 post f i (nI n) 0 0 (fun _ => 0) a) (fun i => bz_fl (fun _ => 0) 0 (16 * i)) 7 (fun f => br_t (nI_le (a := 7) (b := 7) (by decide) (by decide)) h) (by
    intro f i hi k
    refine br_f (nI_ge (b := 7) hi (by decide)) (bz_xfill (n := 0) hi _ (nm_r (nI_1 i) ?_))
    rw [bz_flf, show 16 * i + 16 = 16 * (i + 1) from by omega]
    exact k)
  rw [show 16 * 0 = 0 from rfl, bz_fl0] at key
  exact key
theorem bz_yinit {n : Nat} (post : SY → Prop) (h : post (nI n, fun _ => 0, bz_fl (fun _ => 0) 0 112, bz_two 7, fun _ => 0)) : ∃ f, wY_init_63 post (nI n) f 0 (fun _ => 0) (fun _ => 0) (fun _ => 0) (fun _ => 0) := by
  have k2 := bz_lpF (fun f i (a : Nat → Int32) => wY_init_84 post (nI n) f i (fun _ => 0) (bz_fl (fun _ => 0) 0 112) a (fun _ => 0)) (fun i => bz_two i) 7 (fun f => br_t (nI_le (a := 7) (b := 7) (by decide) (by decide)) h) (by
    intro f i hi k
    exact br_f (nI_ge (b := 7) hi (by decide)) ⟨vp_in_nI hi (by decide), nm_r (by rw [bz_cu _ _ (by omega), bz_twos]) (nm_r (nI_1 i) k)⟩)
  rw [bz_two0] at k2
  have key := bz_lpF (fun f i (a : Nat → Int32) => wY_init_63 post (nI n) f i (fun _ => 0) a (fun _ => 0) (fun _ => 0)) (fun i => bz_fl (fun _ => 0) 0 i) 112 (fun f => br_t (nI_le (a := 112) (b := 112) (by decide) (by decide)) k2) (by
    intro f i hi k
    have e := bz_fls (fun _ => 0) 0 i
    rw [Nat.zero_add] at e
    exact br_f (nI_ge (b := 112) hi (by decide)) ⟨vp_in_nI hi (by decide), nm_r (by rw [bz_cu _ _ hi, e]) (nm_r (nI_1 i) k)⟩)
  rw [bz_fl0] at key
  exact key
theorem bz_start (n : Nat) (h2 : 2 ≤ n) (hn : n ≤ 7) : i_Rel 1 (nI n, 0, 0, fun _ => 0, bz_fl (fun _ => 0) 0 112) (nI n, fun _ => 0, bz_fl (fun _ => 0) 0 112, bz_two 7, fun _ => 0) :=
  ⟨n, 0, 0, fun _ => 0, bz_fl (fun _ => 0) 0 112, bz_two 7, fun _ => 0, rfl, rfl, h2, hn, bz_P0 n, bz_flN (fun _ _ => ⟨0, by decide, rfl⟩) 0 112, bz_O0 (fun v hv => if_pos hv)⟩
theorem i_vc0 (k0 : Int32) : wpX_init (fun u => wpY_init (fun v => i_Rel 1 u v) k0) k0 := by
  by_cases h2 : 2 ≤ k0
  · by_cases h7 : k0 ≤ 7
    · obtain ⟨j, hj, rfl⟩ := nI_of2 (x := k0) (M := 7) (n := 7) (by decide) (Int32.not_lt.mpr (Int32.le_trans (by decide) h2)) h7
      have hj2 : 2 ≤ j := (nI_leI (a := 2) (by decide) (by omega)).mp h2
      exact br_t h2 (br_t h7 (bz_xinit _ (br_t h2 (br_t h7 (bz_yinit _ (bz_start j hj2 hj))))))
    · exact br_t h2 (br_f h7 (bz_xinit (n := 7) _ (br_t h2 (br_f h7 (bz_yinit (n := 7) _ (bz_start 7 (by decide) (by decide)))))))
  · exact br_f h2 (br_t (by decide) (bz_xinit (n := 2) _ (br_f h2 (bz_yinit (n := 2) _ (bz_start 2 (by decide) (by decide))))))
theorem i_vc_variables {k : Nat} {u : SX} {v : SY} (I : i_Rel k u v) (hk : k + 5 ≤ 2561) : wpX_variables (fun r => wpY_variables (fun r' => r' = r ∧ i_Rel (k + 5) u v) v) u := by
  obtain ⟨n, os, oo, ps, en, se, ls, rfl, rfl, h2, hn, hP, hN, hO⟩ := I
  exact ⟨rfl, n, os, oo, ps, en, se, ls, rfl, rfl, h2, hn, hP, hN, hO⟩
theorem i_vc_parents {k : Nat} {u : SX} {v : SY} (I : i_Rel k u v) (hk : k + 5 ≤ 2561) (v1 : Int32) (v2 : Int32) : wpX_parents (fun r u' => wpY_parents (fun r' v' => r' = r ∧ i_Rel (k + 5) u' v') v v1 v2) u v1 v2 := by
  obtain ⟨n, os, oo, ps, en, se, ls, rfl, rfl, h2, hn, hP, hN, hO⟩ := I
  have J : i_Rel (k + 5) (nI n, os, oo, ps, en) (nI n, ps, en, se, ls) := ⟨n, os, oo, ps, en, se, ls, rfl, rfl, h2, hn, hP, hN, hO⟩
  unfold wpX_parents wpY_parents
  dsimp only
  rcases bz_gd v1 hn with z | ⟨v, hv, rfl⟩
  · refine bz_xbad z _ (br_t rfl ?_)
    exact bz_ybad z _ (br_f (by decide) ⟨rfl, J⟩)
  · refine bz_xgood hn hv _ (br_f (by decide) ?_)
    by_cases a : v2 < 0
    · refine br_t a (br_t rfl ?_)
      exact bz_ygood hn hv _ (br_t rfl (br_t a ⟨rfl, J⟩))
    · refine br_f a ?_
      by_cases b : (1 : Int32) <<< (nI v &&& 31) ≤ v2
      · refine br_t b (br_t rfl ?_)
        exact bz_ygood hn hv _ (br_t rfl (br_f a (br_t b ⟨rfl, J⟩)))
      · refine br_f b (bz_xsz _ _ ?_)
        obtain ⟨s, hs, rfl⟩ := nI_of a
        have hs2 : s < 2 ^ v := by
          have hp := bz_pow (by omega : v ≤ 7)
          rw [bz_p2 v (by omega), nI_leI (by omega) hs] at b
          omega
        have h7 := bz_pc_le (nI s) 7
        by_cases c : bz_pc (nI s) 7 ≤ 3
        · refine br_f (nI_nlt (a := 3) c (by decide)) (br_f (by decide) ⟨vp_in_nI (by omega) (by decide), nm_r (bz_ca ps (by omega)) ⟨vp_in_nI (by omega) (by decide), nm_r (bz_cu ps _ (by omega)) (bz_xfill (n := n) (by omega) _ ?_)⟩⟩)
          refine bz_ygood hn hv _ (br_t rfl (br_f a (br_f b (bz_ysz _ _ ?_))))
          refine br_t (nI_le (b := 3) c (by decide)) ⟨vp_in_nI (by omega) (by decide), nm_r (bz_ca ps (by omega)) ⟨vp_in_nI (by omega) (by decide), nm_r (bz_cu ps _ (by omega)) (bz_ypar (by omega) _ _ ?_)⟩⟩
          exact ⟨rfl, n, os, oo, upd ps v (nI s), bz_fl en (16 * v) 16, se, ls, rfl, rfl, h2, hn, bz_upP hP hv hs2 c, bz_flN hN _ _, hO⟩
        · refine br_t (nI_lt (a := 3) (by omega) (by omega)) (br_t rfl ?_)
          refine bz_ygood hn hv _ (br_t rfl (br_f a (br_f b (bz_ysz _ _ ?_))))
          exact br_f (nI_ge (a := 3) (by omega) (by omega)) ⟨rfl, J⟩
theorem i_vc_enter {k : Nat} {u : SX} {v : SY} (I : i_Rel k u v) (hk : k + 5 ≤ 2561) (v1 : Int32) (v2 : Int32) (v3 : Int32) (v4 : Int32) : wpX_enter (fun r u' => wpY_enter (fun r' v' => r' = r ∧ i_Rel (k + 5) u' v') v v1 v2 v3 v4) u v1 v2 v3 v4 := by
  obtain ⟨n, os, oo, ps, en, se, ls, rfl, rfl, h2, hn, hP, hN, hO⟩ := I
  have J : i_Rel (k + 5) (nI n, os, oo, ps, en) (nI n, ps, en, se, ls) := ⟨n, os, oo, ps, en, se, ls, rfl, rfl, h2, hn, hP, hN, hO⟩
  unfold wpX_enter wpY_enter
  dsimp only
  rcases bz_gd v1 hn with z | ⟨v, hv, rfl⟩
  · refine bz_xbad z _ (br_t rfl ?_)
    exact bz_ybad z _ (br_f (by decide) ⟨rfl, J⟩)
  · have h7 : v < 7 := by omega
    have h8 := bz_r8 hP h7
    refine bz_xgood hn hv _ (br_f (by decide) ?_)
    by_cases a : v2 < 0
    · refine br_t a ?_
      exact bz_ygood hn hv _ (br_t rfl (br_t a ⟨rfl, J⟩))
    · refine br_f a (bz_xrc hP h7 _ ?_)
      by_cases b : v2 < nI (2 ^ bz_pc (ps v) 7)
      · refine br_t b ?_
        obtain ⟨r, hr, rfl⟩ := nI_of a
        have hr8 : r < 8 := by
          rw [nI_ltI hr (by omega)] at b
          omega
        rcases bz_val v3 with ⟨B, rfl⟩ | ⟨c0, c1, c2⟩
        · refine bz_xval B _ (br_f (by decide) ?_)
          by_cases d : v4 < 0
          · refine br_t d ?_
            refine bz_ygood hn hv _ (br_t rfl (br_f a (bz_yrc hP h7 _ (br_t b ?_))))
            exact br_f (bz_val0 B).1 (br_t (bz_val0 B).2.2.2 (br_t d ⟨rfl, J⟩))
          · refine br_f d ?_
            by_cases g : v4 ≤ 9
            · refine br_t g ?_
              obtain ⟨e, he, rfl⟩ := nI_of2 (M := 9) (n := 9) (by decide) d g
              have hb := bz_t1 B
              refine bz_xplace _ (m := 16 * v + 2 * r + B.toNat) (by rw [bz_svn, bz_pX]) ⟨vp_in_nI (by omega) (by decide), nm_r (bz_ca en (by omega)) ⟨vp_in_nI (by omega) (by decide), nm_r (bz_cu en _ (by omega)) ?_⟩⟩
              have eY : 16 * nI v + 2 * nI r + bz_sv B = nI (16 * v + 2 * r + B.toNat) := by rw [bz_svn, bz_pY]
              refine bz_ygood hn hv _ (br_t rfl (br_f a (bz_yrc hP h7 _ (br_t b ?_))))
              refine br_f (bz_val0 B).1 (br_t (bz_val0 B).2.2.2 (br_f d (br_t g ?_)))
              rw [eY]
              exact ⟨vp_in_nI (by omega) (by decide), nm_r (bz_ca en (by omega)) ⟨vp_in_nI (by omega) (by decide), nm_r (bz_cu en _ (by omega)) ⟨rfl, n, os, oo, ps, _, se, ls, rfl, rfl, h2, hn, hP, bz_upN hN _ he, hO⟩⟩⟩
            · refine br_f g ?_
              refine bz_ygood hn hv _ (br_t rfl (br_f a (bz_yrc hP h7 _ (br_t b ?_))))
              exact br_f (bz_val0 B).1 (br_t (bz_val0 B).2.2.2 (br_f d (br_f g ⟨rfl, J⟩)))
        · refine bz_xnval c0 c1 _ (br_t rfl ?_)
          refine bz_ygood hn hv _ (br_t rfl (br_f a (bz_yrc hP h7 _ (br_t b ?_))))
          by_cases d : v3 < 0
          · exact br_t d ⟨rfl, J⟩
          · rcases c2 with c2 | c2
            · exact absurd c2 d
            · exact br_f d (br_f (Int32.not_le.mpr c2) ⟨rfl, J⟩)
      · refine br_f b ?_
        refine bz_ygood hn hv _ (br_t rfl (br_f a (bz_yrc hP h7 _ (br_f b ⟨rfl, J⟩))))
theorem i_vc_sow {k : Nat} {u : SX} {v : SY} (I : i_Rel k u v) (hk : k + 5 ≤ 2561) (v1 : Int32) (v2 : Int32) : wpX_sow (fun r u' => wpY_sow (fun r' v' => r' = r ∧ i_Rel (k + 5) u' v') v v1 v2) u v1 v2 := by
  obtain ⟨n, os, oo, ps, en, se, ls, rfl, rfl, h2, hn, hP, hN, hO⟩ := I
  have J : i_Rel (k + 5) (nI n, os, oo, ps, en) (nI n, ps, en, se, ls) := ⟨n, os, oo, ps, en, se, ls, rfl, rfl, h2, hn, hP, hN, hO⟩
  unfold wpX_sow wpY_sow
  dsimp only
  rcases bz_gd v1 hn with z | ⟨v, hv, rfl⟩
  · refine bz_xbad z _ (br_t rfl ?_)
    exact bz_ybad z _ (br_f (by decide) ⟨rfl, J⟩)
  · have h7 : v < 7 := by omega
    have h8 := bz_r8 hP h7
    refine bz_xgood hn hv _ (br_f (by decide) ?_)
    by_cases a : v2 < 0
    · refine br_t a ?_
      exact bz_ygood hn hv _ (br_t rfl (br_t a ⟨rfl, J⟩))
    · refine br_f a ?_
      by_cases b : v2 ≤ 9
      · refine br_t b ?_
        obtain ⟨s, hs, rfl⟩ := nI_of2 (M := 9) (n := 9) (by decide) a b
        refine bz_xrc hP h7 _ (bz_xsow h7 hs h8 _ ?_)
        refine bz_ygood hn hv _ (br_t rfl (br_f a (br_t b (bz_yrc hP h7 _ (bz_ysow h7 hs h8 _ ?_)))))
        exact ⟨rfl, n, os, oo, ps, _, se, ls, rfl, rfl, h2, hn, hP, bz_swN hN v s _, hO⟩
      · refine br_f b ?_
        exact bz_ygood hn hv _ (br_t rfl (br_f a (br_f b ⟨rfl, J⟩)))
theorem i_vc_observe {k : Nat} {u : SX} {v : SY} (I : i_Rel k u v) (hk : k + 5 ≤ 2561) (v1 : Int32) (v2 : Int32) : wpX_observe (fun r u' => wpY_observe (fun r' v' => r' = r ∧ i_Rel (k + 5) u' v') v v1 v2) u v1 v2 := by
  obtain ⟨n, os, oo, ps, en, se, ls, rfl, rfl, h2, hn, hP, hN, hO⟩ := I
  have J : i_Rel (k + 5) (nI n, os, oo, ps, en) (nI n, ps, en, se, ls) := ⟨n, os, oo, ps, en, se, ls, rfl, rfl, h2, hn, hP, hN, hO⟩
  unfold wpX_observe wpY_observe
  dsimp only
  rcases bz_gd v1 hn with z | ⟨v, hv, rfl⟩
  · refine bz_xbad z _ (br_t rfl ?_)
    exact bz_ybad z _ (br_f (by decide) ⟨rfl, J⟩)
  · have h7 : v < 7 := by omega
    have hov : se (nI v).toNatClampNeg = bz_ov os oo v := by rw [bz_ca se (by omega)]; exact hO.2.2 v h7
    refine bz_xgood hn hv _ (br_f (by decide) ?_)
    by_cases a : v2 < 0
    · refine br_t a ?_
      exact bz_ygood hn hv _ (br_t rfl (br_t a ⟨rfl, J⟩))
    · refine br_f a ?_
      by_cases b : v2 ≤ 2
      · refine br_t b (bz_xov (by omega) _ (nm_e (nm_e (nm_e ?_))))
        by_cases c : v2 = 2
        · refine br_t c ?_
          refine bz_ygood hn hv _ (br_t rfl (br_f a (br_t b ⟨vp_in_nI h7 (by decide), nm_r hov ⟨vp_in_nI h7 (by decide), nm_r (bz_cu se _ (by omega)) ?_⟩⟩)))
          rw [c]
          exact ⟨rfl, n, _, _, ps, en, _, ls, rfl, rfl, h2, hn, hP, hN, bz_upO2 hO hv hn⟩
        · refine br_f c (nm_e (nm_e ?_))
          have hB : ∃ B, v2 = bz_sv B := by
            obtain ⟨j, hj, rfl⟩ := nI_of2 (M := 2) (n := 2) (by decide) a b
            have hj2 : ¬ j = 2 := fun z => c (by rw [z]; rfl)
            by_cases j0 : j = 0
            · exact ⟨false, by rw [j0]; rfl⟩
            · exact ⟨true, by rw [show j = 1 from by omega]; rfl⟩
          obtain ⟨B, rfl⟩ := hB
          refine bz_ygood hn hv _ (br_t rfl (br_f a (br_t b ⟨vp_in_nI h7 (by decide), nm_r hov ⟨vp_in_nI h7 (by decide), nm_r (bz_cu se _ (by omega)) ?_⟩⟩)))
          exact ⟨rfl, n, _, _, ps, en, _, ls, rfl, rfl, h2, hn, hP, hN, bz_upOb B hO hv hn⟩
      · refine br_f b ?_
        exact bz_ygood hn hv _ (br_t rfl (br_f a (br_f b ⟨rfl, J⟩)))
end
section
/-! the asking methods -/
theorem i_vc_parentsOf {k : Nat} {u : SX} {v : SY} (I : i_Rel k u v) (hk : k + 5 ≤ 2561) (v1 : Int32) : wpX_parentsOf (fun r => wpY_parentsOf (fun r' => r' = r ∧ i_Rel (k + 5) u v) v v1) u v1 := by
  obtain ⟨n, os, oo, ps, en, se, ls, rfl, rfl, h2, hn, hP, hN, hO⟩ := I
  have J : i_Rel (k + 5) (nI n, os, oo, ps, en) (nI n, ps, en, se, ls) := ⟨n, os, oo, ps, en, se, ls, rfl, rfl, h2, hn, hP, hN, hO⟩
  unfold wpX_parentsOf wpY_parentsOf
  dsimp only
  rcases bz_gd v1 hn with z | ⟨v, hv, rfl⟩
  · refine bz_xbad z _ (br_t rfl ?_)
    exact bz_ybad z _ (br_f (by decide) ⟨rfl, J⟩)
  · refine bz_xgood hn hv _ (br_f (by decide) ⟨vp_in_nI (by omega) (by decide), ?_⟩)
    exact bz_ygood hn hv _ (br_t rfl ⟨vp_in_nI (by omega) (by decide), rfl, J⟩)
theorem i_vc_weight {k : Nat} {u : SX} {v : SY} (I : i_Rel k u v) (hk : k + 5 ≤ 2561) (v1 : Int32) : wpX_weight (fun r => wpY_weight (fun r' => r' = r ∧ i_Rel (k + 5) u v) v v1) u v1 := by
  obtain ⟨n, os, oo, ps, en, se, ls, rfl, rfl, h2, hn, hP, hN, hO⟩ := I
  have J : i_Rel (k + 5) (nI n, os, oo, ps, en) (nI n, ps, en, se, ls) := ⟨n, os, oo, ps, en, se, ls, rfl, rfl, h2, hn, hP, hN, hO⟩
  unfold wpX_weight wpY_weight
  dsimp only
  by_cases a : v1 < 0
  · exact br_t a (br_t a ⟨rfl, J⟩)
  · refine br_f a ?_
    by_cases b : v1 < (1 : Int32) <<< (nI n &&& 31)
    · refine br_t b (bz_xwt hP hn _ _ ?_)
      refine br_f a (br_t b (bz_ywt hP hn _ _ ⟨rfl, J⟩))
    · exact br_f b (br_f a (br_f b ⟨rfl, J⟩))
theorem i_vc_total {k : Nat} {u : SX} {v : SY} (I : i_Rel k u v) (hk : k + 5 ≤ 2561) : wpX_total (fun r => wpY_total (fun r' => r' = r ∧ i_Rel (k + 5) u v) v) u := by
  obtain ⟨n, os, oo, ps, en, se, ls, rfl, rfl, h2, hn, hP, hN, hO⟩ := I
  have J : i_Rel (k + 5) (nI n, os, oo, ps, en) (nI n, ps, en, se, ls) := ⟨n, os, oo, ps, en, se, ls, rfl, rfl, h2, hn, hP, hN, hO⟩
  unfold wpX_total wpY_total
  dsimp only
  refine bz_xsum hP hn 0 0 _ ?_
  refine bz_ysum hP hO hn (u := 0) (v := 0) (by decide) (by decide) false false _ ?_
  refine bz_ysum hP hO hn (u := 0) (v := 0) (by decide) (by decide) true true _ ?_
  exact ⟨bz_tot os oo _ _, J⟩
theorem i_vc_totalWith {k : Nat} {u : SX} {v : SY} (I : i_Rel k u v) (hk : k + 5 ≤ 2561) (v1 : Int32) (v2 : Int32) : wpX_totalWith (fun r => wpY_totalWith (fun r' => r' = r ∧ i_Rel (k + 5) u v) v v1 v2) u v1 v2 := by
  obtain ⟨n, os, oo, ps, en, se, ls, rfl, rfl, h2, hn, hP, hN, hO⟩ := I
  have J : i_Rel (k + 5) (nI n, os, oo, ps, en) (nI n, ps, en, se, ls) := ⟨n, os, oo, ps, en, se, ls, rfl, rfl, h2, hn, hP, hN, hO⟩
  unfold wpX_totalWith wpY_totalWith
  dsimp only
  rcases bz_gd v1 hn with z | ⟨v, hv, rfl⟩
  · refine bz_xbad z _ (br_t rfl ?_)
    exact bz_ybad z _ (br_f (by decide) ⟨rfl, J⟩)
  · refine bz_xgood hn hv _ (br_f (by decide) ?_)
    rcases bz_val v2 with ⟨B, rfl⟩ | ⟨c0, c1, c2⟩
    · refine bz_xval B _ (br_f (by decide) ?_)
      refine bz_xsum hP hn _ _ _ ?_
      refine bz_ygood hn hv _ (br_t rfl ?_)
      refine bz_yval B _ (br_t rfl ?_)
      refine bz_ysum1 hP hO hn (by omega) B _ ?_
      exact ⟨(bz_sum_c (bz_cx1 os oo (by omega) B) _).symm, J⟩
    · refine bz_xnval c0 c1 _ (br_t rfl ?_)
      refine bz_ygood hn hv _ (br_t rfl ?_)
      exact bz_ynval c2 _ (br_f (by decide) ⟨rfl, J⟩)
theorem i_vc_totalPair {k : Nat} {u : SX} {v : SY} (I : i_Rel k u v) (hk : k + 5 ≤ 2561) (v1 : Int32) (v2 : Int32) (v3 : Int32) (v4 : Int32) : wpX_totalPair (fun r => wpY_totalPair (fun r' => r' = r ∧ i_Rel (k + 5) u v) v v1 v2 v3 v4) u v1 v2 v3 v4 := by
  obtain ⟨n, os, oo, ps, en, se, ls, rfl, rfl, h2, hn, hP, hN, hO⟩ := I
  have J : i_Rel (k + 5) (nI n, os, oo, ps, en) (nI n, ps, en, se, ls) := ⟨n, os, oo, ps, en, se, ls, rfl, rfl, h2, hn, hP, hN, hO⟩
  rcases bz_gd v1 hn with z | ⟨u, hu, rfl⟩
  · unfold wpX_totalPair wpY_totalPair
    dsimp only
    refine bz_xbad z _ (br_t rfl ?_)
    exact bz_ybad z _ (br_f (by decide) ⟨rfl, J⟩)
  · rcases bz_gd v3 hn with z | ⟨v, hv, rfl⟩
    · unfold wpX_totalPair wpY_totalPair
      dsimp only
      refine bz_xgood hn hu _ (br_f (by decide) ?_)
      refine bz_xbad z _ (br_t rfl ?_)
      refine bz_ygood hn hu _ (br_t rfl ?_)
      exact bz_ybad z _ (br_f (by decide) ⟨rfl, J⟩)
    · rcases bz_val v2 with ⟨A, rfl⟩ | ⟨c0, c1, c2⟩
      · rcases bz_val v4 with ⟨B, rfl⟩ | ⟨c0, c1, c2⟩
        · refine bz_xpair hP hn hu hv A B _ ?_
          unfold wpY_totalPair
          dsimp only
          refine bz_ygood hn hu _ (br_t rfl ?_)
          refine bz_ygood hn hv _ (br_t rfl ?_)
          refine bz_yval A _ (br_t rfl ?_)
          refine bz_yval B _ (br_t rfl ?_)
          exact bz_ysum hP hO hn (by omega) (by omega) A B _ ⟨rfl, J⟩
        · unfold wpX_totalPair wpY_totalPair
          dsimp only
          refine bz_xgood hn hu _ (br_f (by decide) ?_)
          refine bz_xgood hn hv _ (br_f (by decide) ?_)
          refine bz_xval A _ (br_f (by decide) ?_)
          refine bz_xnval c0 c1 _ (br_t rfl ?_)
          refine bz_ygood hn hu _ (br_t rfl ?_)
          refine bz_ygood hn hv _ (br_t rfl ?_)
          refine bz_yval A _ (br_t rfl ?_)
          exact bz_ynval c2 _ (br_f (by decide) ⟨rfl, J⟩)
      · unfold wpX_totalPair wpY_totalPair
        dsimp only
        refine bz_xgood hn hu _ (br_f (by decide) ?_)
        refine bz_xgood hn hv _ (br_f (by decide) ?_)
        refine bz_xnval c0 c1 _ (br_t rfl ?_)
        refine bz_ygood hn hu _ (br_t rfl ?_)
        refine bz_ygood hn hv _ (br_t rfl ?_)
        exact bz_ynval c2 _ (br_f (by decide) ⟨rfl, J⟩)
theorem i_vc_best {k : Nat} {u : SX} {v : SY} (I : i_Rel k u v) (hk : k + 5 ≤ 2561) : wpX_best (fun r => wpY_best (fun r' => r' = r ∧ i_Rel (k + 5) u v) v) u := by
  obtain ⟨n, os, oo, ps, en, se, ls, rfl, rfl, h2, hn, hP, hN, hO⟩ := I
  have J : i_Rel (k + 5) (nI n, os, oo, ps, en) (nI n, ps, en, se, ls) := ⟨n, os, oo, ps, en, se, ls, rfl, rfl, h2, hn, hP, hN, hO⟩
  unfold wpX_best wpY_best
  dsimp only
  refine bz_xmax hP hn 0 0 _ ?_
  exact bz_ybest hP hO hn _ ⟨rfl, J⟩
theorem i_vc_bestNumber {k : Nat} {u : SX} {v : SY} (I : i_Rel k u v) (hk : k + 5 ≤ 2561) : wpX_bestNumber (fun r => wpY_bestNumber (fun r' => r' = r ∧ i_Rel (k + 5) u v) v) u := by
  obtain ⟨n, os, oo, ps, en, se, ls, rfl, rfl, h2, hn, hP, hN, hO⟩ := I
  have J : i_Rel (k + 5) (nI n, os, oo, ps, en) (nI n, ps, en, se, ls) := ⟨n, os, oo, ps, en, se, ls, rfl, rfl, h2, hn, hP, hN, hO⟩
  have hq : ∃ q, q < 2 ^ n ∧ (nI q &&& os = oo ∧ bz_W ps en n q = bz_max (bz_cx os oo 0 0) (bz_W ps en n) (2 ^ n)) := by
    rcases bz_max_at (c := bz_cx os oo 0 0) (w := bz_W ps en n) (fun q => bz_wt_0 hP hN (nI q) hn) (2 ^ n) with ⟨q, h3, h4, h5⟩ | ⟨h3, h4⟩
    · rw [bz_cx0, decide_eq_true_iff] at h4
      exact ⟨q, h3, h4, h5⟩
    · exfalso
      obtain ⟨q, h5, h6⟩ := bz_lo (x := oo) (n := n) (fun i hi => by
        cases e : bt oo i
        · rfl
        · have := hO.2.1 i e
          rw [hO.1 i hi] at this
          cases this)
      have h7 := h3 q h5
      rw [bz_cx0, ← h6, decide_eq_false_iff_not] at h7
      exact h7 (bz_ag_t hO (fun _ _ _ => rfl))
  obtain ⟨q, h3, ⟨h4, h5⟩, h6⟩ := bz_first hq
  unfold wpX_bestNumber wpY_bestNumber
  dsimp only
  refine bz_xmax hP hn 0 0 _ (nm_r (bz_p2 n (by omega)) (bz_xfind hP hn _ _ h3 h4 h5 h6 ?_))
  refine bz_ybest hP hO hn _ (bz_yfind hP hO hn _ _ h3 h4 h5 h6 ⟨rfl, J⟩)
theorem i_vc_bestWith {k : Nat} {u : SX} {v : SY} (I : i_Rel k u v) (hk : k + 5 ≤ 2561) (v1 : Int32) (v2 : Int32) : wpX_bestWith (fun r => wpY_bestWith (fun r' => r' = r ∧ i_Rel (k + 5) u v) v v1 v2) u v1 v2 := by
  obtain ⟨n, os, oo, ps, en, se, ls, rfl, rfl, h2, hn, hP, hN, hO⟩ := I
  have J : i_Rel (k + 5) (nI n, os, oo, ps, en) (nI n, ps, en, se, ls) := ⟨n, os, oo, ps, en, se, ls, rfl, rfl, h2, hn, hP, hN, hO⟩
  unfold wpX_bestWith wpY_bestWith
  dsimp only
  rcases bz_gd v1 hn with z | ⟨v, hv, rfl⟩
  · refine bz_xbad z _ (br_t rfl ?_)
    exact bz_ybad z _ (br_f (by decide) ⟨rfl, J⟩)
  · refine bz_xgood hn hv _ (br_f (by decide) ?_)
    rcases bz_val v2 with ⟨B, rfl⟩ | ⟨c0, c1, c2⟩
    · refine bz_xval B _ (br_f (by decide) (bz_xov (by omega) _ ?_))
      have hov : se (nI v).toNatClampNeg = bz_ov os oo v := by rw [bz_ca se (by omega)]; exact hO.2.2 v (by omega)
      rw [hov]
      by_cases c : bt os v = true
      · have e1 : bz_ov os oo v = bz_sv (bt oo v) := if_pos c
        rw [e1]
        by_cases g : bt oo v = B
        · refine br_f (by rw [g]; cases B <;> decide) (bz_xmax hP hn _ _ _ ?_)
          refine bz_ygood hn hv _ (br_t rfl ?_)
          refine bz_yval B _ (br_t rfl ⟨vp_in_nI (by omega) (by decide), ?_⟩)
          refine br_f (by rw [g]; cases B <;> decide) ⟨vp_in_nI (by omega) (by decide), br_t (by rw [g]) ?_⟩
          refine bz_ymost hP hO hn (by omega) B _ ?_
          exact ⟨(bz_max_c (bz_cx1 os oo (by omega) B) _).symm, J⟩
        · refine br_t (by revert g; cases bt oo v <;> cases B <;> decide) ?_
          refine bz_ygood hn hv _ (br_t rfl ?_)
          refine bz_yval B _ (br_t rfl ⟨vp_in_nI (by omega) (by decide), ?_⟩)
          exact br_f (by cases bt oo v <;> decide) ⟨vp_in_nI (by omega) (by decide), br_f (fun z => g (bz_svi.mp z)) ⟨rfl, J⟩⟩
      · have e1 : bz_ov os oo v = 2 := if_neg c
        rw [e1]
        refine br_f (by cases B <;> decide) (bz_xmax hP hn _ _ _ ?_)
        refine bz_ygood hn hv _ (br_t rfl ?_)
        refine bz_yval B _ (br_t rfl ⟨vp_in_nI (by omega) (by decide), ?_⟩)
        refine br_t (by decide) (bz_ymost hP hO hn (by omega) B _ ?_)
        exact ⟨(bz_max_c (bz_cx1 os oo (by omega) B) _).symm, J⟩
    · refine bz_xnval c0 c1 _ (br_t rfl ?_)
      refine bz_ygood hn hv _ (br_t rfl ?_)
      exact bz_ynval c2 _ (br_f (by decide) ⟨rfl, J⟩)
theorem bz_ends {os : Int32} {u v : Nat} (hu : u < 32) (hv : v < 32) : (os &&& (((1 : Int32) <<< (nI u &&& 31)) ||| ((1 : Int32) <<< (nI v &&& 31))) = 0) ↔ (¬ bt os u = true ∧ ¬ bt os v = true) := by
  constructor
  · intro e
    have hh : ∀ i, i < 32 → (bt os i && (decide (i = u) || decide (i = v))) = false := by
      intro i hi
      have h := congrArg (fun z => bt z i) e
      simp only [b_and, b_or, bz_one hu hi, bz_one hv hi, b_0] at h
      exact h
    constructor
    · intro z
      have h := hh u hu
      simp [z] at h
    · intro z
      have h := hh v hv
      simp [z] at h
  · rintro ⟨a, b⟩
    apply Classical.byContradiction
    intro z
    obtain ⟨i, hi, h1, h3⟩ := (bz_nz _ _).mp z
    rw [b_or, bz_one hu hi, bz_one hv hi, Bool.or_eq_true, decide_eq_true_iff, decide_eq_true_iff] at h3
    rcases h3 with h3 | h3
    · rw [h3] at h1; exact a h1
    · rw [h3] at h1; exact b h1
theorem i_vc_separated {k : Nat} {u : SX} {v : SY} (I : i_Rel k u v) (hk : k + 5 ≤ 2561) (v1 : Int32) (v2 : Int32) : wpX_separated (fun r => wpY_separated (fun r' v' => r' = r ∧ i_Rel (k + 5) u v') v v1 v2) u v1 v2 := by
  obtain ⟨n, os, oo, ps, en, se, ls, rfl, rfl, h2, hn, hP, hN, hO⟩ := I
  have J : i_Rel (k + 5) (nI n, os, oo, ps, en) (nI n, ps, en, se, ls) := ⟨n, os, oo, ps, en, se, ls, rfl, rfl, h2, hn, hP, hN, hO⟩
  unfold wpX_separated wpY_separated
  dsimp only
  rcases bz_gd v1 hn with z | ⟨u, hu, rfl⟩
  · refine bz_xbad z _ (br_t rfl ?_)
    exact bz_ybad z _ (br_f (by decide) ⟨rfl, J⟩)
  · refine bz_xgood hn hu _ (br_f (by decide) ?_)
    rcases bz_gd v2 hn with z | ⟨v, hv, rfl⟩
    · refine bz_xbad z _ (br_t rfl ?_)
      refine bz_ygood hn hu _ (br_t rfl ?_)
      exact bz_ybad z _ (br_f (by decide) ⟨rfl, J⟩)
    · refine bz_xgood hn hv _ (br_f (by decide) ?_)
      by_cases e : nI u = nI v
      · refine br_t e ?_
        refine bz_ygood hn hu _ (br_t rfl ?_)
        exact bz_ygood hn hv _ (br_t rfl (br_t e ⟨rfl, J⟩))
      · refine br_f e (nm_e ?_)
        have hsu : se (nI u).toNatClampNeg = bz_ov os oo u := by rw [bz_ca se (by omega)]; exact hO.2.2 u (by omega)
        have hsv : se (nI v).toNatClampNeg = bz_ov os oo v := by rw [bz_ca se (by omega)]; exact hO.2.2 v (by omega)
        by_cases a : os &&& (((1 : Int32) <<< (nI u &&& 31)) ||| ((1 : Int32) <<< (nI v &&& 31))) = 0
        · obtain ⟨a1, a2⟩ := (bz_ends (by omega) (by omega)).mp a
          refine br_t a (bz_xan hn _ _ (nm_e (bz_xsep hP hn hu hv _ _ ?_)))
          intro R hR
          have hM : ∀ i, n ≤ i → bt (bz_an ps n ((((1 : Int32) <<< (nI u &&& 31)) ||| ((1 : Int32) <<< (nI v &&& 31))) ||| os)) i = false := by
            refine bz_an_b hP hn n (Nat.le_refl _) _ ?_
            intro i hi
            rw [b_or, b_or, bz_one2 (by omega), bz_one2 (by omega), hO.1 i hi, decide_eq_false (by omega), decide_eq_false (by omega)]
            rfl
          refine bz_ygood hn hu _ (br_t rfl ?_)
          refine bz_ygood hn hv _ (br_t rfl (br_f e ⟨vp_in_nI (by omega) (by decide), ?_⟩))
          rw [hsu, hsv]
          refine br_f (fun z => a1 ((bz_ov2 os oo u).mp z)) ⟨vp_in_nI (by omega) (by decide), ?_⟩
          refine br_t (Int32.not_lt.mp (fun z => a2 ((bz_ov2 os oo v).mp z))) (bz_yshut hO hn _ _ _ ?_)
          unfold wY_separated_94
          refine bz_yan hP hn _ _ (bz_ydr _ _ (nm_e ?_))
          refine bz_ysep (os := os) (oo := oo) hP hn hu hv _ (fun q hq j => (bz_dr_b ps _ ls hq j 7).trans (bz_E7 hn hM)) _ ?_
          intro T hT
          refine ⟨?_, n, os, oo, ps, en, se, _, rfl, rfl, h2, hn, hP, hN, hO⟩
          rw [bz_QQ hP hn (by omega) (by omega) hR hT v]
        · refine br_f a ?_
          refine bz_ygood hn hu _ (br_t rfl ?_)
          refine bz_ygood hn hv _ (br_t rfl (br_f e ⟨vp_in_nI (by omega) (by decide), ?_⟩))
          rw [hsu, hsv]
          by_cases a1 : bt os u = true
          · exact br_t ((bz_ov2 os oo u).mpr a1) ⟨rfl, J⟩
          · refine br_f (fun z => a1 ((bz_ov2 os oo u).mp z)) ⟨vp_in_nI (by omega) (by decide), ?_⟩
            refine br_f (fun z => ?_) ⟨rfl, J⟩
            refine a ((bz_ends (by omega) (by omega)).mpr ⟨a1, fun y => ?_⟩)
            exact Int32.not_lt.mpr z ((bz_ov2 os oo v).mpr y)
theorem i_vc_independent {k : Nat} {u : SX} {v : SY} (I : i_Rel k u v) (hk : k + 5 ≤ 2561) (v1 : Int32) (v2 : Int32) : wpX_independent (fun r => wpY_independent (fun r' => r' = r ∧ i_Rel (k + 5) u v) v v1 v2) u v1 v2 := by
  obtain ⟨n, os, oo, ps, en, se, ls, rfl, rfl, h2, hn, hP, hN, hO⟩ := I
  have J : i_Rel (k + 5) (nI n, os, oo, ps, en) (nI n, ps, en, se, ls) := ⟨n, os, oo, ps, en, se, ls, rfl, rfl, h2, hn, hP, hN, hO⟩
  unfold wpX_independent wpY_independent
  dsimp only
  rcases bz_gd v1 hn with z | ⟨u, hu, rfl⟩
  · refine bz_xbad z _ (br_t rfl ?_)
    exact bz_ybad z _ (br_f (by decide) ⟨rfl, J⟩)
  · refine bz_xgood hn hu _ (br_f (by decide) ?_)
    rcases bz_gd v2 hn with z | ⟨v, hv, rfl⟩
    · refine bz_xbad z _ (br_t rfl ?_)
      refine bz_ygood hn hu _ (br_t rfl ?_)
      exact bz_ybad z _ (br_f (by decide) ⟨rfl, J⟩)
    · refine bz_xgood hn hv _ (br_f (by decide) ?_)
      unfold wpX_total
      dsimp only
      refine bz_xsum hP hn 0 0 _ ?_
      have Yy : ∀ (post : Int32 → Prop), (∀ A B, ¬ bz_ind (bz_sum (bz_cx os oo 0 0) (bz_W ps en n) (2 ^ n)) n os oo ps en u v A B → post 0) → ((∀ A B, bz_ind (bz_sum (bz_cx os oo 0 0) (bz_W ps en n) (2 ^ n)) n os oo ps en u v A B) → post 1) → wpY_independent post (nI n, ps, en, se, ls) (nI u) (nI v) := by
        intro post p0 p1
        unfold wpY_independent
        dsimp only
        refine bz_ygood hn hu _ (br_t rfl ?_)
        refine bz_ygood hn hv _ (br_t rfl ?_)
        refine bz_ysum hP hO hn (u := 0) (v := 0) (by decide) (by decide) false false _ ?_
        refine bz_ysum hP hO hn (u := 0) (v := 0) (by decide) (by decide) true true _ ?_
        exact nm_r (bz_tot os oo _ _) (bz_yind hP hO hn hu hv _ post p0 p1)
      by_cases all : ∀ A B, bz_ind (bz_sum (bz_cx os oo 0 0) (bz_W ps en n) (2 ^ n)) n os oo ps en u v A B
      · refine bz_xind hP hn hu hv _ _ (fun A B z => absurd (all A B) z) (fun _ => ?_)
        exact Yy _ (fun A B z => absurd (all A B) z) (fun _ => ⟨rfl, J⟩)
      · refine bz_xind hP hn hu hv _ _ (fun _ _ _ => ?_) (fun z => absurd z all)
        exact Yy _ (fun _ _ _ => ⟨rfl, J⟩) (fun z => absurd z all)
theorem i_vc_blanket {k : Nat} {u : SX} {v : SY} (I : i_Rel k u v) (hk : k + 5 ≤ 2561) (v1 : Int32) : wpX_blanket (fun r => wpY_blanket (fun r' => r' = r ∧ i_Rel (k + 5) u v) v v1) u v1 := by
  obtain ⟨n, os, oo, ps, en, se, ls, rfl, rfl, h2, hn, hP, hN, hO⟩ := I
  have J : i_Rel (k + 5) (nI n, os, oo, ps, en) (nI n, ps, en, se, ls) := ⟨n, os, oo, ps, en, se, ls, rfl, rfl, h2, hn, hP, hN, hO⟩
  unfold wpX_blanket wpY_blanket
  dsimp only
  rcases bz_gd v1 hn with z | ⟨v, hv, rfl⟩
  · refine bz_xbad z _ (br_t rfl ?_)
    exact bz_ybad z _ (br_f (by decide) ⟨rfl, J⟩)
  · refine bz_xgood hn hv _ (br_f (by decide) (nm_e (nm_r (by rw [bz_p2 n (by omega)]) (bz_xlk hn _ _ _ ?_))))
    refine bz_ygood hn hv _ (br_t rfl ⟨vp_in_nI (by omega) (by decide), nm_r (bz_ca ps (by omega)) (bz_ybl hn hv _ ?_)⟩)
    exact ⟨(bz_blk ps hn hv).symm, J⟩
end
