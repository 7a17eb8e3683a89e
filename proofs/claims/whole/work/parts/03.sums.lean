/-! sums, greatest weights, first places: pure rows -/
def bz_sum (c : Nat → Bool) (w : Nat → Int32) : Nat → Int64
  | 0 => 0
  | m + 1 => if c m = true then bz_sum c w m + (w m).toInt64 else bz_sum c w m
theorem bz_sum_s (c : Nat → Bool) (w : Nat → Int32) (m : Nat) : bz_sum c w (m + 1) = if c m = true then bz_sum c w m + (w m).toInt64 else bz_sum c w m := rfl
theorem bz_sum_c {c d : Nat → Bool} {w : Nat → Int32} (h : ∀ k, c k = d k) (m : Nat) : bz_sum c w m = bz_sum d w m := by rw [show c = d from funext h]
theorem bz_sum_2 {c d e : Nat → Bool} {w : Nat → Int32} (h : ∀ k, e k = (c k || d k)) (hx : ∀ k, (c k && d k) = false) : ∀ m, bz_sum c w m + bz_sum d w m = bz_sum e w m := by
  intro m
  induction m with
  | zero => exact Int64.add_zero 0
  | succ m ih =>
    have h2 := hx m
    rw [bz_sum_s c w m, bz_sum_s d w m, bz_sum_s e w m, h m, ← ih]
    cases ec : c m <;> cases ed : d m
    · simp only [Bool.false_eq_true, Bool.or_false, ↓reduceIte]
    · simp only [Bool.false_eq_true, Bool.false_or, ↓reduceIte]
      exact (Int64.add_assoc _ _ _).symm
    · simp only [Bool.false_eq_true, Bool.or_false, ↓reduceIte]
      rw [Int64.add_assoc, Int64.add_comm (w m).toInt64, Int64.add_assoc]
    · rw [ec, ed] at h2
      cases h2
theorem bz_sum_z {c : Nat → Bool} {w : Nat → Int32} (h : ∀ k, c k = false) : ∀ m, bz_sum c w m = 0 := by
  intro m
  induction m with
  | zero => rfl
  | succ m ih => rw [bz_sum_s, h m, if_neg Bool.false_ne_true, ih]
def bz_max (c : Nat → Bool) (w : Nat → Int32) : Nat → Int32
  | 0 => 0
  | m + 1 => if c m = true then (if bz_max c w m < w m then w m else bz_max c w m) else bz_max c w m
theorem bz_max_s (c : Nat → Bool) (w : Nat → Int32) (m : Nat) : bz_max c w (m + 1) = if c m = true then (if bz_max c w m < w m then w m else bz_max c w m) else bz_max c w m := rfl
theorem bz_max_c {c d : Nat → Bool} {w : Nat → Int32} (h : ∀ k, c k = d k) (m : Nat) : bz_max c w m = bz_max d w m := by rw [show c = d from funext h]
theorem bz_mxc (C D w : Int32) : (if D < (if C < w then w else C) then (if C < w then w else C) else D) = (if (if D < C then C else D) < w then w else (if D < C then C else D)) := by
  by_cases h1 : C < w <;> by_cases h2 : D < C <;> by_cases h3 : D < w <;> simp only [h1, h2, h3, ↓reduceIte] <;>
    (apply Int32.toInt_inj.mp; rw [Int32.lt_iff_toInt_lt] at h1 h2 h3; omega)
theorem bz_mxd (C D w : Int32) : (if (if D < w then w else D) < C then C else (if D < w then w else D)) = (if (if D < C then C else D) < w then w else (if D < C then C else D)) := by
  by_cases h1 : C < w <;> by_cases h2 : D < C <;> by_cases h3 : D < w <;> by_cases h4 : w < C <;> simp only [h1, h2, h3, h4, ↓reduceIte] <;>
    (apply Int32.toInt_inj.mp; rw [Int32.lt_iff_toInt_lt] at h1 h2 h3 h4; omega)
theorem bz_max_2 {c d e : Nat → Bool} {w : Nat → Int32} (h : ∀ k, e k = (c k || d k)) (hx : ∀ k, (c k && d k) = false) : ∀ m, (if bz_max d w m < bz_max c w m then bz_max c w m else bz_max d w m) = bz_max e w m := by
  intro m
  induction m with
  | zero => simp [bz_max]
  | succ m ih =>
    have h2 := hx m
    rw [bz_max_s c w m, bz_max_s d w m, bz_max_s e w m, h m, ← ih]
    cases ec : c m <;> cases ed : d m
    · simp only [Bool.false_eq_true, Bool.or_false, ↓reduceIte]
    · simp only [Bool.false_eq_true, Bool.false_or, ↓reduceIte]
      exact bz_mxd _ _ _
    · simp only [Bool.false_eq_true, Bool.or_false, ↓reduceIte]
      exact bz_mxc _ _ _
    · rw [ec, ed] at h2
      cases h2
theorem bz_max_at {c : Nat → Bool} {w : Nat → Int32} (hw : ∀ k, ¬ w k < 0) : ∀ m, (∃ k, k < m ∧ c k = true ∧ w k = bz_max c w m) ∨ ((∀ k, k < m → c k = false) ∧ bz_max c w m = 0) := by
  intro m
  induction m with
  | zero => exact Or.inr ⟨fun k hk => by omega, rfl⟩
  | succ m ih =>
    rw [bz_max_s]
    cases ec : c m
    · rw [if_neg Bool.false_ne_true]
      rcases ih with ⟨k, hk, h1, h2⟩ | ⟨h1, h2⟩
      · exact Or.inl ⟨k, by omega, h1, h2⟩
      · refine Or.inr ⟨fun k hk => ?_, h2⟩
        by_cases e : k = m
        · rw [e]; exact ec
        · exact h1 k (by omega)
    · rw [if_pos rfl]
      by_cases hl : bz_max c w m < w m
      · rw [if_pos hl]; exact Or.inl ⟨m, by omega, ec, rfl⟩
      · rw [if_neg hl]
        rcases ih with ⟨k, hk, h1, h2⟩ | ⟨h1, h2⟩
        · exact Or.inl ⟨k, by omega, h1, h2⟩
        · refine Or.inl ⟨m, by omega, ec, ?_⟩
          rw [h2] at hl ⊢
          have hm := hw m
          rw [Int32.lt_iff_toInt_lt] at hl hm
          apply Int32.toInt_inj.mp
          omega
theorem pk_least (P : Nat → Prop) (h : ∃ k, P k) : ∃ k, P k ∧ ∀ j, j < k → ¬ P j := by
  obtain ⟨k, hk⟩ := h
  induction k using Nat.strongRecOn with
  | ind k ih =>
    by_cases e : ∃ j, j < k ∧ P j
    · obtain ⟨j, hj, pj⟩ := e
      exact ih j hj pj
    · exact ⟨k, hk, fun j hj pj => e ⟨j, hj, pj⟩⟩
theorem bz_first {p : Nat → Prop} {m : Nat} (h : ∃ k, k < m ∧ p k) : ∃ k, k < m ∧ p k ∧ ∀ j, j < k → ¬ p j := by
  obtain ⟨k, hk, hp⟩ := h
  obtain ⟨q, hq, hl⟩ := pk_least p ⟨k, hp⟩
  refine ⟨q, ?_, hq, hl⟩
  rcases Nat.lt_or_ge k q with z | z
  · exact absurd hp (hl k z)
  · omega
theorem bz_c1 (x : Int32) {v : Nat} (hv : v < 32) (B : Bool) : (x &&& ((1 : Int32) <<< (nI v &&& 31)) = bz_sv B <<< (nI v &&& 31)) ↔ bt x v = B := by
  constructor
  · intro e
    have h := congrArg (fun z => bt z v) e
    simp only [b_and, bz_one hv hv, bz_shv B hv hv] at h
    simpa using h
  · intro e
    apply b_ext
    intro i hi
    rw [b_and, bz_one hv hi, bz_shv B hv hi]
    by_cases h : i = v
    · subst h
      rw [e, Bool.and_comm]
    · rw [decide_eq_false h, Bool.and_false, Bool.false_and]
theorem bz_c2 (x : Int32) {u v : Nat} (hu : u < 32) (hv : v < 32) (A B : Bool) (h : u = v → A = B) : (x &&& (((1 : Int32) <<< (nI u &&& 31)) ||| ((1 : Int32) <<< (nI v &&& 31))) = (bz_sv A <<< (nI u &&& 31)) ||| (bz_sv B <<< (nI v &&& 31))) ↔ (bt x u = A ∧ bt x v = B) := by
  constructor
  · intro e
    have hh : ∀ i, i < 32 → (bt x i && (decide (i = u) || decide (i = v))) = ((decide (i = u) && A) || (decide (i = v) && B)) := by
      intro i hi
      have h := congrArg (fun z => bt z i) e
      simp only [b_and, b_or, bz_one hu hi, bz_one hv hi, bz_shv A hu hi, bz_shv B hv hi] at h
      exact h
    by_cases huv : u = v
    · subst huv
      have h0 := h rfl
      subst h0
      have h1 := hh u hu
      simp at h1
      exact ⟨h1, h1⟩
    · have h1 := hh u hu
      have h2 := hh v hv
      have hvu : ¬ v = u := fun z => huv z.symm
      simp [huv] at h1
      simp [hvu] at h2
      exact ⟨h1, h2⟩
  · rintro ⟨e1, e2⟩
    apply b_ext
    intro i hi
    rw [b_and, b_or, b_or, bz_one hu hi, bz_one hv hi, bz_shv A hu hi, bz_shv B hv hi]
    by_cases h1 : i = u
    · by_cases h2 : i = v
      · have h0 := h (h1.symm.trans h2)
        rw [h1, e1, decide_eq_true rfl, decide_eq_true (h1.symm.trans h2), h0]
        cases B <;> rfl
      · rw [decide_eq_true h1, decide_eq_false h2, h1, e1]
        cases A <;> cases B <;> rfl
    · by_cases h2 : i = v
      · rw [decide_eq_false h1, decide_eq_true h2, h2, e2]
        cases A <;> cases B <;> rfl
      · rw [decide_eq_false h1, decide_eq_false h2]
        simp
def bz_cx (os oo f o : Int32) (k : Nat) : Bool := decide (nI k &&& os = oo) && decide (nI k &&& f = o)
def bz_cd (os oo : Int32) (u : Nat) (A : Bool) (v : Nat) (B : Bool) (k : Nat) : Bool := decide (bt (nI k) u = A) && decide (bt (nI k) v = B) && decide (nI k &&& os = oo)
def bz_cm (os oo : Int32) (v : Nat) (B : Bool) (k : Nat) : Bool := decide (bt (nI k) v = B) && decide (nI k &&& os = oo)
theorem bz_cx2 (os oo : Int32) {u v : Nat} (hu : u < 32) (hv : v < 32) (A B : Bool) (h : u = v → A = B) (k : Nat) : bz_cx os oo (((1 : Int32) <<< (nI u &&& 31)) ||| ((1 : Int32) <<< (nI v &&& 31))) ((bz_sv A <<< (nI u &&& 31)) ||| (bz_sv B <<< (nI v &&& 31))) k = bz_cd os oo u A v B k := by
  unfold bz_cx bz_cd
  rw [Bool.and_comm, ← Bool.decide_and (bt (nI k) u = A)]
  exact congrArg (· && decide (nI k &&& os = oo)) (decide_eq_decide.mpr (bz_c2 (nI k) hu hv A B h))
theorem bz_cx1 (os oo : Int32) {v : Nat} (hv : v < 32) (B : Bool) (k : Nat) : bz_cx os oo ((1 : Int32) <<< (nI v &&& 31)) (bz_sv B <<< (nI v &&& 31)) k = bz_cm os oo v B k := by
  unfold bz_cx bz_cm
  rw [Bool.and_comm]
  exact congrArg (· && decide (nI k &&& os = oo)) (decide_eq_decide.mpr (bz_c1 (nI k) hv B))
theorem bz_cdm (os oo : Int32) (v : Nat) (B : Bool) (k : Nat) : bz_cd os oo v B v B k = bz_cm os oo v B k := by
  unfold bz_cd bz_cm
  rw [Bool.and_self]
theorem bz_cx0 (os oo : Int32) (k : Nat) : bz_cx os oo 0 0 k = decide (nI k &&& os = oo) := by
  unfold bz_cx
  rw [Int32.and_zero, decide_eq_true rfl, Bool.and_true]
theorem bz_cx_or (os oo : Int32) (k : Nat) : bz_cx os oo 0 0 k = (bz_cm os oo 0 false k || bz_cm os oo 0 true k) := by
  rw [bz_cx0]
  unfold bz_cm
  generalize decide (nI k &&& os = oo) = a
  generalize bt (nI k) 0 = b
  cases a <;> cases b <;> rfl
theorem bz_cm_x (os oo : Int32) (k : Nat) : (bz_cm os oo 0 false k && bz_cm os oo 0 true k) = false := by
  unfold bz_cm
  generalize decide (nI k &&& os = oo) = a
  generalize bt (nI k) 0 = b
  cases a <;> cases b <;> rfl
theorem bz_cd_z (os oo : Int32) (v : Nat) {A B : Bool} (h : ¬ A = B) (k : Nat) : bz_cd os oo v A v B k = false := by
  unfold bz_cd
  generalize decide (nI k &&& os = oo) = a
  generalize bt (nI k) v = b
  cases a <;> cases b <;> cases A <;> cases B <;> first | rfl | exact absurd rfl h
theorem bz_tot (os oo : Int32) (w : Nat → Int32) (m : Nat) : bz_sum (bz_cd os oo 0 false 0 false) w m + bz_sum (bz_cd os oo 0 true 0 true) w m = bz_sum (bz_cx os oo 0 0) w m := by
  rw [bz_sum_c (bz_cdm os oo 0 false) m, bz_sum_c (bz_cdm os oo 0 true) m]
  exact bz_sum_2 (bz_cx_or os oo) (bz_cm_x os oo) m
theorem bz_top (os oo : Int32) (w : Nat → Int32) (m : Nat) : (if bz_max (bz_cm os oo 0 true) w m < bz_max (bz_cm os oo 0 false) w m then bz_max (bz_cm os oo 0 false) w m else bz_max (bz_cm os oo 0 true) w m) = bz_max (bz_cx os oo 0 0) w m :=
  bz_max_2 (bz_cx_or os oo) (bz_cm_x os oo) m
