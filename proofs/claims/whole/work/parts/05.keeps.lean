/-! what the stores keep: pure rows -/
theorem bz_upP {n : Nat} {ps : Nat → Int32} (h : bz_P n ps) {v s : Nat} (hv : v < n) (hs : s < 2 ^ v) (hc : bz_pc (nI s) 7 ≤ 3) : bz_P n (upd ps v (nI s)) := by
  intro w hw
  by_cases e : w = v
  · subst e
    rw [pk_us]
    exact ⟨fun i hi => bz_hi hs hi, hc, fun z => by omega⟩
  · rw [pk_un e]
    exact h w hw
theorem bz_P0 (n : Nat) : bz_P n (fun _ => 0) := by
  intro v _
  exact ⟨fun i _ => b_0 i, (by decide +kernel : bz_pc 0 7 ≤ 3), fun _ => rfl⟩
theorem bz_upO2 {n v : Nat} {os oo : Int32} {se : Nat → Int32} (h : bz_O n os oo se) (hv : v < n) (hn : n ≤ 7) : bz_O n (os &&& (((1 : Int32) <<< (nI v &&& 31)) ^^^ (-1))) (oo &&& (((1 : Int32) <<< (nI v &&& 31)) ^^^ (-1))) (upd se v 2) := by
  obtain ⟨h1, h2, h3⟩ := h
  refine ⟨fun i hi => ?_, fun i hi => ?_, fun w hw => ?_⟩
  · rw [b_and, h1 i hi, Bool.false_and]
  · rw [b_and, Bool.and_eq_true] at hi ⊢
    exact ⟨h2 i hi.1, hi.2⟩
  · rw [b_and, b_and, bz_not _ (by omega), bz_one (by omega) (by omega)]
    by_cases e : w = v
    · subst e
      rw [pk_us, decide_eq_true rfl, Bool.not_true, Bool.and_false, if_neg Bool.false_ne_true]
    · rw [pk_un e, decide_eq_false e, Bool.not_false, Bool.and_true, Bool.and_true]
      exact h3 w hw
theorem bz_upOb {n v : Nat} {os oo : Int32} {se : Nat → Int32} (B : Bool) (h : bz_O n os oo se) (hv : v < n) (hn : n ≤ 7) : bz_O n ((os &&& (((1 : Int32) <<< (nI v &&& 31)) ^^^ (-1))) ||| ((1 : Int32) <<< (nI v &&& 31))) ((oo &&& (((1 : Int32) <<< (nI v &&& 31)) ^^^ (-1))) ||| (bz_sv B <<< (nI v &&& 31))) (upd se v (bz_sv B)) := by
  obtain ⟨h1, h2, h3⟩ := bz_upO2 h hv hn
  refine ⟨fun i hi => ?_, fun i hi => ?_, fun w hw => ?_⟩
  · rw [b_or, h1 i hi, bz_one2 (by omega), decide_eq_false (by omega)]
    rfl
  · have h32 := bz_l32 hi
    rw [b_or, Bool.or_eq_true] at hi ⊢
    rcases hi with hi | hi
    · exact Or.inl (h2 i hi)
    · rw [bz_shv B (by omega) h32, Bool.and_eq_true] at hi
      right
      rw [bz_one (by omega) h32]
      exact hi.1
  · have h4 := h3 w hw
    rw [b_or, b_or, bz_one (by omega) (by omega), bz_shv B (by omega) (by omega)]
    by_cases e : w = v
    · subst e
      have z : bt (oo &&& (((1 : Int32) <<< (nI w &&& 31)) ^^^ (-1))) w = false := by
        rw [b_and, bz_not _ (by omega), bz_one (by omega) (by omega), decide_eq_true rfl, Bool.not_true, Bool.and_false]
      rw [pk_us, decide_eq_true rfl, Bool.or_true, if_pos rfl, z, Bool.true_and, Bool.false_or]
    · rw [pk_un e] at h4 ⊢
      rw [decide_eq_false e, Bool.or_false, Bool.false_and, Bool.or_false]
      exact h4
theorem bz_O0 {n : Nat} {se : Nat → Int32} (h : ∀ v, v < 7 → se v = 2) : bz_O n 0 0 se := by
  refine ⟨fun i _ => b_0 i, fun i hi => ?_, fun v hv => ?_⟩
  · rw [b_0] at hi
    cases hi
  · rw [b_0, if_neg Bool.false_ne_true]
    exact h v hv
/-- the observed value, by the sets -/
def bz_ov (os oo : Int32) (v : Nat) : Int32 := if bt os v = true then bz_sv (bt oo v) else 2
theorem bz_ov2 (os oo : Int32) (v : Nat) : bz_ov os oo v < 2 ↔ bt os v = true := by
  unfold bz_ov
  by_cases h : bt os v = true
  · rw [if_pos h]
    exact ⟨fun _ => h, fun _ => bz_svlt _⟩
  · rw [if_neg h]
    exact ⟨fun z => absurd z (by decide), fun z => absurd z h⟩
theorem bz_bad {x : Int32} {n : Nat} (hn : n ≤ 7) (h : x < 0 ∨ nI n ≤ x) (j : Nat) (hj : j < n) : ¬ x = nI j := by
  rintro rfl
  rcases h with h | h
  · exact nI_pos (by omega) h
  · rw [nI_leI (by omega) (by omega)] at h
    omega
/-- a value or not: 0 or 1 -/
theorem bz_val (x : Int32) : (∃ B, x = bz_sv B) ∨ (¬ x = 0 ∧ ¬ x = 1 ∧ (x < 0 ∨ 1 < x)) := by
  by_cases h0 : x = 0
  · exact Or.inl ⟨false, h0⟩
  · by_cases h1 : x = 1
    · exact Or.inl ⟨true, h1⟩
    · refine Or.inr ⟨h0, h1, ?_⟩
      have e0 : (0 : Int32).toInt = 0 := by decide
      have e1 : (1 : Int32).toInt = 1 := by decide
      have h0' : ¬ x.toInt = 0 := fun z => h0 (Int32.toInt_inj.mp (z.trans e0.symm))
      have h1' : ¬ x.toInt = 1 := fun z => h1 (Int32.toInt_inj.mp (z.trans e1.symm))
      rw [Int32.lt_iff_toInt_lt, Int32.lt_iff_toInt_lt, e0, e1]
      omega
theorem bz_val0 (B : Bool) : ¬ bz_sv B < 0 ∧ ¬ 1 < bz_sv B ∧ 0 ≤ bz_sv B ∧ bz_sv B ≤ 1 := by cases B <;> decide
