/-! families, links, closures: pure rows -/
theorem bz_nz (x y : Int32) : (¬ (x &&& y = 0)) ↔ ∃ i, i < 32 ∧ bt x i = true ∧ bt y i = true := by
  constructor
  · intro h
    apply Classical.byContradiction
    intro hn
    apply h
    apply b_ext
    intro i hi
    rw [b_and, b_0]
    cases ex : bt x i
    · rfl
    · cases ey : bt y i
      · rfl
      · exact absurd ⟨i, hi, ex, ey⟩ hn
  · rintro ⟨i, _, hx, hy⟩ e
    have h : bt (x &&& y) i = true := by rw [b_and, hx, hy]; rfl
    rw [e, b_0] at h
    cases h
theorem bz_l32 {x : Int32} {i : Nat} (h : bt x i = true) : i < 32 := by
  rcases Nat.lt_or_ge i 32 with z | z
  · exact z
  · rw [b_big z] at h
    cases h
def bz_fm (ps : Nat → Int32) (w : Nat) : Int32 := ps w ||| ((1 : Int32) <<< (nI w &&& 31))
theorem bz_fm_b (ps : Nat → Int32) {w : Nat} (hw : w < 32) (j : Nat) : bt (bz_fm ps w) j = true ↔ (bt (ps w) j = true ∨ j = w) := by
  unfold bz_fm
  rw [b_or, bz_one2 hw, Bool.or_eq_true, decide_eq_true_iff]
theorem bz_fm_n {n : Nat} {ps : Nat → Int32} (hP : bz_P n ps) (hn : n ≤ 7) {w j : Nat} (hw : w < n) (h : bt (bz_fm ps w) j = true) : j < n := by
  rcases (bz_fm_b ps (by omega) j).mp h with z | z
  · rcases Nat.lt_or_ge j w with y | y
    · omega
    · rw [(hP w (by omega)).1 j y] at z
      cases z
  · omega
def bz_lk (ps : Nat → Int32) (S M : Int32) : Nat → Int32
  | 0 => 0
  | m + 1 => if bt M m = true ∧ ¬ (bz_fm ps m &&& S = 0) then bz_lk ps S M m ||| bz_fm ps m else bz_lk ps S M m
theorem bz_lk_s (ps : Nat → Int32) (S M : Int32) (m : Nat) : bz_lk ps S M (m + 1) = if bt M m = true ∧ ¬ (bz_fm ps m &&& S = 0) then bz_lk ps S M m ||| bz_fm ps m else bz_lk ps S M m := rfl
theorem bz_lk_b (ps : Nat → Int32) (S M : Int32) (j : Nat) : ∀ m, bt (bz_lk ps S M m) j = true ↔ ∃ w, w < m ∧ bt M w = true ∧ (∃ i, i < 32 ∧ bt (bz_fm ps w) i = true ∧ bt S i = true) ∧ bt (bz_fm ps w) j = true := by
  intro m
  induction m with
  | zero =>
    constructor
    · intro h
      have h : bt 0 j = true := h
      rw [b_0] at h
      cases h
    · rintro ⟨w, hw, _⟩
      omega
  | succ m ih =>
    by_cases c : bt M m = true ∧ ¬ (bz_fm ps m &&& S = 0)
    · rw [bz_lk_s, if_pos c, b_or, Bool.or_eq_true, ih]
      constructor
      · rintro (⟨w, hw, h⟩ | h)
        · exact ⟨w, by omega, h⟩
        · exact ⟨m, by omega, c.1, (bz_nz _ _).mp c.2, h⟩
      · rintro ⟨w, hw, h1, h2, h3⟩
        by_cases e : w = m
        · subst e; exact Or.inr h3
        · exact Or.inl ⟨w, by omega, h1, h2, h3⟩
    · rw [bz_lk_s, if_neg c, ih]
      constructor
      · rintro ⟨w, hw, h⟩
        exact ⟨w, by omega, h⟩
      · rintro ⟨w, hw, h1, h2, h3⟩
        by_cases e : w = m
        · subst e; exact absurd ⟨h1, (bz_nz _ _).mpr h2⟩ c
        · exact ⟨w, by omega, h1, h2, h3⟩
def bz_bl (ps : Nat → Int32) (v : Nat) : Nat → Int32
  | 0 => ps v
  | m + 1 => if bt (ps m) v = true then bz_bl ps v m ||| (((1 : Int32) <<< (nI m &&& 31)) ||| ps m) else bz_bl ps v m
theorem bz_bl_s (ps : Nat → Int32) (v m : Nat) : bz_bl ps v (m + 1) = if bt (ps m) v = true then bz_bl ps v m ||| (((1 : Int32) <<< (nI m &&& 31)) ||| ps m) else bz_bl ps v m := rfl
theorem bz_bl_b (ps : Nat → Int32) (v j : Nat) : ∀ m, bt (bz_bl ps v m) j = true ↔ bt (ps v) j = true ∨ ∃ w, w < m ∧ bt (ps w) v = true ∧ bt (bz_fm ps w) j = true := by
  intro m
  induction m with
  | zero =>
    constructor
    · intro h; exact Or.inl h
    · rintro (h | ⟨w, hw, _⟩)
      · exact h
      · omega
  | succ m ih =>
    by_cases c : bt (ps m) v = true
    · have e : bt (((1 : Int32) <<< (nI m &&& 31)) ||| ps m) j = bt (bz_fm ps m) j := by
        unfold bz_fm
        rw [b_or, b_or, Bool.or_comm]
      rw [bz_bl_s, if_pos c, b_or, Bool.or_eq_true, ih, e]
      constructor
      · rintro ((h | ⟨w, hw, h⟩) | h)
        · exact Or.inl h
        · exact Or.inr ⟨w, by omega, h⟩
        · exact Or.inr ⟨m, by omega, c, h⟩
      · rintro (h | ⟨w, hw, h1, h2⟩)
        · exact Or.inl (Or.inl h)
        · by_cases e : w = m
          · subst e; exact Or.inr h2
          · exact Or.inl (Or.inr ⟨w, by omega, h1, h2⟩)
    · rw [bz_bl_s, if_neg c, ih]
      constructor
      · rintro (h | ⟨w, hw, h⟩)
        · exact Or.inl h
        · exact Or.inr ⟨w, by omega, h⟩
      · rintro (h | ⟨w, hw, h1, h2⟩)
        · exact Or.inl h
        · by_cases e : w = m
          · subst e; exact absurd h1 c
          · exact Or.inr ⟨w, by omega, h1, h2⟩
theorem bz_bool {a b : Bool} (h : a = true ↔ b = true) : a = b := by
  cases a <;> cases b
  · rfl
  · exact (h.mpr rfl)
  · exact (h.mp rfl).symm
  · rfl
theorem bz_blk {n v : Nat} (ps : Nat → Int32) (hn : n ≤ 7) (hv : v < n) : bz_lk ps ((1 : Int32) <<< (nI v &&& 31)) (nI (2 ^ n) - 1) n &&& (((1 : Int32) <<< (nI v &&& 31)) ^^^ (-1)) = bz_bl ps v n &&& (((1 : Int32) <<< (nI v &&& 31)) ^^^ (-1)) := by
  apply b_ext
  intro j hj
  rw [b_and, b_and, bz_not _ hj, bz_one (by omega) hj]
  by_cases e : j = v
  · rw [decide_eq_true e, Bool.not_true, Bool.and_false, Bool.and_false]
  · rw [decide_eq_false e, Bool.not_false, Bool.and_true, Bool.and_true]
    apply bz_bool
    rw [bz_lk_b, bz_bl_b]
    constructor
    · rintro ⟨w, hw, _, ⟨i, hi, h1, h2⟩, h3⟩
      rw [bz_one (by omega) hi, decide_eq_true_iff] at h2
      subst h2
      by_cases ew : w = i
      · subst ew
        rcases (bz_fm_b ps (by omega) j).mp h3 with z | z
        · exact Or.inl z
        · exact absurd z e
      · rcases (bz_fm_b ps (by omega) i).mp h1 with z | z
        · exact Or.inr ⟨w, hw, z, h3⟩
        · exact absurd z.symm ew
    · have hm : ∀ w, w < n → bt (nI (2 ^ n) - 1) w = true := by
        intro w hw
        rw [bz_ev n (by omega) w (by omega), decide_eq_true hw]
      have hs : bt ((1 : Int32) <<< (nI v &&& 31)) v = true := by
        rw [bz_one (by omega) (by omega), decide_eq_true rfl]
      rintro (h | ⟨w, hw, h1, h2⟩)
      · exact ⟨v, hv, hm v hv, ⟨v, by omega, (bz_fm_b ps (by omega) v).mpr (Or.inr rfl), hs⟩, (bz_fm_b ps (by omega) j).mpr (Or.inl h)⟩
      · exact ⟨w, hw, hm w hw, ⟨v, by omega, (bz_fm_b ps (by omega) v).mpr (Or.inl h1), hs⟩, h2⟩
/-- a set with its ancestors: from m - 1 down -/
def bz_an (ps : Nat → Int32) : Nat → Int32 → Int32
  | 0 => fun s => s
  | m + 1 => fun s => bz_an ps m (if bt s m = true then s ||| ps m else s)
theorem bz_an_s (ps : Nat → Int32) (m : Nat) (s : Int32) : bz_an ps (m + 1) s = bz_an ps m (if bt s m = true then s ||| ps m else s) := rfl
theorem bz_an_7 {n : Nat} {ps : Nat → Int32} (hP : bz_P n ps) (s : Int32) : ∀ d, n + d ≤ 7 → bz_an ps (n + d) s = bz_an ps n s := by
  intro d
  induction d with
  | zero => intro _; rfl
  | succ d ih =>
    intro h
    show bz_an ps (n + d + 1) s = _
    rw [bz_an_s, (hP (n + d) (by omega)).2.2 (by omega), Int32.or_zero, ite_self]
    exact ih (by omega)
theorem bz_an_b {n : Nat} {ps : Nat → Int32} (hP : bz_P n ps) (hn : n ≤ 7) : ∀ m, m ≤ n → ∀ s, (∀ i, n ≤ i → bt s i = false) → ∀ i, n ≤ i → bt (bz_an ps m s) i = false := by
  intro m
  induction m with
  | zero => intro _ s h i hi; exact h i hi
  | succ m ih =>
    intro hm s h i hi
    rw [bz_an_s]
    refine ih (by omega) _ ?_ i hi
    intro k hk
    by_cases c : bt s m = true
    · rw [if_pos c, b_or, h k hk, (hP m (by omega)).1 k (by omega)]
      rfl
    · rw [if_neg c]
      exact h k hk
/-- i and j share a family of a member -/
def bz_E (ps : Nat → Int32) (M : Int32) (n : Nat) (i j : Nat) : Prop := ∃ w, w < n ∧ bt M w = true ∧ bt (bz_fm ps w) i = true ∧ bt (bz_fm ps w) j = true
/-- nothing unobserved is linked to R but what lies in R -/
def bz_cl (ps : Nat → Int32) (M : Int32) (n : Nat) (os : Int32) (R : Nat → Prop) : Prop := ∀ i j, R i → bz_E ps M n i j → bt os j = false → R j
def bz_Q (ps : Nat → Int32) (M : Int32) (n : Nat) (os : Int32) (u k : Nat) (R : Int32) : Prop :=
  bt R u = true ∧ (bz_cl ps M n os (fun i => bt R i = true) ∨ k + 1 ≤ bz_pc R n) ∧ (∀ P : Nat → Prop, bz_cl ps M n os P → P u → ∀ i, bt R i = true → P i)
theorem bz_Q0 {ps : Nat → Int32} {M os : Int32} {n u : Nat} (hu : u < n) (hn : n ≤ 7) : bz_Q ps M n os u 0 ((1 : Int32) <<< (nI u &&& 31)) := by
  have h1 : bt ((1 : Int32) <<< (nI u &&& 31)) u = true := by rw [bz_one2 (by omega), decide_eq_true rfl]
  refine ⟨h1, Or.inr ?_, ?_⟩
  · have := bz_pc_lt (s := 0) (t := (1 : Int32) <<< (nI u &&& 31)) (fun i h => by rw [b_0] at h; cases h) (b_0 u) h1 n hu
    omega
  · intro P _ hP i hi
    rw [bz_one2 (by omega), decide_eq_true_iff] at hi
    subst hi
    exact hP
theorem bz_Qs {ps : Nat → Int32} {M os : Int32} {n u k : Nat} {R R' : Int32} (hP : bz_P n ps) (hn : n ≤ 7) (h : bz_Q ps M n os u k R)
    (h1 : ∀ i, bt R i = true → bt R' i = true) (h2 : ∀ i j, bt R i = true → bz_E ps M n i j → bt os j = false → bt R' j = true)
    (h3 : ∀ P : Nat → Prop, bz_cl ps M n os P → (∀ i, bt R i = true → P i) → ∀ i, bt R' i = true → P i) : bz_Q ps M n os u (k + 1) R' := by
  obtain ⟨a, b, c⟩ := h
  refine ⟨h1 u a, ?_, fun P hc hu => h3 P hc (c P hc hu)⟩
  by_cases hc : bz_cl ps M n os (fun i => bt R i = true)
  · left
    have hs := h3 _ hc (fun i z => z)
    intro i j hi hE ho
    exact h1 j (hc i j (hs i hi) hE ho)
  · right
    rcases b with b | b
    · exact absurd b hc
    · apply Classical.byContradiction
      intro hlt
      apply hc
      intro i j hi hE ho
      show bt R j = true
      cases ej : bt R j
      · exfalso
        have h4 := bz_pc_lt h1 ej (h2 i j hi hE ho) n (by
          obtain ⟨w, hw, _, _, hj⟩ := hE
          exact bz_fm_n hP hn hw hj)
        omega
      · rfl
theorem bz_Qn {ps : Nat → Int32} {M os : Int32} {n u k : Nat} {R : Int32} (hP : bz_P n ps) (hn : n ≤ 7) (hk : n ≤ k + 1) (h : bz_Q ps M n os u k R) : bz_cl ps M n os (fun i => bt R i = true) := by
  rcases h.2.1 with b | b
  · exact b
  · intro i j _ hE _
    obtain ⟨w, hw, _, _, hj⟩ := hE
    exact bz_pc_all n (by omega) j (bz_fm_n hP hn hw hj)
theorem bz_QQ {ps : Nat → Int32} {M os : Int32} {n u k l : Nat} {R T : Int32} (hP : bz_P n ps) (hn : n ≤ 7) (hk : n ≤ k + 1) (hl : n ≤ l + 1) (h : bz_Q ps M n os u k R) (g : bz_Q ps M n os u l T) (j : Nat) : bt R j = bt T j := by
  apply bz_bool
  constructor
  · exact h.2.2 _ (bz_Qn hP hn hl g) g.1 j
  · exact g.2.2 _ (bz_Qn hP hn hk h) h.1 j
/-- one step of the component -/
theorem bz_Qx {ps : Nat → Int32} {M os : Int32} {n u k : Nat} {R : Int32} (hP : bz_P n ps) (hn : n ≤ 7) (h : bz_Q ps M n os u k R) : bz_Q ps M n os u (k + 1) (R ||| (bz_lk ps R M n &&& (os ^^^ (-1)))) := by
  refine bz_Qs hP hn h ?_ ?_ ?_
  · intro i hi
    rw [b_or, hi, Bool.true_or]
  · intro i j hi hE ho
    obtain ⟨w, hw, hM, hi2, hj⟩ := hE
    have h5 : bt (bz_lk ps R M n) j = true := (bz_lk_b ps R M j n).mpr ⟨w, hw, hM, ⟨i, bz_l32 hi, hi2, hi⟩, hj⟩
    rw [b_or, b_and, bz_not _ (bz_l32 h5), h5, ho]
    simp
  · intro P hc hR i hi
    rw [b_or, Bool.or_eq_true] at hi
    rcases hi with hi | hi
    · exact hR i hi
    · rw [b_and, Bool.and_eq_true] at hi
      obtain ⟨h5, h6⟩ := hi
      rw [bz_not _ (bz_l32 h5)] at h6
      obtain ⟨w, hw, hM, ⟨q, _, hq1, hq2⟩, hj⟩ := (bz_lk_b ps R M i n).mp h5
      refine hc q i (hR q hq2) ⟨w, hw, hM, hq1, hj⟩ ?_
      simpa using h6
/-- one round of the reference -/
def bz_yr (ls : Nat → Int32) (os R : Int32) : Nat → Int32
  | 0 => R
  | w + 1 => if bt (bz_yr ls os R w) w = true then bz_yr ls os R w ||| (ls w &&& (os ^^^ (-1))) else bz_yr ls os R w
theorem bz_yr_s (ls : Nat → Int32) (os R : Int32) (w : Nat) : bz_yr ls os R (w + 1) = if bt (bz_yr ls os R w) w = true then bz_yr ls os R w ||| (ls w &&& (os ^^^ (-1))) else bz_yr ls os R w := rfl
theorem bz_yr_1 (ls : Nat → Int32) (os R : Int32) (w i : Nat) (h : bt (bz_yr ls os R w) i = true) : bt (bz_yr ls os R (w + 1)) i = true := by
  rw [bz_yr_s]
  by_cases c : bt (bz_yr ls os R w) w = true
  · rw [if_pos c, b_or, h, Bool.true_or]
  · rw [if_neg c]; exact h
theorem bz_yr_m (ls : Nat → Int32) (os R : Int32) (i : Nat) (h : bt R i = true) : ∀ m, bt (bz_yr ls os R m) i = true := by
  intro m
  induction m with
  | zero => exact h
  | succ m ih => exact bz_yr_1 _ _ _ _ _ ih
theorem bz_Qy {ps : Nat → Int32} {M os : Int32} {n u k : Nat} {R : Int32} {ls : Nat → Int32} (hP : bz_P n ps) (hn : n ≤ 7) (hl : ∀ q, q < 7 → ∀ j, bt (ls q) j = true ↔ bz_E ps M n q j) (h : bz_Q ps M n os u k R) : bz_Q ps M n os u (k + 1) (bz_yr ls os R 7) := by
  refine bz_Qs hP hn h (fun i hi => bz_yr_m _ _ _ i hi 7) ?_ ?_
  · intro i j hi hE ho
    have hi7 : i < 7 := by
      obtain ⟨w, hw, _, hi2, _⟩ := hE
      have := bz_fm_n hP hn hw hi2
      omega
    have key : ∀ m, i < m → bt (bz_yr ls os R m) j = true := by
      intro m
      induction m with
      | zero => intro z; omega
      | succ m ih =>
        intro z
        by_cases e : i = m
        · subst e
          have h5 : bt (ls i) j = true := (hl i hi7 j).mpr hE
          rw [bz_yr_s, if_pos (bz_yr_m _ _ _ i hi i), b_or, b_and, bz_not _ (bz_l32 h5), h5, ho]
          simp
        · exact bz_yr_1 _ _ _ _ _ (ih (by omega))
    exact key 7 hi7
  · intro P hc hR
    have key : ∀ m, m ≤ 7 → ∀ i, bt (bz_yr ls os R m) i = true → P i := by
      intro m
      induction m with
      | zero => intro _ i hi; exact hR i hi
      | succ m ih =>
        intro hm i hi
        rw [bz_yr_s] at hi
        by_cases c : bt (bz_yr ls os R m) m = true
        · rw [if_pos c, b_or, Bool.or_eq_true] at hi
          rcases hi with hi | hi
          · exact ih (by omega) i hi
          · rw [b_and, Bool.and_eq_true] at hi
            obtain ⟨h5, h6⟩ := hi
            rw [bz_not _ (bz_l32 h5)] at h6
            refine hc m i (ih (by omega) m c) ((hl m (by omega) i).mp h5) ?_
            simpa using h6
        · rw [if_neg c] at hi
          exact ih (by omega) i hi
    exact key 7 (Nat.le_refl _)
/-- the reference's lines -/
def bz_d1 (f : Int32) (L : Nat → Int32) (m : Nat) : Nat → Int32 := fun q => if q < m ∧ bt f q = true then L q ||| f else L q
theorem bz_d1_0 (f : Int32) (L : Nat → Int32) : bz_d1 f L 0 = L := by
  funext q
  unfold bz_d1
  rw [if_neg (fun z : q < 0 ∧ bt f q = true => Nat.not_lt_zero q z.1)]
theorem bz_d1_t {f : Int32} {L : Nat → Int32} {m : Nat} (h : bt f m = true) : upd (bz_d1 f L m) m (bz_d1 f L m m ||| f) = bz_d1 f L (m + 1) := by
  funext q
  unfold upd bz_d1
  by_cases e : q = m
  · subst e
    rw [if_pos rfl, if_neg (fun z : q < q ∧ bt f q = true => Nat.lt_irrefl q z.1), if_pos (⟨Nat.lt_succ_self q, h⟩ : q < q + 1 ∧ bt f q = true)]
  · rw [if_neg e]
    by_cases c : q < m ∧ bt f q = true
    · rw [if_pos c, if_pos (⟨by omega, c.2⟩ : q < m + 1 ∧ bt f q = true)]
    · rw [if_neg c, if_neg (fun z : q < m + 1 ∧ bt f q = true => c ⟨by omega, z.2⟩)]
theorem bz_d1_f {f : Int32} {L : Nat → Int32} {m : Nat} (h : ¬ bt f m = true) : bz_d1 f L m = bz_d1 f L (m + 1) := by
  funext q
  unfold bz_d1
  by_cases c : q < m ∧ bt f q = true
  · rw [if_pos c, if_pos (⟨by omega, c.2⟩ : q < m + 1 ∧ bt f q = true)]
  · rw [if_neg c, if_neg]
    rintro ⟨z1, z2⟩
    by_cases e : q = m
    · subst e; exact h z2
    · exact c ⟨by omega, z2⟩
def bz_z (L : Nat → Int32) (m : Nat) : Nat → Int32 := fun q => if q < m then 0 else L q
theorem bz_z0 (L : Nat → Int32) : bz_z L 0 = L := by
  funext q
  unfold bz_z
  rw [if_neg (Nat.not_lt_zero q)]
theorem bz_zs (L : Nat → Int32) (m : Nat) : upd (bz_z L m) m 0 = bz_z L (m + 1) := by
  funext q
  unfold upd bz_z
  by_cases e : q = m
  · rw [if_pos e, if_pos (by omega)]
  · rw [if_neg e]
    by_cases c : q < m
    · rw [if_pos c, if_pos (by omega)]
    · rw [if_neg c, if_neg (by omega)]
def bz_dr (ps : Nat → Int32) (M : Int32) (L : Nat → Int32) : Nat → (Nat → Int32)
  | 0 => bz_z L 7
  | m + 1 => if bt M m = true then bz_d1 (bz_fm ps m) (bz_dr ps M L m) 7 else bz_dr ps M L m
theorem bz_dr_s (ps : Nat → Int32) (M : Int32) (L : Nat → Int32) (m : Nat) : bz_dr ps M L (m + 1) = if bt M m = true then bz_d1 (bz_fm ps m) (bz_dr ps M L m) 7 else bz_dr ps M L m := rfl
theorem bz_dr_b (ps : Nat → Int32) (M : Int32) (L : Nat → Int32) {q : Nat} (hq : q < 7) (j : Nat) : ∀ m, bt (bz_dr ps M L m q) j = true ↔ bz_E ps M m q j := by
  intro m
  induction m with
  | zero =>
    have e : bz_dr ps M L 0 q = 0 := if_pos hq
    rw [e, b_0]
    constructor
    · intro h; cases h
    · rintro ⟨w, hw, _⟩; omega
  | succ m ih =>
    have up : bz_E ps M m q j → bz_E ps M (m + 1) q j := fun ⟨w, hw, h⟩ => ⟨w, by omega, h⟩
    rw [bz_dr_s]
    by_cases c : bt M m = true
    · rw [if_pos c]
      unfold bz_d1
      by_cases d : bt (bz_fm ps m) q = true
      · rw [if_pos (⟨hq, d⟩ : q < 7 ∧ bt (bz_fm ps m) q = true), b_or, Bool.or_eq_true, ih]
        constructor
        · rintro (h | h)
          · exact up h
          · exact ⟨m, by omega, c, d, h⟩
        · rintro ⟨w, hw, h1, h2, h3⟩
          by_cases e : w = m
          · subst e; exact Or.inr h3
          · exact Or.inl ⟨w, by omega, h1, h2, h3⟩
      · rw [if_neg (fun z : q < 7 ∧ bt (bz_fm ps m) q = true => d z.2), ih]
        constructor
        · exact up
        · rintro ⟨w, hw, h1, h2, h3⟩
          by_cases e : w = m
          · subst e; exact absurd h2 d
          · exact ⟨w, by omega, h1, h2, h3⟩
    · rw [if_neg c, ih]
      constructor
      · exact up
      · rintro ⟨w, hw, h1, h2, h3⟩
        by_cases e : w = m
        · subst e; exact absurd h1 c
        · exact ⟨w, by omega, h1, h2, h3⟩
theorem bz_E7 {ps : Nat → Int32} {M : Int32} {n q j : Nat} (hn : n ≤ 7) (hM : ∀ i, n ≤ i → bt M i = false) : bz_E ps M 7 q j ↔ bz_E ps M n q j := by
  constructor
  · rintro ⟨w, hw, h1, h2⟩
    refine ⟨w, ?_, h1, h2⟩
    rcases Nat.lt_or_ge w n with z | z
    · exact z
    · rw [hM w z] at h1
      cases h1
  · rintro ⟨w, hw, h⟩
    exact ⟨w, by omega, h⟩
/-- filling and sowing -/
def bz_fl (en : Nat → Int32) (b m : Nat) : Nat → Int32 := fun j => if b ≤ j ∧ j < b + m then 1 else en j
theorem bz_fl0 (en : Nat → Int32) (b : Nat) : bz_fl en b 0 = en := by
  funext j
  unfold bz_fl
  rw [if_neg (by omega)]
theorem bz_fls (en : Nat → Int32) (b m : Nat) : upd (bz_fl en b m) (b + m) 1 = bz_fl en b (m + 1) := by
  funext j
  unfold upd bz_fl
  by_cases e : j = b + m
  · rw [if_pos e, if_pos (by omega)]
  · rw [if_neg e]
    by_cases c : b ≤ j ∧ j < b + m
    · rw [if_pos c, if_pos (by omega)]
    · rw [if_neg c, if_neg (by omega)]
theorem bz_flf (en : Nat → Int32) (m k : Nat) : bz_fl (bz_fl en 0 m) m k = bz_fl en 0 (m + k) := by
  funext j
  unfold bz_fl
  by_cases c : m ≤ j ∧ j < m + k
  · rw [if_pos c, if_pos (by omega)]
  · rw [if_neg c]
    by_cases d : 0 ≤ j ∧ j < 0 + m
    · rw [if_pos d, if_pos (by omega)]
    · rw [if_neg d, if_neg (by omega)]
theorem bz_flN {en : Nat → Int32} (h : bz_N en) (b m : Nat) : bz_N (bz_fl en b m) := by
  intro j hj
  unfold bz_fl
  by_cases c : b ≤ j ∧ j < b + m
  · rw [if_pos c]; exact ⟨1, by omega, rfl⟩
  · rw [if_neg c]; exact h j hj
theorem bz_upN {en : Nat → Int32} (h : bz_N en) (k : Nat) {e : Nat} (he : e ≤ 9) : bz_N (upd en k (nI e)) := by
  intro j hj
  unfold upd
  by_cases c : j = k
  · rw [if_pos c]; exact ⟨e, he, rfl⟩
  · rw [if_neg c]; exact h j hj
def bz_sw (en : Nat → Int32) (v s : Nat) : Nat → (Nat → Int32)
  | 0 => en
  | r + 1 => upd (upd (bz_sw en v s r) (16 * v + 2 * r) (nI ((s + 3 * r) % 10))) (16 * v + 2 * r + 1) (nI ((s + 3 * r + 5 + r) % 10))
theorem bz_sw_s (en : Nat → Int32) (v s r : Nat) : bz_sw en v s (r + 1) = upd (upd (bz_sw en v s r) (16 * v + 2 * r) (nI ((s + 3 * r) % 10))) (16 * v + 2 * r + 1) (nI ((s + 3 * r + 5 + r) % 10)) := rfl
theorem bz_swN {en : Nat → Int32} (h : bz_N en) (v s : Nat) : ∀ r, bz_N (bz_sw en v s r) := by
  intro r
  induction r with
  | zero => exact h
  | succ r ih => exact bz_upN (bz_upN ih _ (by omega)) _ (by omega)
