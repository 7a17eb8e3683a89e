/-! the component's walks against the pure rows -/
theorem bz_tr {α : Type} {P : α → Prop} {a b : α} (e : a = b) (h : P a) : P b := e ▸ h
theorem bz_lpF {α : Type} (W : Nat → Int32 → α → Prop) (F : Nat → α) (e : Nat) (hx : ∀ n, W (n + 1) (nI e) (F e)) (hs : ∀ n i, i < e → W n (nI (i + 1)) (F (i + 1)) → W (n + 1) (nI i) (F i)) : ∃ n, W n (nI 0) (F 0) := by
  have key : ∀ d i, i + d = e → W (d + 1) (nI i) (F i) := by
    intro d
    induction d with
    | zero =>
      intro i h
      have h2 : i = e := by omega
      subst h2
      exact hx 0
    | succ d ih =>
      intro i h
      exact hs (d + 1) i (by omega) (ih (i + 1) (by omega))
  exact ⟨e + 1, key e 0 (by omega)⟩
theorem bz_q1 {s : Int32} {i : Nat} (hi : i < 32) (c : bt s i = true) : s >>> (nI i &&& 31) &&& 1 = 1 := by rw [bz_tst s hi, c]; rfl
theorem bz_q0 {s : Int32} {i : Nat} (hi : i < 32) (c : ¬ bt s i = true) : ¬ s >>> (nI i &&& 31) &&& 1 = 1 := by rw [bz_tst s hi, bz_sv1]; exact c
theorem bz_p1 {ps : Nat → Int32} {v i : Nat} (hv : v < 7) (hi : i < 32) (c : bt (ps v) i = true) : (ps (nI v).toNatClampNeg) >>> (nI i &&& 31) &&& 1 = 1 := by rw [nI_clamp (by omega)]; exact bz_q1 hi c
theorem bz_p0 {ps : Nat → Int32} {v i : Nat} (hv : v < 7) (hi : i < 32) (c : ¬ bt (ps v) i = true) : ¬ (ps (nI v).toNatClampNeg) >>> (nI i &&& 31) &&& 1 = 1 := by rw [nI_clamp (by omega)]; exact bz_q0 hi c
theorem bz_szs (s : Int32) {i : Nat} (hi : i < 32) : nI (bz_pc s i) + (s >>> (nI i &&& 31) &&& 1) = nI (bz_pc s (i + 1)) := by rw [bz_tst s hi, bz_svn, nI_add, bz_pc_s]
theorem bz_rws {s : Int32} (x : Int32) {i : Nat} (hi : i < 32) (c : bt s i = true) (h3 : bz_pc s (i + 1) ≤ 3) : nI (bz_row s x i) ||| ((x >>> (nI i &&& 31) &&& 1) <<< (nI (bz_pc s i) &&& 31)) = nI (bz_row s x (i + 1)) := by
  have h4 : bz_pc s (i + 1) = bz_pc s i + 1 := by rw [bz_pc_s, c]; rfl
  have h5 := bz_row_lt s x i
  have h6 : 2 ^ bz_pc s i ≤ 2 ^ 2 := Nat.pow_le_pow_right (by decide) (by omega)
  rw [bz_tst x hi, bz_orT (bz_pc s i) (by omega) (bz_row s x i) (by omega) h5 (bt x i), bz_row_s, if_pos c]
theorem bz_pcs {s : Int32} {i : Nat} (c : bt s i = true) : nI (bz_pc s i) + 1 = nI (bz_pc s (i + 1)) := by rw [nI_1, bz_pc_s, c]; rfl
theorem bz_pcf {s : Int32} {i : Nat} (c : ¬ bt s i = true) : bz_pc s i = bz_pc s (i + 1) := by rw [bz_pc_s, bz_nt c]; rfl
theorem bz_rwf {s x : Int32} {i : Nat} (c : ¬ bt s i = true) : bz_row s x i = bz_row s x (i + 1) := by rw [bz_row_s, if_neg c]
theorem bz_wtc {ps en : Nat → Int32} {x : Int32} {i : Nat} (h : bz_ix ps x i < 112) : bz_wt ps en x i * en (nI (bz_ix ps x i)).toNatClampNeg = bz_wt ps en x (i + 1) := by rw [nI_clamp (by omega), bz_wt_s]
theorem bz_eX (ps : Nat → Int32) (x : Int32) {i : Nat} (hi : i < 32) : nI i * 16 + nI (bz_row (ps i) x i) * 2 + (x >>> (nI i &&& 31) &&& 1) = nI (bz_ix ps x i) := by
  rw [bz_tst x hi, bz_svn]
  show nI i * nI 16 + nI (bz_row (ps i) x i) * nI 2 + nI (bt x i).toNat = _
  rw [pk_mul, pk_mul, nI_add, nI_add]
  exact congrArg nI (by unfold bz_ix; omega)
theorem bz_eY (ps : Nat → Int32) (x : Int32) {i : Nat} (hi : i < 32) : 16 * nI i + 2 * nI (bz_row (ps i) x i) + (x >>> (nI i &&& 31) &&& 1) = nI (bz_ix ps x i) := by
  rw [bz_tst x hi, bz_svn]
  show nI 16 * nI i + nI 2 * nI (bz_row (ps i) x i) + nI (bt x i).toNat = _
  rw [pk_mul, pk_mul, nI_add, nI_add]
  exact congrArg nI (by unfold bz_ix; omega)
theorem bz_xsz (s : Int32) (post : Int32 → Prop) (h : post (nI (bz_pc s 7))) : wpX_sizeOf post s :=
  bz_lpF (fun f i (a : Int32) => wX_sizeOf_4 post s f a i) (fun i => nI (bz_pc s i)) 7
    (fun f => br_t (nI_le (a := 7) (b := 7) (by decide) (by decide)) h)
    (fun f i hi k => br_f (nI_ge (b := 7) hi (by decide)) (nm_r (bz_szs s (by omega)) (nm_r (nI_1 i) k)))
theorem bz_xplace (Q : Int32 → Prop) {p0 p1 p2 : Int32} {m : Nat} (e : p0 * 16 + p1 * 2 + p2 = nI m) (h : Q (nI m)) : wpX_placeOf Q p0 p1 p2 := by
  unfold wpX_placeOf
  rw [e]
  exact h
theorem bz_xrow {n : Nat} {os oo : Int32} {ps en : Nat → Int32} (hP : bz_P n ps) {v : Nat} (hv : v < 7) (x : Int32) (post : Int32 → Prop) (h : post (nI (bz_row (ps v) x v))) : wpX_rowFor post (nI n, os, oo, ps, en) (nI v) x := by
  refine bz_lpF (fun f i (a : Int32 × Int32) => wX_rowFor_8 post (nI v) x (nI n) os oo ps en f a.1 a.2 i) (fun i => (nI (bz_row (ps v) x i), nI (bz_pc (ps v) i))) v (fun f => br_t (nI_le (Nat.le_refl v) (by omega)) h) ?_
  intro f i hi k
  have h3 : bz_pc (ps v) (i + 1) ≤ 3 := Nat.le_trans (bz_pc_mono _ (by omega)) (hP v hv).2.1
  refine br_f (nI_ge hi (by omega)) ⟨vp_in_nI hv (by decide), ?_⟩
  by_cases c : bt (ps v) i = true
  · exact br_t (bz_p1 hv (by omega) c) (nm_r (bz_rws x (by omega) c h3) (nm_r (bz_pcs c) (nm_r (nI_1 i) k)))
  · refine br_f (bz_p0 hv (by omega) c) (nm_r (nI_1 i) ?_)
    show wX_rowFor_8 post (nI v) x (nI n) os oo ps en f (nI (bz_row (ps v) x i)) (nI (bz_pc (ps v) i)) (nI (i + 1))
    rw [bz_rwf (x := x) c, bz_pcf c]
    exact k
theorem bz_xwt {n : Nat} {os oo : Int32} {ps en : Nat → Int32} (hP : bz_P n ps) (hn : n ≤ 7) (x : Int32) (post : Int32 → Prop) (h : post (bz_wt ps en x n)) : wpX_weightOf post (nI n, os, oo, ps, en) x := by
  refine bz_lpF (fun f i (a : Int32) => wX_weightOf_4 post x (nI n) os oo ps en f a i) (fun i => bz_wt ps en x i) n (fun f => br_t (nI_le (Nat.le_refl n) (by omega)) h) ?_
  intro f i hi k
  have h7 := bz_ix_lt hP (by omega : i < 7) x
  exact br_f (nI_ge hi (by omega)) (bz_xrow hP (by omega) x _ (bz_xplace _ (bz_eX ps x (by omega)) ⟨vp_in_nI h7 (by decide), nm_r (bz_wtc h7) (nm_r (nI_1 i) k)⟩))
def bz_W (ps en : Nat → Int32) (n k : Nat) : Int32 := bz_wt ps en (nI k) n
theorem bz_xsum {n : Nat} {os oo : Int32} {ps en : Nat → Int32} (hP : bz_P n ps) (hn : n ≤ 7) (fx o : Int32) (post : Int64 → Prop) (h : post (bz_sum (bz_cx os oo fx o) (bz_W ps en n) (2 ^ n))) : wpX_sumWhere post (nI n, os, oo, ps, en) fx o := by
  have h27 := bz_pow hn
  refine nm_r (bz_p2 n (by omega)) ?_
  refine bz_lpF (fun f i (a : Int64) => wX_sumWhere_13 post fx o (nI (2 ^ n)) (nI n) os oo ps en f a i) (fun i => bz_sum (bz_cx os oo fx o) (bz_W ps en n) i) (2 ^ n) (fun f => br_t (nI_le (Nat.le_refl _) (by omega)) h) ?_
  intro f i hi k
  refine br_f (nI_ge hi (by omega)) ?_
  by_cases a : nI i &&& os = oo
  · refine br_t a (br_f (by decide) ?_)
    by_cases b : nI i &&& fx = o
    · have c : bz_cx os oo fx o i = true := by unfold bz_cx; rw [decide_eq_true a, decide_eq_true b]; rfl
      have e : bz_sum (bz_cx os oo fx o) (bz_W ps en n) i + (bz_wt ps en (nI i) n).toInt64 = bz_sum (bz_cx os oo fx o) (bz_W ps en n) (i + 1) := by rw [bz_sum_s, if_pos c]; rfl
      exact br_t b (bz_xwt hP hn (nI i) _ (nm_r e (nm_r (nI_1 i) k)))
    · have c : bz_cx os oo fx o i = false := by unfold bz_cx; rw [decide_eq_false b, Bool.and_false]
      have e : bz_sum (bz_cx os oo fx o) (bz_W ps en n) (i + 1) = bz_sum (bz_cx os oo fx o) (bz_W ps en n) i := by rw [bz_sum_s, c, if_neg Bool.false_ne_true]
      exact br_f b (nm_r (nI_1 i) (bz_tr (P := fun z => wX_sumWhere_13 post fx o (nI (2 ^ n)) (nI n) os oo ps en f z (nI (i + 1))) e k))
  · have c : bz_cx os oo fx o i = false := by unfold bz_cx; rw [decide_eq_false a, Bool.false_and]
    have e : bz_sum (bz_cx os oo fx o) (bz_W ps en n) (i + 1) = bz_sum (bz_cx os oo fx o) (bz_W ps en n) i := by rw [bz_sum_s, c, if_neg Bool.false_ne_true]
    exact br_f a (br_t rfl (nm_r (nI_1 i) (bz_tr (P := fun z => wX_sumWhere_13 post fx o (nI (2 ^ n)) (nI n) os oo ps en f z (nI (i + 1))) e k)))
theorem bz_xmax {n : Nat} {os oo : Int32} {ps en : Nat → Int32} (hP : bz_P n ps) (hn : n ≤ 7) (fx o : Int32) (post : Int32 → Prop) (h : post (bz_max (bz_cx os oo fx o) (bz_W ps en n) (2 ^ n))) : wpX_greatestWhere post (nI n, os, oo, ps, en) fx o := by
  have h27 := bz_pow hn
  refine nm_r (bz_p2 n (by omega)) ?_
  refine bz_lpF (fun f i (a : Int32) => wX_greatestWhere_13 post fx o (nI (2 ^ n)) (nI n) os oo ps en f a i) (fun i => bz_max (bz_cx os oo fx o) (bz_W ps en n) i) (2 ^ n) (fun f => br_t (nI_le (Nat.le_refl _) (by omega)) h) ?_
  intro f i hi k
  refine br_f (nI_ge hi (by omega)) ?_
  by_cases a : nI i &&& os = oo
  · refine br_t a (br_f (by decide) ?_)
    by_cases b : nI i &&& fx = o
    · have c : bz_cx os oo fx o i = true := by unfold bz_cx; rw [decide_eq_true a, decide_eq_true b]; rfl
      refine br_t b (bz_xwt hP hn (nI i) _ ?_)
      by_cases l : bz_max (bz_cx os oo fx o) (bz_W ps en n) i < bz_W ps en n i
      · have e : bz_max (bz_cx os oo fx o) (bz_W ps en n) (i + 1) = bz_W ps en n i := by rw [bz_max_s, if_pos c, if_pos l]
        exact br_f (Int32.not_le.mpr l) (nm_r (nI_1 i) (bz_tr (P := fun z => wX_greatestWhere_13 post fx o (nI (2 ^ n)) (nI n) os oo ps en f z (nI (i + 1))) e k))
      · have e : bz_max (bz_cx os oo fx o) (bz_W ps en n) (i + 1) = bz_max (bz_cx os oo fx o) (bz_W ps en n) i := by rw [bz_max_s, if_pos c, if_neg l]
        exact br_t (Int32.not_lt.mp l) (nm_r (nI_1 i) (bz_tr (P := fun z => wX_greatestWhere_13 post fx o (nI (2 ^ n)) (nI n) os oo ps en f z (nI (i + 1))) e k))
    · have c : bz_cx os oo fx o i = false := by unfold bz_cx; rw [decide_eq_false b, Bool.and_false]
      have e : bz_max (bz_cx os oo fx o) (bz_W ps en n) (i + 1) = bz_max (bz_cx os oo fx o) (bz_W ps en n) i := by rw [bz_max_s, c, if_neg Bool.false_ne_true]
      exact br_f b (nm_r (nI_1 i) (bz_tr (P := fun z => wX_greatestWhere_13 post fx o (nI (2 ^ n)) (nI n) os oo ps en f z (nI (i + 1))) e k))
  · have c : bz_cx os oo fx o i = false := by unfold bz_cx; rw [decide_eq_false a, Bool.false_and]
    have e : bz_max (bz_cx os oo fx o) (bz_W ps en n) (i + 1) = bz_max (bz_cx os oo fx o) (bz_W ps en n) i := by rw [bz_max_s, c, if_neg Bool.false_ne_true]
    exact br_f a (br_t rfl (nm_r (nI_1 i) (bz_tr (P := fun z => wX_greatestWhere_13 post fx o (nI (2 ^ n)) (nI n) os oo ps en f z (nI (i + 1))) e k)))
theorem bz_xfind {n : Nat} {os oo : Int32} {ps en : Nat → Int32} (hP : bz_P n ps) (hn : n ≤ 7) (g : Int32) (post : Int32 → Prop) {q : Nat} (hq : q < 2 ^ n) (ha : nI q &&& os = oo) (hw : bz_W ps en n q = g) (hl : ∀ j, j < q → ¬ (nI j &&& os = oo ∧ bz_W ps en n j = g)) (h : post (nI q)) : ∃ f, wX_bestNumber_16 post g (nI (2 ^ n)) (nI n) os oo ps en f 0 := by
  have h27 := bz_pow hn
  have key : ∀ d i, i + d = q → wX_bestNumber_16 post g (nI (2 ^ n)) (nI n) os oo ps en (d + 1) (nI i) := by
    intro d
    induction d with
    | zero =>
      intro i hi
      have hi2 : i = q := by omega
      subst hi2
      exact br_f (nI_ge hq (by omega)) (br_t ha (br_f (by decide) (bz_xwt hP hn (nI i) _ (br_t hw h))))
    | succ d ih =>
      intro i hi
      refine br_f (nI_ge (by omega) (by omega)) ?_
      have k := ih (i + 1) (by omega)
      by_cases a : nI i &&& os = oo
      · exact br_t a (br_f (by decide) (bz_xwt hP hn (nI i) _ (br_f (fun z => hl i (by omega) ⟨a, z⟩) (nm_r (nI_1 i) k))))
      · exact br_f a (br_t rfl (nm_r (nI_1 i) k))
  exact ⟨q + 1, key q 0 (by omega)⟩
theorem bz_nm1 : ∀ n, n < 8 → nI n - 1 = nI n + (-1) := by decide +kernel
theorem bz_xan {n : Nat} {os oo : Int32} {ps en : Nat → Int32} (hn : n ≤ 7) (s : Int32) (post : Int32 → Prop) (h : post (bz_an ps n s)) : wpX_withAncestors post (nI n, os, oo, ps, en) s := by
  have key : ∀ m, m ≤ 7 → ∀ s, post (bz_an ps m s) → wX_withAncestors_9 post (nI n) os oo ps en (m + 1) s (nI m + (-1)) := by
    intro m
    induction m with
    | zero =>
      intro _ s h
      exact br_t (by decide) h
    | succ m ih =>
      intro hm s h
      rw [pk_m1]
      rw [bz_an_s] at h
      refine br_f (nI_pos (by omega)) ?_
      by_cases c : bt s m = true
      · rw [if_pos c] at h
        exact br_t (bz_q1 (by omega) c) ⟨vp_in_nI (by omega) (by decide), nm_r (by rw [nI_clamp (by omega)]) (nm_e (ih (by omega) _ h))⟩
      · rw [if_neg c] at h
        exact br_f (bz_q0 (by omega) c) (nm_e (ih (by omega) _ h))
  exact nm_r (bz_nm1 n (by omega)) ⟨n + 1, key n hn s h⟩
theorem bz_xlk {n : Nat} {os oo : Int32} {ps en : Nat → Int32} (hn : n ≤ 7) (S M : Int32) (post : Int32 → Prop) (h : post (bz_lk ps S M n)) : wpX_linkedTo post (nI n, os, oo, ps, en) S M := by
  refine bz_lpF (fun f i (a : Int32) => wX_linkedTo_5 post S M (nI n) os oo ps en f a i) (fun i => bz_lk ps S M i) n (fun f => br_t (nI_le (Nat.le_refl _) (by omega)) h) ?_
  intro f i hi k
  have e0 : (ps (nI i).toNatClampNeg) ||| ((1 : Int32) <<< (nI i &&& 31)) = bz_fm ps i := by rw [nI_clamp (by omega)]; rfl
  refine br_f (nI_ge hi (by omega)) ⟨vp_in_nI (by omega) (by decide), nm_r e0 ?_⟩
  by_cases c : bt M i = true
  · refine br_t (bz_q1 (by omega) c) ?_
    by_cases d : bz_fm ps i &&& S = 0
    · have e : bz_lk ps S M (i + 1) = bz_lk ps S M i := by rw [bz_lk_s, if_neg (fun z : bt M i = true ∧ ¬ (bz_fm ps i &&& S = 0) => z.2 d)]
      exact br_t d (nm_r (nI_1 i) (bz_tr (P := fun z => wX_linkedTo_5 post S M (nI n) os oo ps en f z (nI (i + 1))) e k))
    · have e : bz_lk ps S M i ||| bz_fm ps i = bz_lk ps S M (i + 1) := by rw [bz_lk_s, if_pos (⟨c, d⟩ : bt M i = true ∧ ¬ (bz_fm ps i &&& S = 0))]
      exact br_f d (nm_r e (nm_r (nI_1 i) k))
  · have e : bz_lk ps S M (i + 1) = bz_lk ps S M i := by rw [bz_lk_s, if_neg (fun z : bt M i = true ∧ ¬ (bz_fm ps i &&& S = 0) => c z.1)]
    exact br_f (bz_q0 (by omega) c) (nm_r (nI_1 i) (bz_tr (P := fun z => wX_linkedTo_5 post S M (nI n) os oo ps en f z (nI (i + 1))) e k))
theorem bz_xfill {n : Nat} {os oo : Int32} {ps en : Nat → Int32} {c0 : Int32} {v : Nat} (hv : v < 7) (post : SX → Prop) (h : post (c0, os, oo, ps, bz_fl en (16 * v) 16)) : wpX_fillTableWithOnes post (c0, os, oo, ps, en) (nI v) := by
  have e0 : nI v * 16 = nI (16 * v) := by
    show nI v * nI 16 = _
    rw [pk_mul, Nat.mul_comm]
  refine nm_r e0 ?_
  have key := bz_lpF (fun f i (a : Nat → Int32) => wX_fillTableWithOnes_7 post (nI (16 * v)) c0 os oo f i ps a) (fun i => bz_fl en (16 * v) i) 16 (fun f => br_t (nI_le (a := 16) (b := 16) (by decide) (by decide)) h) (by
    intro f i hi k
    have e1 : nI (16 * v) + nI i = nI (16 * v + i) := nI_add _ _
    refine br_f (nI_ge (b := 16) hi (by decide)) ?_
    rw [e1]
    exact ⟨vp_in_nI (by omega) (by decide), nm_r (by rw [nI_clamp (by omega), bz_fls]) (nm_r (nI_1 i) k)⟩)
  rw [bz_fl0] at key
  exact key
theorem bz_xgood {n : Nat} {os oo : Int32} {ps en : Nat → Int32} {v : Nat} (hn : n ≤ 7) (hv : v < n) (Q : Int32 → Prop) (h : Q 1) : wpX_isGood Q (nI n, os, oo, ps, en) (nI v) :=
  br_f (nI_pos (by omega)) (br_f (nI_ge hv (by omega)) h)
theorem bz_xbad {n : Nat} {os oo : Int32} {ps en : Nat → Int32} {x : Int32} (hx : x < 0 ∨ nI n ≤ x) (Q : Int32 → Prop) (h : Q 0) : wpX_isGood Q (nI n, os, oo, ps, en) x := by
  by_cases c : x < 0
  · exact br_t c h
  · rcases hx with z | z
    · exact absurd z c
    · exact br_f c (br_t z h)
theorem bz_xval (B : Bool) (Q : Int32 → Prop) (h : Q 1) : wpX_isValue Q (bz_sv B) := by
  cases B
  · exact br_t rfl h
  · exact br_f (by decide) (br_t rfl h)
theorem bz_xnval {x : Int32} (h0 : ¬ x = 0) (h1 : ¬ x = 1) (Q : Int32 → Prop) (h : Q 0) : wpX_isValue Q x := br_f h0 (br_f h1 h)
