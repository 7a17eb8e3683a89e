/-! further walks: rows, stores, pairs -/
theorem bz_gd (x : Int32) {n : Nat} (hn : n ≤ 7) : (x < 0 ∨ nI n ≤ x) ∨ ∃ v, v < n ∧ x = nI v := by
  rcases pk_ix x (n := n) (by omega) with z | z | z
  · exact Or.inl (Or.inl z)
  · exact Or.inl (Or.inr z)
  · exact Or.inr z
theorem bz_ca (a : Nat → Int32) {v : Nat} (hv : v < 112) : a (nI v).toNatClampNeg = a v := by rw [nI_clamp (by omega)]
theorem bz_cu (a : Nat → Int32) {v : Nat} (x : Int32) (hv : v < 112) : upd a (nI v).toNatClampNeg x = upd a v x := by rw [nI_clamp (by omega)]
theorem bz_xrc {n : Nat} {os oo : Int32} {ps en : Nat → Int32} (hP : bz_P n ps) {v : Nat} (hv : v < 7) (Q : Int32 → Prop) (h : Q (nI (2 ^ bz_pc (ps v) 7))) : wpX_rowCount Q (nI n, os, oo, ps, en) (nI v) := by
  refine ⟨vp_in_nI hv (by decide), ?_⟩
  rw [bz_ca ps (by omega)]
  refine bz_xsz _ _ ?_
  rw [bz_p2 _ (by have := bz_pc_le (ps v) 7; omega)]
  exact h
theorem bz_yrc {n : Nat} {ps en se ls : Nat → Int32} (hP : bz_P n ps) {v : Nat} (hv : v < 7) (Q : Int32 → Prop) (h : Q (nI (2 ^ bz_pc (ps v) 7))) : wpY_rows Q (nI n, ps, en, se, ls) (nI v) := by
  refine ⟨vp_in_nI hv (by decide), ?_⟩
  rw [bz_ca ps (by omega)]
  refine bz_ysz _ _ ?_
  rw [bz_p2 _ (by have := bz_pc_le (ps v) 7; omega)]
  exact h
theorem bz_r8 {n : Nat} {ps : Nat → Int32} (hP : bz_P n ps) {v : Nat} (hv : v < 7) : 2 ^ bz_pc (ps v) 7 ≤ 8 := (Nat.pow_le_pow_right (by decide) (hP v hv).2.1 : 2 ^ bz_pc (ps v) 7 ≤ 2 ^ 3)
theorem bz_xov {n : Nat} {os oo : Int32} {ps en : Nat → Int32} {v : Nat} (hv : v < 32) (Q : Int32 → Prop) (h : Q (bz_ov os oo v)) : wpX_observedValue Q (nI n, os, oo, ps, en) (nI v) := by
  unfold bz_ov at h
  show ((os >>> (nI v &&& 31) &&& 1 = 0 → Q 2) ∧ (¬ os >>> (nI v &&& 31) &&& 1 = 0 → Q (oo >>> (nI v &&& 31) &&& 1)))
  rw [bz_tst os hv, bz_tst oo hv]
  by_cases c : bt os v = true
  · rw [if_pos c] at h
    exact br_f (by rw [c]; decide) h
  · rw [if_neg c] at h
    exact br_t (by rw [bz_nt c]; decide) h
theorem bz_ypar {n : Nat} {ps en se ls : Nat → Int32} {v : Nat} (hv : v < 7) (x3 : Int32) (post : Int32 → SY → Prop) (h : post x3 (nI n, ps, bz_fl en (16 * v) 16, se, ls)) : ∃ f, wY_parents_50 post (nI v) x3 (nI n) f 0 ps en se ls := by
  have e0 : 16 * nI v = nI (16 * v) := pk_mul 16 v
  have key := bz_lpF (fun f i (a : Nat → Int32) => wY_parents_50 post (nI v) x3 (nI n) f i ps a se ls) (fun i => bz_fl en (16 * v) i) 16 (fun f => br_t (nI_le (a := 16) (b := 16) (by decide) (by decide)) h) (by
    intro f i hi k
    have e1 : 16 * nI v + nI i = nI (16 * v + i) := by rw [e0, nI_add]
    refine br_f (nI_ge (b := 16) hi (by decide)) ?_
    rw [e1]
    exact ⟨vp_in_nI (by omega) (by decide), nm_r (by rw [nI_clamp (by omega), bz_fls]) (nm_r (nI_1 i) k)⟩)
  rw [bz_fl0] at key
  exact key
theorem bz_pX (v r b : Nat) : nI v * 16 + nI r * 2 + nI b = nI (16 * v + 2 * r + b) := by
  show nI v * nI 16 + nI r * nI 2 + nI b = _
  rw [pk_mul, pk_mul, nI_add, nI_add]
  exact congrArg nI (by omega)
theorem bz_pY (v r b : Nat) : 16 * nI v + 2 * nI r + nI b = nI (16 * v + 2 * r + b) := by
  show nI 16 * nI v + nI 2 * nI r + nI b = _
  rw [pk_mul, pk_mul, nI_add, nI_add]
theorem bz_vT (s r b : Nat) : nI s + 3 * nI r + 5 * nI b + nI r * nI b = nI (s + 3 * r + 5 * b + r * b) := by
  show nI s + nI 3 * nI r + nI 5 * nI b + nI r * nI b = _
  rw [pk_mul, pk_mul, pk_mul, nI_add, nI_add, nI_add]
theorem bz_v10 {a : Nat} (h : a < 1000) : nI a - nI a / 10 * 10 = nI (a % 10) := pk_rem (d := 10) (by omega) (by decide) (by decide)
theorem bz_vR (s r b : Nat) (h : s + 3 * r + 5 * b + r * b < 1000) : (nI s + 3 * nI r + 5 * nI b + nI r * nI b) - (nI s + 3 * nI r + 5 * nI b + nI r * nI b) / 10 * 10 = nI ((s + 3 * r + 5 * b + r * b) % 10) := by
  rw [bz_vT]
  exact bz_v10 h
theorem bz_xsow2 {c0 os oo : Int32} {ps a : Nat → Int32} {v s i : Nat} (hv : v < 7) (hs : s ≤ 9) (hi : i < 8) (x3 : Int32) (post : Int32 → SX → Prop) (J : Int32 → (Nat → Int32) → (Nat → Int32) → Prop)
    (h : J (nI (i + 1)) ps (upd (upd a (16 * v + 2 * i) (nI ((s + 3 * i) % 10))) (16 * v + 2 * i + 1) (nI ((s + 3 * i + 5 + i) % 10)))) : ∃ f, wX_sow_41 post J (nI v) (nI s) x3 (nI i) c0 os oo f 0 ps a := by
  have v0 := bz_vR s i 0 (by omega)
  have v1 := bz_vR s i 1 (by omega)
  rw [show s + 3 * i + 5 * 0 + i * 0 = s + 3 * i from by omega] at v0
  rw [show s + 3 * i + 5 * 1 + i * 1 = s + 3 * i + 5 + i from by omega] at v1
  have e0 : upd a (nI (16 * v + 2 * i + 0)).toNatClampNeg ((nI s + 3 * nI i + 5 * nI 0 + nI i * nI 0) - (nI s + 3 * nI i + 5 * nI 0 + nI i * nI 0) / 10 * 10) = upd a (16 * v + 2 * i) (nI ((s + 3 * i) % 10)) := by
    rw [v0, bz_cu _ _ (by omega)]; rfl
  have e1 : upd (upd a (16 * v + 2 * i) (nI ((s + 3 * i) % 10))) (nI (16 * v + 2 * i + 1)).toNatClampNeg ((nI s + 3 * nI i + 5 * nI 1 + nI i * nI 1) - (nI s + 3 * nI i + 5 * nI 1 + nI i * nI 1) / 10 * 10) = upd (upd a (16 * v + 2 * i) (nI ((s + 3 * i) % 10))) (16 * v + 2 * i + 1) (nI ((s + 3 * i + 5 + i) % 10)) := by
    rw [v1, bz_cu _ _ (by omega)]
  have k2 : wX_sow_41 post J (nI v) (nI s) x3 (nI i) c0 os oo 1 (nI 2) ps (upd (upd a (16 * v + 2 * i) (nI ((s + 3 * i) % 10))) (16 * v + 2 * i + 1) (nI ((s + 3 * i + 5 + i) % 10))) := br_t (by decide) (nm_r (nI_1 i) h)
  have k1 : wX_sow_41 post J (nI v) (nI s) x3 (nI i) c0 os oo 2 (nI 1) ps (upd a (16 * v + 2 * i) (nI ((s + 3 * i) % 10))) := br_f (by decide) (bz_xplace _ (bz_pX v i 1) ⟨by decide, vp_in_nI (by omega) (by decide), nm_r e1 (nm_r (nI_1 1) k2)⟩)
  have k0 : wX_sow_41 post J (nI v) (nI s) x3 (nI i) c0 os oo 3 (nI 0) ps a := br_f (by decide) (bz_xplace _ (bz_pX v i 0) ⟨by decide, vp_in_nI (by omega) (by decide), nm_r e0 (nm_r (nI_1 0) k1)⟩)
  exact ⟨3, k0⟩
theorem bz_xsow {c0 os oo : Int32} {ps en : Nat → Int32} {v s m : Nat} (hv : v < 7) (hs : s ≤ 9) (hm : m ≤ 8) (post : Int32 → SX → Prop) (h : post (2 * nI m) (c0, os, oo, ps, bz_sw en v s m)) : ∃ f, wX_sow_32 post (nI v) (nI s) (nI m) c0 os oo f 0 ps en :=
  bz_lpF (fun f i (a : Nat → Int32) => wX_sow_32 post (nI v) (nI s) (nI m) c0 os oo f i ps a) (fun i => bz_sw en v s i) m (fun f => br_t (nI_le (Nat.le_refl _) (by omega)) h)
    (fun f i hi k => br_f (nI_ge hi (by omega)) (bz_xsow2 hv hs (by omega) (nI m) post _ k))
theorem bz_ysow2 {c0 : Int32} {ps a se ls : Nat → Int32} {v s i : Nat} (hv : v < 7) (hs : s ≤ 9) (hi : i < 8) (x3 : Int32) (post : Int32 → SY → Prop) (J : Int32 → (Nat → Int32) → (Nat → Int32) → (Nat → Int32) → (Nat → Int32) → Prop)
    (h : J (nI (i + 1)) ps (upd (upd a (16 * v + 2 * i) (nI ((s + 3 * i) % 10))) (16 * v + 2 * i + 1) (nI ((s + 3 * i + 5 + i) % 10))) se ls) : ∃ f, wY_sow_41 post J (nI v) (nI s) x3 (nI i) c0 f 0 ps a se ls := by
  have v0 := bz_vR s i 0 (by omega)
  have v1 := bz_vR s i 1 (by omega)
  rw [show s + 3 * i + 5 * 0 + i * 0 = s + 3 * i from by omega] at v0
  rw [show s + 3 * i + 5 * 1 + i * 1 = s + 3 * i + 5 + i from by omega] at v1
  have p0 := bz_pY v i 0
  have p1 := bz_pY v i 1
  have i0 : vp_in (16 * nI v + 2 * nI i + nI 0) 112 := by rw [p0]; exact vp_in_nI (by omega) (by decide)
  have i1 : vp_in (16 * nI v + 2 * nI i + nI 1) 112 := by rw [p1]; exact vp_in_nI (by omega) (by decide)
  have e0 : upd a (16 * nI v + 2 * nI i + nI 0).toNatClampNeg ((nI s + 3 * nI i + 5 * nI 0 + nI i * nI 0) - (nI s + 3 * nI i + 5 * nI 0 + nI i * nI 0) / 10 * 10) = upd a (16 * v + 2 * i) (nI ((s + 3 * i) % 10)) := by
    rw [v0, p0, bz_cu _ _ (by omega)]; rfl
  have e1 : upd (upd a (16 * v + 2 * i) (nI ((s + 3 * i) % 10))) (16 * nI v + 2 * nI i + nI 1).toNatClampNeg ((nI s + 3 * nI i + 5 * nI 1 + nI i * nI 1) - (nI s + 3 * nI i + 5 * nI 1 + nI i * nI 1) / 10 * 10) = upd (upd a (16 * v + 2 * i) (nI ((s + 3 * i) % 10))) (16 * v + 2 * i + 1) (nI ((s + 3 * i + 5 + i) % 10)) := by
    rw [v1, p1, bz_cu _ _ (by omega)]
  have k2 : wY_sow_41 post J (nI v) (nI s) x3 (nI i) c0 1 (nI 2) ps (upd (upd a (16 * v + 2 * i) (nI ((s + 3 * i) % 10))) (16 * v + 2 * i + 1) (nI ((s + 3 * i + 5 + i) % 10))) se ls := br_t (by decide) (nm_r (nI_1 i) h)
  have k1 : wY_sow_41 post J (nI v) (nI s) x3 (nI i) c0 2 (nI 1) ps (upd a (16 * v + 2 * i) (nI ((s + 3 * i) % 10))) se ls := br_f (by decide) ⟨by decide, i1, nm_r e1 (nm_r (nI_1 1) k2)⟩
  have k0 : wY_sow_41 post J (nI v) (nI s) x3 (nI i) c0 3 (nI 0) ps a se ls := br_f (by decide) ⟨by decide, i0, nm_r e0 (nm_r (nI_1 0) k1)⟩
  exact ⟨3, k0⟩
theorem bz_ysow {c0 : Int32} {ps en se ls : Nat → Int32} {v s m : Nat} (hv : v < 7) (hs : s ≤ 9) (hm : m ≤ 8) (post : Int32 → SY → Prop) (h : post (2 * nI m) (c0, ps, bz_sw en v s m, se, ls)) : ∃ f, wY_sow_32 post (nI v) (nI s) (nI m) c0 f 0 ps en se ls :=
  bz_lpF (fun f i (a : Nat → Int32) => wY_sow_32 post (nI v) (nI s) (nI m) c0 f i ps a se ls) (fun i => bz_sw en v s i) m (fun f => br_t (nI_le (Nat.le_refl _) (by omega)) h)
    (fun f i hi k => br_f (nI_ge hi (by omega)) (bz_ysow2 hv hs (by omega) (nI m) post _ k))
theorem bz_xwith {n : Nat} {os oo : Int32} {ps en : Nat → Int32} (hP : bz_P n ps) (hn : n ≤ 7) {v : Nat} (hv : v < n) (B : Bool) (post : Int64 → Prop) (h : post (bz_sum (bz_cm os oo v B) (bz_W ps en n) (2 ^ n))) : wpX_totalWith post (nI n, os, oo, ps, en) (nI v) (bz_sv B) := by
  unfold wpX_totalWith
  dsimp only
  refine bz_xgood hn hv _ (br_f (by decide) ?_)
  refine bz_xval B _ (br_f (by decide) ?_)
  refine bz_xsum hP hn _ _ _ ?_
  rw [bz_sum_c (bz_cx1 os oo (by omega) B)]
  exact h
theorem bz_xpair {n : Nat} {os oo : Int32} {ps en : Nat → Int32} (hP : bz_P n ps) (hn : n ≤ 7) {u v : Nat} (hu : u < n) (hv : v < n) (A B : Bool) (post : Int64 → Prop) (h : post (bz_sum (bz_cd os oo u A v B) (bz_W ps en n) (2 ^ n))) : wpX_totalPair post (nI n, os, oo, ps, en) (nI u) (bz_sv A) (nI v) (bz_sv B) := by
  unfold wpX_totalPair
  dsimp only
  refine bz_xgood hn hu _ (br_f (by decide) ?_)
  refine bz_xgood hn hv _ (br_f (by decide) ?_)
  refine bz_xval A _ (br_f (by decide) ?_)
  refine bz_xval B _ (br_f (by decide) ?_)
  have key : (u = v → A = B) → wX_totalPair_52 post (nI u) (bz_sv A) (nI v) (bz_sv B) (nI n) os oo ps en := fun g =>
    bz_xsum hP hn _ _ _ (by rw [bz_sum_c (bz_cx2 os oo (by omega) (by omega) A B g)]; exact h)
  by_cases e : u = v
  · refine br_t (by rw [e]) ?_
    by_cases g : A = B
    · exact br_t (by rw [g]) (key (fun _ => g))
    · subst e
      rw [bz_sum_z (bz_cd_z os oo u g)] at h
      exact br_f (fun z => g (bz_svi.mp z)) h
  · exact br_f (fun z => e ((nI_eq (by omega) (by omega)).mp z)) (key (fun z => absurd z e))
theorem bz_xind1 {n : Nat} {os oo : Int32} {ps en : Nat → Int32} (hP : bz_P n ps) (hn : n ≤ 7) {u v : Nat} (hu : u < n) (hv : v < n) (T : Int64) (A B : Bool) (post : Int32 → Prop) (J : Int32 → Prop) (f : Nat) {x : Int32} (ex : bz_sv B + 1 = x)
    (h0 : ¬ T * bz_sum (bz_cd os oo u A v B) (bz_W ps en n) (2 ^ n) = bz_sum (bz_cm os oo u A) (bz_W ps en n) (2 ^ n) * bz_sum (bz_cm os oo v B) (bz_W ps en n) (2 ^ n) → post 0)
    (h1 : T * bz_sum (bz_cd os oo u A v B) (bz_W ps en n) (2 ^ n) = bz_sum (bz_cm os oo u A) (bz_W ps en n) (2 ^ n) * bz_sum (bz_cm os oo v B) (bz_W ps en n) (2 ^ n) → wX_independent_35 post J (nI u) (nI v) T (bz_sv A) (nI n) os oo ps en f x) : wX_independent_35 post J (nI u) (nI v) T (bz_sv A) (nI n) os oo ps en (f + 1) (bz_sv B) :=
  br_f (bz_val0 B).2.1 (bz_xpair hP hn hu hv A B _ (bz_xwith hP hn hu A _ (bz_xwith hP hn hv B _ (br_c (fun z => nm_r ex (h1 z)) h0))))
def bz_ind (T : Int64) (n : Nat) (os oo : Int32) (ps en : Nat → Int32) (u v : Nat) (A B : Bool) : Prop := T * bz_sum (bz_cd os oo u A v B) (bz_W ps en n) (2 ^ n) = bz_sum (bz_cm os oo u A) (bz_W ps en n) (2 ^ n) * bz_sum (bz_cm os oo v B) (bz_W ps en n) (2 ^ n)
theorem bz_xind {n : Nat} {os oo : Int32} {ps en : Nat → Int32} (hP : bz_P n ps) (hn : n ≤ 7) {u v : Nat} (hu : u < n) (hv : v < n) (T : Int64) (post : Int32 → Prop)
    (h0 : ∀ A B, ¬ bz_ind T n os oo ps en u v A B → post 0) (h1 : (∀ A B, bz_ind T n os oo ps en u v A B) → post 1) : ∃ f, wX_independent_26 post (nI u) (nI v) T (nI n) os oo ps en f 0 := by
  have inner : ∀ (A : Bool) (J : Int32 → Prop) (x : Int32), bz_sv A + 1 = x → ((∀ B, bz_ind T n os oo ps en u v A B) → J x) → ∃ f, wX_independent_35 post J (nI u) (nI v) T (bz_sv A) (nI n) os oo ps en f 0 := by
    intro A J x ex hJ
    refine ⟨3, bz_xind1 hP hn hu hv T A false post J 2 (x := bz_sv true) (by decide) (h0 A false) (fun a0 => bz_xind1 hP hn hu hv T A true post J 1 (x := 2) (by decide) (h0 A true) (fun a1 => ?_))⟩
    exact br_t (by decide) (nm_r ex (hJ (fun B => by cases B; exact a0; exact a1)))
  refine ⟨3, br_f (by decide) (inner false _ (bz_sv true) (by decide) (fun a => br_f (by decide) (inner true _ 2 (by decide) (fun b => br_t (by decide) (h1 ?_)))))⟩
  intro A
  cases A
  · exact a
  · exact b
theorem bz_yind1 {n : Nat} {os oo : Int32} {ps en se ls : Nat → Int32} (hP : bz_P n ps) (hO : bz_O n os oo se) (hn : n ≤ 7) {u v : Nat} (hu : u < n) (hv : v < n) (T : Int64) (A B : Bool) (post : Int32 → Prop) (f : Nat) {k : Nat} (hk : k < 4) (e1 : nI k / 2 = bz_sv A) (e2 : nI k - nI k / 2 * 2 = bz_sv B)
    (h0 : ¬ bz_ind T n os oo ps en u v A B → post 0)
    (h1 : bz_ind T n os oo ps en u v A B → wY_independent_39 post (nI u) (nI v) T (nI n) ps en se ls f (nI (k + 1))) : wY_independent_39 post (nI u) (nI v) T (nI n) ps en se ls (f + 1) (nI k) :=
  br_f (nI_ge (b := 4) hk (by decide)) ⟨by decide, nm_r e1 ⟨by decide, nm_r e2 (bz_ysum1 hP hO hn (by omega) A _ (bz_ysum1 hP hO hn (by omega) B _ (bz_ysum hP hO hn (by omega) (by omega) A B _ (br_c (fun z => nm_r (nI_1 k) (h1 z)) h0))))⟩⟩
theorem bz_yind {n : Nat} {os oo : Int32} {ps en se ls : Nat → Int32} (hP : bz_P n ps) (hO : bz_O n os oo se) (hn : n ≤ 7) {u v : Nat} (hu : u < n) (hv : v < n) (T : Int64) (post : Int32 → Prop)
    (h0 : ∀ A B, ¬ bz_ind T n os oo ps en u v A B → post 0) (h1 : (∀ A B, bz_ind T n os oo ps en u v A B) → post 1) : ∃ f, wY_independent_39 post (nI u) (nI v) T (nI n) ps en se ls f 0 := by
  refine ⟨5, bz_yind1 hP hO hn hu hv T false false post 4 (k := 0) (by decide) (by decide) (by decide) (h0 _ _) (fun a => bz_yind1 hP hO hn hu hv T false true post 3 (k := 1) (by decide) (by decide) (by decide) (h0 _ _) (fun b => bz_yind1 hP hO hn hu hv T true false post 2 (k := 2) (by decide) (by decide) (by decide) (h0 _ _) (fun c => bz_yind1 hP hO hn hu hv T true true post 1 (k := 3) (by decide) (by decide) (by decide) (h0 _ _) (fun d => br_t (nI_le (a := 4) (b := 4) (by decide) (by decide)) (h1 ?_)))))⟩
  intro A B
  cases A <;> cases B
  · exact a
  · exact b
  · exact c
  · exact d
/-- the two searches -/
theorem bz_xsep {n : Nat} {os oo : Int32} {ps en : Nat → Int32} (hP : bz_P n ps) (hn : n ≤ 7) {u v : Nat} (hu : u < n) (hv : v < n) (M : Int32) (post : Int32 → Prop) (h : ∀ R, bz_Q ps M n os u (n - 1) R → post (bz_sv (!bt R v))) : ∃ f, wX_separated_66 post (nI v) M (nI n) os oo ps en f ((1 : Int32) <<< (nI u &&& 31)) 1 := by
  have key : ∀ d j R, j + 1 + d = n → bz_Q ps M n os u j R → wX_separated_66 post (nI v) M (nI n) os oo ps en (d + 1) R (nI (j + 1)) := by
    intro d
    induction d with
    | zero =>
      intro j R hj hQ
      have hj2 : n = j + 1 := by omega
      have hr := h R (by rw [hj2]; rw [hj2] at hQ; exact hQ)
      refine br_t (nI_le (by omega) (by omega)) ?_
      by_cases c : bt R v = true
      · rw [c] at hr
        refine br_f ?_ hr
        exact (bz_nz _ _).mpr ⟨v, by omega, c, by rw [bz_one (by omega) (by omega), decide_eq_true rfl]⟩
      · rw [bz_nt c] at hr
        refine br_t ?_ hr
        apply Classical.byContradiction
        intro z
        obtain ⟨i, hi, h1, h2⟩ := (bz_nz _ _).mp z
        rw [bz_one (by omega) hi, decide_eq_true_iff] at h2
        rw [h2] at h1
        exact c h1
    | succ d ih =>
      intro j R hj hQ
      exact br_f (nI_ge (by omega) (by omega)) (bz_xlk hn R M _ (nm_e (nm_r (nI_1 (j + 1)) (ih (j + 1) _ (by omega) (bz_Qx hP hn hQ)))))
  exact ⟨n - 1 + 1, key (n - 1) 0 _ (by omega) (bz_Q0 hu hn)⟩
theorem bz_ysep {n : Nat} {os oo : Int32} {ps en se ls : Nat → Int32} (hP : bz_P n ps) (hn : n ≤ 7) {u v : Nat} (hu : u < n) (hv : v < n) (M : Int32) (hl : ∀ q, q < 7 → ∀ j, bt (ls q) j = true ↔ bz_E ps M n q j) (post : Int32 → SY → Prop) (h : ∀ R, bz_Q ps M n os u 7 R → post (bz_sv (!bt R v)) (nI n, ps, en, se, ls)) : ∃ f, wY_separated_123 post (nI v) os (nI n) ps en se ls f ((1 : Int32) <<< (nI u &&& 31)) 0 := by
  have inner : ∀ (J : Int32 → Int32 → Prop) (x6 : Nat) (R : Int32), J (bz_yr ls os R 7) (nI (x6 + 1)) → ∃ f, wY_separated_133 post J (nI v) os (nI x6) (nI n) ps en se ls f R 0 := by
    intro J x6 R hJ
    refine bz_lpF (fun f i (a : Int32) => wY_separated_133 post J (nI v) os (nI x6) (nI n) ps en se ls f a i) (fun i => bz_yr ls os R i) 7 (fun f => br_t (nI_le (a := 7) (b := 7) (by decide) (by decide)) (nm_r (nI_1 x6) hJ)) ?_
    intro f i hi k
    refine br_f (nI_ge (b := 7) hi (by decide)) ?_
    by_cases c : bt (bz_yr ls os R i) i = true
    · exact br_t (bz_q1 (by omega) c) ⟨vp_in_nI hi (by decide), nm_r (by rw [bz_ca ls (by omega), bz_yr_s, if_pos c]) (nm_r (nI_1 i) k)⟩
    · have e : bz_yr ls os R (i + 1) = bz_yr ls os R i := by rw [bz_yr_s, if_neg c]
      exact br_f (bz_q0 (by omega) c) (nm_r (nI_1 i) (bz_tr (P := fun z => wY_separated_133 post J (nI v) os (nI x6) (nI n) ps en se ls f z (nI (i + 1))) e k))
  have key : ∀ d j R, j + d = 7 → bz_Q ps M n os u j R → wY_separated_123 post (nI v) os (nI n) ps en se ls (d + 1) R (nI j) := by
    intro d
    induction d with
    | zero =>
      intro j R hj hQ
      have hj2 : j = 7 := by omega
      subst hj2
      have hr := h R hQ
      refine br_t (nI_le (a := 7) (b := 7) (by decide) (by decide)) ?_
      by_cases c : bt R v = true
      · rw [c] at hr
        exact br_t (bz_q1 (by omega) c) hr
      · rw [bz_nt c] at hr
        exact br_f (bz_q0 (by omega) c) hr
    | succ d ih =>
      intro j R hj hQ
      exact br_f (nI_ge (b := 7) (by omega) (by decide)) (inner _ j R (ih (j + 1) _ (by omega) (bz_Qy hP hn hl hQ)))
  exact ⟨8, key 7 0 _ (by omega) (bz_Q0 hu hn)⟩
theorem bz_yshut {n : Nat} {os oo : Int32} {ps en se ls : Nat → Int32} (hO : bz_O n os oo se) (hn : n ≤ 7) (x1 x2 : Int32) (post : Int32 → SY → Prop) (h : wY_separated_94 post x1 x2 os (nI n) ps en se ls) : ∃ f, wY_separated_54 post x1 x2 (nI n) ps en se ls f 0 0 := by
  have key : ∀ d i (s : Int32), i + d = n → (∀ j, bt s j = (decide (j < i) && bt os j)) → wY_separated_54 post x1 x2 (nI n) ps en se ls (d + 1) s (nI i) := by
    intro d
    induction d with
    | zero =>
      intro i s hi hs
      have hi2 : i = n := by omega
      subst hi2
      have e : s = os := by
        apply b_ext
        intro j _
        rw [hs j]
        rcases Nat.lt_or_ge j i with z | z
        · rw [decide_eq_true z, Bool.true_and]
        · rw [hO.1 j z, Bool.and_false]
      rw [e]
      exact br_t (nI_le (Nat.le_refl _) (by omega)) h
    | succ d ih =>
      intro i s hi hs
      have hse := hO.2.2 i (by omega)
      refine br_f (nI_ge (by omega) (by omega)) (br_f (nI_ge (b := 7) (by omega) (by decide)) ⟨vp_in_nI (by omega) (by decide), ?_⟩)
      rw [bz_ca se (by omega), hse]
      by_cases c : bt os i = true
      · rw [if_pos c]
        refine br_f (by cases bt oo i <;> decide) (nm_e (nm_r (nI_1 i) (ih (i + 1) _ (by omega) ?_)))
        intro j
        rw [b_or, hs j, bz_one2 (by omega)]
        by_cases z : j = i
        · subst z
          rw [c, decide_eq_true rfl, decide_eq_true (Nat.lt_succ_self j), Bool.or_true]
          rfl
        · rw [decide_eq_false z, Bool.or_false]
          by_cases y : j < i
          · rw [decide_eq_true y, decide_eq_true (by omega)]
          · rw [decide_eq_false y, decide_eq_false (by omega)]
      · rw [if_neg c]
        refine br_t (by decide) (nm_r (nI_1 i) (ih (i + 1) _ (by omega) ?_))
        intro j
        rw [hs j]
        by_cases z : j = i
        · subst z
          rw [bz_nt c, Bool.and_false, Bool.and_false]
        · by_cases y : j < i
          · rw [decide_eq_true y, decide_eq_true (by omega)]
          · rw [decide_eq_false y, decide_eq_false (by omega)]
  exact ⟨n + 1, key n 0 0 (by omega) (fun j => by rw [b_0, decide_eq_false (by omega)]; rfl)⟩
