/-! the reference's walks against the pure rows -/
theorem bz_ysz {n : Nat} {ps en se ls : Nat → Int32} (s : Int32) (post : Int32 → Prop) (h : post (nI (bz_pc s 7))) : wpY_size post (nI n, ps, en, se, ls) s :=
  bz_lpF (fun f i (a : Int32) => wY_size_4 post s (nI n) ps en se ls f a i) (fun i => nI (bz_pc s i)) 7
    (fun f => br_t (nI_le (a := 7) (b := 7) (by decide) (by decide)) h)
    (fun f i hi k => br_f (nI_ge (b := 7) hi (by decide)) (nm_r (bz_szs s (by omega)) (nm_r (nI_1 i) k)))
theorem bz_yrow {n : Nat} {ps en se ls : Nat → Int32} (hP : bz_P n ps) {v : Nat} (hv : v < 7) (x : Int32) (post : Int32 → Prop) (h : post (nI (bz_row (ps v) x v))) : wpY_row post (nI n, ps, en, se, ls) (nI v) x := by
  refine bz_lpF (fun f i (a : Int32 × Int32) => wY_row_8 post (nI v) x (nI n) ps en se ls f a.1 a.2 i) (fun i => (nI (bz_row (ps v) x i), nI (bz_pc (ps v) i))) v (fun f => br_t (nI_le (Nat.le_refl v) (by omega)) h) ?_
  intro f i hi k
  have h3 : bz_pc (ps v) (i + 1) ≤ 3 := Nat.le_trans (bz_pc_mono _ (by omega)) (hP v hv).2.1
  refine br_f (nI_ge hi (by omega)) ⟨vp_in_nI hv (by decide), ?_⟩
  by_cases c : bt (ps v) i = true
  · exact br_t (bz_p1 hv (by omega) c) (nm_r (bz_rws x (by omega) c h3) (nm_r (bz_pcs c) (nm_r (nI_1 i) k)))
  · refine br_f (bz_p0 hv (by omega) c) (nm_r (nI_1 i) ?_)
    show wY_row_8 post (nI v) x (nI n) ps en se ls f (nI (bz_row (ps v) x i)) (nI (bz_pc (ps v) i)) (nI (i + 1))
    rw [bz_rwf (x := x) c, bz_pcf c]
    exact k
theorem bz_ywt {n : Nat} {ps en se ls : Nat → Int32} (hP : bz_P n ps) (hn : n ≤ 7) (x : Int32) (post : Int32 → Prop) (h : post (bz_wt ps en x n)) : wpY_worth post (nI n, ps, en, se, ls) x := by
  refine bz_lpF (fun f i (a : Int32) => wY_worth_4 post x (nI n) ps en se ls f a i) (fun i => bz_wt ps en x i) n (fun f => br_t (nI_le (Nat.le_refl n) (by omega)) h) ?_
  intro f i hi k
  have h7 := bz_ix_lt hP (by omega : i < 7) x
  refine br_f (nI_ge hi (by omega)) (br_f (nI_ge (b := 7) (by omega) (by decide)) (bz_yrow hP (by omega) x _ ?_))
  rw [bz_eY ps x (by omega)]
  exact ⟨vp_in_nI h7 (by decide), nm_r (bz_wtc h7) (nm_r (nI_1 i) k)⟩
theorem bz_yag {n : Nat} {os oo : Int32} {ps en se ls : Nat → Int32} (hO : bz_O n os oo se) (hn : n ≤ 7) (x : Int32) (post : Int32 → Prop) (h1 : x &&& os = oo → post 1) (h0 : ¬ x &&& os = oo → post 0) : wpY_agrees post (nI n, ps, en, se, ls) x := by
  have key : ∀ d i, i + d = n → (∀ v, v < i → bt os v = true → bt x v = bt oo v) → wY_agrees_2 post x (nI n) ps en se ls (d + 1) (nI i) := by
    intro d
    induction d with
    | zero =>
      intro i hi hv
      have hi2 : i = n := by omega
      subst hi2
      exact br_t (nI_le (Nat.le_refl _) (by omega)) (h1 (bz_ag_t hO hv))
    | succ d ih =>
      intro i hi hv
      have hs := hO.2.2 i (by omega)
      refine br_f (nI_ge (by omega) (by omega)) (br_f (nI_ge (b := 7) (by omega) (by decide)) ⟨vp_in_nI (by omega) (by decide), ?_⟩)
      rw [nI_clamp (by omega), hs, bz_tst x (by omega)]
      by_cases c : bt os i = true
      · rw [if_pos c]
        refine br_f (by cases bt oo i <;> decide) ⟨vp_in_nI (by omega) (by decide), ?_⟩
        by_cases e : bt x i = bt oo i
        · refine br_t (by rw [e]) (nm_r (nI_1 i) (ih (i + 1) (by omega) ?_))
          intro v hvi hov
          by_cases z : v = i
          · rw [z]; exact e
          · exact hv v (by omega) hov
        · exact br_f (fun z => e (bz_svi.mp z)) (h0 (bz_ag_f c e))
      · rw [if_neg c]
        refine br_t (by decide) (nm_r (nI_1 i) (ih (i + 1) (by omega) ?_))
        intro v hvi hov
        by_cases z : v = i
        · rw [z] at hov; exact absurd hov c
        · exact hv v (by omega) hov
  exact ⟨n + 1, key n 0 (by omega) (fun v hv => by omega)⟩
theorem bz_ysum {n : Nat} {os oo : Int32} {ps en se ls : Nat → Int32} (hP : bz_P n ps) (hO : bz_O n os oo se) (hn : n ≤ 7) {u v : Nat} (hu : u < 32) (hv : v < 32) (A B : Bool) (post : Int64 → Prop) (h : post (bz_sum (bz_cd os oo u A v B) (bz_W ps en n) (2 ^ n))) : wpY_sum post (nI n, ps, en, se, ls) (nI u) (bz_sv A) (nI v) (bz_sv B) := by
  have h27 := bz_pow hn
  have hp2 := bz_p2 n (by omega)
  refine bz_lpF (fun f i (a : Int64) => wY_sum_6 post (nI u) (bz_sv A) (nI v) (bz_sv B) (nI n) ps en se ls f a i) (fun i => bz_sum (bz_cd os oo u A v B) (bz_W ps en n) i) (2 ^ n) (fun f => br_t (by rw [hp2]; exact nI_le (Nat.le_refl _) (by omega)) h) ?_
  intro f i hi k
  refine br_f (by rw [hp2]; exact nI_ge hi (by omega)) ?_
  rw [bz_tst (nI i) hu, bz_tst (nI i) hv]
  have no : bz_cd os oo u A v B i = false → wY_sum_6 post (nI u) (bz_sv A) (nI v) (bz_sv B) (nI n) ps en se ls f (bz_sum (bz_cd os oo u A v B) (bz_W ps en n) i) (nI (i + 1)) := by
    intro c
    have e : bz_sum (bz_cd os oo u A v B) (bz_W ps en n) (i + 1) = bz_sum (bz_cd os oo u A v B) (bz_W ps en n) i := by rw [bz_sum_s, c, if_neg Bool.false_ne_true]
    exact bz_tr (P := fun z => wY_sum_6 post (nI u) (bz_sv A) (nI v) (bz_sv B) (nI n) ps en se ls f z (nI (i + 1))) e k
  by_cases a : bt (nI i) u = A
  · refine br_t (by rw [a]) ?_
    by_cases b : bt (nI i) v = B
    · refine br_t (by rw [b]) (bz_yag hO hn (nI i) _ ?_ ?_)
      · intro g
        have c : bz_cd os oo u A v B i = true := by unfold bz_cd; rw [decide_eq_true a, decide_eq_true b, decide_eq_true g]; rfl
        have e : bz_sum (bz_cd os oo u A v B) (bz_W ps en n) i + (bz_wt ps en (nI i) n).toInt64 = bz_sum (bz_cd os oo u A v B) (bz_W ps en n) (i + 1) := by rw [bz_sum_s, if_pos c]; rfl
        exact br_f (by decide) (bz_ywt hP hn (nI i) _ (nm_r e (nm_r (nI_1 i) k)))
      · intro g
        exact br_t rfl (nm_r (nI_1 i) (no (by unfold bz_cd; rw [decide_eq_false g, Bool.and_false])))
    · exact br_f (fun z => b (bz_svi.mp z)) (nm_r (nI_1 i) (no (by unfold bz_cd; rw [decide_eq_false b, Bool.and_false, Bool.false_and])))
  · exact br_f (fun z => a (bz_svi.mp z)) (nm_r (nI_1 i) (no (by unfold bz_cd; rw [decide_eq_false a, Bool.false_and, Bool.false_and])))
theorem bz_ysum1 {n : Nat} {os oo : Int32} {ps en se ls : Nat → Int32} (hP : bz_P n ps) (hO : bz_O n os oo se) (hn : n ≤ 7) {v : Nat} (hv : v < 32) (B : Bool) (post : Int64 → Prop) (h : post (bz_sum (bz_cm os oo v B) (bz_W ps en n) (2 ^ n))) : wpY_sum post (nI n, ps, en, se, ls) (nI v) (bz_sv B) (nI v) (bz_sv B) :=
  bz_ysum hP hO hn hv hv B B post (by rw [bz_sum_c (bz_cdm os oo v B)]; exact h)
theorem bz_ymost {n : Nat} {os oo : Int32} {ps en se ls : Nat → Int32} (hP : bz_P n ps) (hO : bz_O n os oo se) (hn : n ≤ 7) {v : Nat} (hv : v < 32) (B : Bool) (post : Int32 → Prop) (h : post (bz_max (bz_cm os oo v B) (bz_W ps en n) (2 ^ n))) : wpY_most post (nI n, ps, en, se, ls) (nI v) (bz_sv B) := by
  have h27 := bz_pow hn
  have hp2 := bz_p2 n (by omega)
  refine bz_lpF (fun f i (a : Int32) => wY_most_5 post (nI v) (bz_sv B) (nI n) ps en se ls f a i) (fun i => bz_max (bz_cm os oo v B) (bz_W ps en n) i) (2 ^ n) (fun f => br_t (by rw [hp2]; exact nI_le (Nat.le_refl _) (by omega)) h) ?_
  intro f i hi k
  refine br_f (by rw [hp2]; exact nI_ge hi (by omega)) ?_
  rw [bz_tst (nI i) hv]
  have no : bz_max (bz_cm os oo v B) (bz_W ps en n) (i + 1) = bz_max (bz_cm os oo v B) (bz_W ps en n) i → wY_most_5 post (nI v) (bz_sv B) (nI n) ps en se ls f (bz_max (bz_cm os oo v B) (bz_W ps en n) i) (nI (i + 1)) :=
    fun e => bz_tr (P := fun z => wY_most_5 post (nI v) (bz_sv B) (nI n) ps en se ls f z (nI (i + 1))) e k
  by_cases b : bt (nI i) v = B
  · refine br_t (by rw [b]) (bz_yag hO hn (nI i) _ ?_ ?_)
    · intro g
      have c : bz_cm os oo v B i = true := by unfold bz_cm; rw [decide_eq_true b, decide_eq_true g]; rfl
      refine br_f (by decide) (bz_ywt hP hn (nI i) _ ?_)
      by_cases l : bz_max (bz_cm os oo v B) (bz_W ps en n) i < bz_W ps en n i
      · have e : bz_max (bz_cm os oo v B) (bz_W ps en n) (i + 1) = bz_W ps en n i := by rw [bz_max_s, if_pos c, if_pos l]
        exact br_f (Int32.not_le.mpr l) (nm_r (nI_1 i) (bz_tr (P := fun z => wY_most_5 post (nI v) (bz_sv B) (nI n) ps en se ls f z (nI (i + 1))) e k))
      · exact br_t (Int32.not_lt.mp l) (nm_r (nI_1 i) (no (by rw [bz_max_s, if_pos c, if_neg l])))
    · intro g
      have c : bz_cm os oo v B i = false := by unfold bz_cm; rw [decide_eq_false g, Bool.and_false]
      exact br_t rfl (nm_r (nI_1 i) (no (by rw [bz_max_s, c, if_neg Bool.false_ne_true])))
  · have c : bz_cm os oo v B i = false := by unfold bz_cm; rw [decide_eq_false b, Bool.false_and]
    exact br_f (fun z => b (bz_svi.mp z)) (nm_r (nI_1 i) (no (by rw [bz_max_s, c, if_neg Bool.false_ne_true])))
theorem bz_ybest {n : Nat} {os oo : Int32} {ps en se ls : Nat → Int32} (hP : bz_P n ps) (hO : bz_O n os oo se) (hn : n ≤ 7) (post : Int32 → Prop) (h : post (bz_max (bz_cx os oo 0 0) (bz_W ps en n) (2 ^ n))) : wpY_greatest post (nI n, ps, en, se, ls) := by
  rw [← bz_top] at h
  refine bz_ymost hP hO hn (v := 0) (by decide) false _ (bz_ymost hP hO hn (v := 0) (by decide) true _ ?_)
  by_cases l : bz_max (bz_cm os oo 0 true) (bz_W ps en n) (2 ^ n) < bz_max (bz_cm os oo 0 false) (bz_W ps en n) (2 ^ n)
  · rw [if_pos l] at h
    exact br_f (Int32.not_le.mpr l) h
  · rw [if_neg l] at h
    exact br_t (Int32.not_lt.mp l) h
theorem bz_yfind {n : Nat} {os oo : Int32} {ps en se ls : Nat → Int32} (hP : bz_P n ps) (hO : bz_O n os oo se) (hn : n ≤ 7) (g : Int32) (post : Int32 → Prop) {q : Nat} (hq : q < 2 ^ n) (ha : nI q &&& os = oo) (hw : bz_W ps en n q = g) (hl : ∀ j, j < q → ¬ (nI j &&& os = oo ∧ bz_W ps en n j = g)) (h : post (nI q)) : ∃ f, wY_bestNumber_7 post g (nI n) ps en se ls f 0 := by
  have h27 := bz_pow hn
  have hp2 := bz_p2 n (by omega)
  have key : ∀ d i, i + d = q → wY_bestNumber_7 post g (nI n) ps en se ls (d + 1) (nI i) := by
    intro d
    induction d with
    | zero =>
      intro i hi
      have hi2 : i = q := by omega
      subst hi2
      exact br_f (by rw [hp2]; exact nI_ge hq (by omega)) (bz_yag hO hn (nI i) _ (fun _ => br_f (by decide) (bz_ywt hP hn (nI i) _ (br_t hw h))) (fun z => absurd ha z))
    | succ d ih =>
      intro i hi
      refine br_f (by rw [hp2]; exact nI_ge (by omega) (by omega)) ?_
      have k := ih (i + 1) (by omega)
      refine bz_yag hO hn (nI i) _ (fun a => br_f (by decide) (bz_ywt hP hn (nI i) _ (br_f (fun z => hl i (by omega) ⟨a, z⟩) (nm_r (nI_1 i) k)))) (fun a => br_t rfl (nm_r (nI_1 i) k))
  exact ⟨q + 1, key q 0 (by omega)⟩
theorem bz_yan {n : Nat} {ps en se ls : Nat → Int32} (hP : bz_P n ps) (hn : n ≤ 7) (s : Int32) (post : Int32 → Prop) (h : post (bz_an ps n s)) : wpY_closed post (nI n, ps, en, se, ls) s := by
  have key : ∀ m, m ≤ 7 → ∀ s, post (bz_an ps m s) → wY_closed_5 post (nI n) ps en se ls (m + 1) s (nI m + (-1)) := by
    intro m
    induction m with
    | zero =>
      intro _ s h
      exact br_t (by decide) h
    | succ m ih =>
      intro hm s h
      rw [pk_m1]
      rw [bz_an_s] at h
      refine br_f (nI_pos (by omega)) ?_
      by_cases c : bt s m = true
      · rw [if_pos c] at h
        exact br_t (bz_q1 (by omega) c) ⟨vp_in_nI (by omega) (by decide), nm_r (by rw [nI_clamp (by omega)]) (nm_e (ih (by omega) _ h))⟩
      · rw [if_neg c] at h
        exact br_f (bz_q0 (by omega) c) (nm_e (ih (by omega) _ h))
  have e7 := bz_an_7 hP s (7 - n) (by omega)
  rw [show n + (7 - n) = 7 from by omega] at e7
  rw [← e7] at h
  exact ⟨8, key 7 (by decide) s h⟩
theorem bz_ybl {n : Nat} {ps en se ls : Nat → Int32} (hn : n ≤ 7) {v : Nat} (hv : v < n) (post : Int32 → Prop) (h : post (bz_bl ps v n &&& (((1 : Int32) <<< (nI v &&& 31)) ^^^ (-1)))) : ∃ f, wY_blanket_19 post (nI v) (nI n) ps en se ls f (ps v) 0 := by
  refine bz_lpF (fun f i (a : Int32) => wY_blanket_19 post (nI v) (nI n) ps en se ls f a i) (fun i => bz_bl ps v i) n (fun f => br_t (nI_le (Nat.le_refl _) (by omega)) h) ?_
  intro f i hi k
  refine br_f (nI_ge hi (by omega)) (br_f (nI_ge (b := 7) (by omega) (by decide)) ⟨vp_in_nI (by omega) (by decide), ?_⟩)
  by_cases c : bt (ps i) v = true
  · have e : bz_bl ps v i ||| (((1 : Int32) <<< (nI i &&& 31)) ||| ps (nI i).toNatClampNeg) = bz_bl ps v (i + 1) := by rw [nI_clamp (by omega), bz_bl_s, if_pos c]
    exact br_t (bz_p1 (by omega) (by omega) c) ⟨vp_in_nI (by omega) (by decide), nm_r e (nm_r (nI_1 i) k)⟩
  · have e : bz_bl ps v (i + 1) = bz_bl ps v i := by rw [bz_bl_s, if_neg c]
    exact br_f (bz_p0 (by omega) (by omega) c) (nm_r (nI_1 i) (bz_tr (P := fun z => wY_blanket_19 post (nI v) (nI n) ps en se ls f z (nI (i + 1))) e k))
theorem bz_ydr1 {n : Nat} {ps en se L : Nat → Int32} (fm : Int32) (post : SY → Prop) (J : Int32 → (Nat → Int32) → (Nat → Int32) → (Nat → Int32) → (Nat → Int32) → Prop) (x1 : Int32) (w : Nat) (h : J (nI (w + 1)) ps en se (bz_d1 fm L 7)) : ∃ f, wY_draw_52 post J x1 (nI w) fm (nI n) f 0 ps en se L := by
  have key := bz_lpF (fun f i (a : Nat → Int32) => wY_draw_52 post J x1 (nI w) fm (nI n) f i ps en se a) (fun i => bz_d1 fm L i) 7 (fun f => br_t (nI_le (a := 7) (b := 7) (by decide) (by decide)) (nm_r (nI_1 w) h)) (by
    intro f i hi k
    refine br_f (nI_ge (b := 7) hi (by decide)) ?_
    by_cases c : bt fm i = true
    · exact br_t (bz_q1 (by omega) c) ⟨vp_in_nI (by omega) (by decide), vp_in_nI (by omega) (by decide), nm_r (by rw [nI_clamp (by omega), bz_d1_t c]) (nm_r (nI_1 i) k)⟩
    · exact br_f (bz_q0 (by omega) c) (nm_r (nI_1 i) (bz_tr (P := fun z => wY_draw_52 post J x1 (nI w) fm (nI n) f (nI (i + 1)) ps en se z) (bz_d1_f c).symm k)))
  rw [bz_d1_0] at key
  exact key
theorem bz_ydr {n : Nat} {ps en se ls : Nat → Int32} (M : Int32) (post : SY → Prop) (h : post (nI n, ps, en, se, bz_dr ps M ls 7)) : wpY_draw post (nI n, ps, en, se, ls) M := by
  have k2 : ∃ f, wY_draw_23 post M (nI n) f 0 ps en se (bz_z ls 7) := by
    refine bz_lpF (fun f i (a : Nat → Int32) => wY_draw_23 post M (nI n) f i ps en se a) (fun i => bz_dr ps M ls i) 7 (fun f => br_t (nI_le (a := 7) (b := 7) (by decide) (by decide)) h) ?_
    intro f i hi k
    refine br_f (nI_ge (b := 7) hi (by decide)) ?_
    by_cases c : bt M i = true
    · have e0 : (ps (nI i).toNatClampNeg) ||| ((1 : Int32) <<< (nI i &&& 31)) = bz_fm ps i := by rw [nI_clamp (by omega)]; rfl
      have e : bz_dr ps M ls (i + 1) = bz_d1 (bz_fm ps i) (bz_dr ps M ls i) 7 := by rw [bz_dr_s, if_pos c]
      exact br_t (bz_q1 (by omega) c) ⟨vp_in_nI (by omega) (by decide), nm_r e0 (bz_ydr1 (bz_fm ps i) post _ M i (bz_tr (P := fun z => wY_draw_23 post M (nI n) f (nI (i + 1)) ps en se z) e k))⟩
    · have e : bz_dr ps M ls (i + 1) = bz_dr ps M ls i := by rw [bz_dr_s, if_neg c]
      exact br_f (bz_q0 (by omega) c) (nm_r (nI_1 i) (bz_tr (P := fun z => wY_draw_23 post M (nI n) f (nI (i + 1)) ps en se z) e k))
  have key := bz_lpF (fun f i (a : Nat → Int32) => wY_draw_2 post M (nI n) f i ps en se a) (fun i => bz_z ls i) 7 (fun f => br_t (nI_le (a := 7) (b := 7) (by decide) (by decide)) k2) (by
    intro f i hi k
    exact br_f (nI_ge (b := 7) hi (by decide)) ⟨vp_in_nI (by omega) (by decide), nm_r (by rw [nI_clamp (by omega), bz_zs]) (nm_r (nI_1 i) k)⟩)
  rw [bz_z0] at key
  exact key
theorem bz_ybad {n : Nat} {ps en se ls : Nat → Int32} {x : Int32} (hx : x < 0 ∨ nI n ≤ x) (Q : Int32 → Prop) (h : Q 1) : wpY_bad Q (nI n, ps, en, se, ls) x := by
  by_cases c : x < 0
  · exact br_t c h
  · rcases hx with z | z
    · exact absurd z c
    · exact br_f c (br_t z h)
theorem bz_ygood {n : Nat} {ps en se ls : Nat → Int32} {v : Nat} (hn : n ≤ 7) (hv : v < n) (Q : Int32 → Prop) (h : Q 0) : wpY_bad Q (nI n, ps, en, se, ls) (nI v) :=
  br_f (nI_pos (by omega)) (br_f (nI_ge hv (by omega)) (br_t (nI_le (b := 6) (by omega) (by decide)) h))
theorem bz_yval {n : Nat} {ps en se ls : Nat → Int32} (B : Bool) (Q : Int32 → Prop) (h : Q 0) : wpY_badValue Q (nI n, ps, en, se, ls) (bz_sv B) :=
  br_f (bz_val0 B).1 (br_t (bz_val0 B).2.2.2 h)
theorem bz_ynval {n : Nat} {ps en se ls : Nat → Int32} {x : Int32} (hx : x < 0 ∨ 1 < x) (Q : Int32 → Prop) (h : Q 1) : wpY_badValue Q (nI n, ps, en, se, ls) x := by
  by_cases c : x < 0
  · exact br_t c h
  · rcases hx with z | z
    · exact absurd z c
    · exact br_f c (br_f (Int32.not_le.mpr z) h)
