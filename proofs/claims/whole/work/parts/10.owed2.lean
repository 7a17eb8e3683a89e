/-! the asking methods -/
theorem i_vc_parentsOf {k : Nat} {u : SX} {v : SY} (I : i_Rel k u v) (hk : k + 5 ≤ 2561) (v1 : Int32) : wpX_parentsOf (fun r => wpY_parentsOf (fun r' => r' = r ∧ i_Rel (k + 5) u v) v v1) u v1 := by
  obtain ⟨n, os, oo, ps, en, se, ls, rfl, rfl, h2, hn, hP, hN, hO⟩ := I
  have J : i_Rel (k + 5) (nI n, os, oo, ps, en) (nI n, ps, en, se, ls) := ⟨n, os, oo, ps, en, se, ls, rfl, rfl, h2, hn, hP, hN, hO⟩
  unfold wpX_parentsOf wpY_parentsOf
  dsimp only
  rcases bz_gd v1 hn with z | ⟨v, hv, rfl⟩
  · refine bz_xbad z _ (br_t rfl ?_)
    exact bz_ybad z _ (br_f (by decide) ⟨rfl, J⟩)
  · refine bz_xgood hn hv _ (br_f (by decide) ⟨vp_in_nI (by omega) (by decide), ?_⟩)
    exact bz_ygood hn hv _ (br_t rfl ⟨vp_in_nI (by omega) (by decide), rfl, J⟩)
theorem i_vc_weight {k : Nat} {u : SX} {v : SY} (I : i_Rel k u v) (hk : k + 5 ≤ 2561) (v1 : Int32) : wpX_weight (fun r => wpY_weight (fun r' => r' = r ∧ i_Rel (k + 5) u v) v v1) u v1 := by
  obtain ⟨n, os, oo, ps, en, se, ls, rfl, rfl, h2, hn, hP, hN, hO⟩ := I
  have J : i_Rel (k + 5) (nI n, os, oo, ps, en) (nI n, ps, en, se, ls) := ⟨n, os, oo, ps, en, se, ls, rfl, rfl, h2, hn, hP, hN, hO⟩
  unfold wpX_weight wpY_weight
  dsimp only
  by_cases a : v1 < 0
  · exact br_t a (br_t a ⟨rfl, J⟩)
  · refine br_f a ?_
    by_cases b : v1 < (1 : Int32) <<< (nI n &&& 31)
    · refine br_t b (bz_xwt hP hn _ _ ?_)
      refine br_f a (br_t b (bz_ywt hP hn _ _ ⟨rfl, J⟩))
    · exact br_f b (br_f a (br_f b ⟨rfl, J⟩))
theorem i_vc_total {k : Nat} {u : SX} {v : SY} (I : i_Rel k u v) (hk : k + 5 ≤ 2561) : wpX_total (fun r => wpY_total (fun r' => r' = r ∧ i_Rel (k + 5) u v) v) u := by
  obtain ⟨n, os, oo, ps, en, se, ls, rfl, rfl, h2, hn, hP, hN, hO⟩ := I
  have J : i_Rel (k + 5) (nI n, os, oo, ps, en) (nI n, ps, en, se, ls) := ⟨n, os, oo, ps, en, se, ls, rfl, rfl, h2, hn, hP, hN, hO⟩
  unfold wpX_total wpY_total
  dsimp only
  refine bz_xsum hP hn 0 0 _ ?_
  refine bz_ysum hP hO hn (u := 0) (v := 0) (by decide) (by decide) false false _ ?_
  refine bz_ysum hP hO hn (u := 0) (v := 0) (by decide) (by decide) true true _ ?_
  exact ⟨bz_tot os oo _ _, J⟩
theorem i_vc_totalWith {k : Nat} {u : SX} {v : SY} (I : i_Rel k u v) (hk : k + 5 ≤ 2561) (v1 : Int32) (v2 : Int32) : wpX_totalWith (fun r => wpY_totalWith (fun r' => r' = r ∧ i_Rel (k + 5) u v) v v1 v2) u v1 v2 := by
  obtain ⟨n, os, oo, ps, en, se, ls, rfl, rfl, h2, hn, hP, hN, hO⟩ := I
  have J : i_Rel (k + 5) (nI n, os, oo, ps, en) (nI n, ps, en, se, ls) := ⟨n, os, oo, ps, en, se, ls, rfl, rfl, h2, hn, hP, hN, hO⟩
  unfold wpX_totalWith wpY_totalWith
  dsimp only
  rcases bz_gd v1 hn with z | ⟨v, hv, rfl⟩
  · refine bz_xbad z _ (br_t rfl ?_)
    exact bz_ybad z _ (br_f (by decide) ⟨rfl, J⟩)
  · refine bz_xgood hn hv _ (br_f (by decide) ?_)
    rcases bz_val v2 with ⟨B, rfl⟩ | ⟨c0, c1, c2⟩
    · refine bz_xval B _ (br_f (by decide) ?_)
      refine bz_xsum hP hn _ _ _ ?_
      refine bz_ygood hn hv _ (br_t rfl ?_)
      refine bz_yval B _ (br_t rfl ?_)
      refine bz_ysum1 hP hO hn (by omega) B _ ?_
      exact ⟨(bz_sum_c (bz_cx1 os oo (by omega) B) _).symm, J⟩
    · refine bz_xnval c0 c1 _ (br_t rfl ?_)
      refine bz_ygood hn hv _ (br_t rfl ?_)
      exact bz_ynval c2 _ (br_f (by decide) ⟨rfl, J⟩)
theorem i_vc_totalPair {k : Nat} {u : SX} {v : SY} (I : i_Rel k u v) (hk : k + 5 ≤ 2561) (v1 : Int32) (v2 : Int32) (v3 : Int32) (v4 : Int32) : wpX_totalPair (fun r => wpY_totalPair (fun r' => r' = r ∧ i_Rel (k + 5) u v) v v1 v2 v3 v4) u v1 v2 v3 v4 := by
  obtain ⟨n, os, oo, ps, en, se, ls, rfl, rfl, h2, hn, hP, hN, hO⟩ := I
  have J : i_Rel (k + 5) (nI n, os, oo, ps, en) (nI n, ps, en, se, ls) := ⟨n, os, oo, ps, en, se, ls, rfl, rfl, h2, hn, hP, hN, hO⟩
  rcases bz_gd v1 hn with z | ⟨u, hu, rfl⟩
  · unfold wpX_totalPair wpY_totalPair
    dsimp only
    refine bz_xbad z _ (br_t rfl ?_)
    exact bz_ybad z _ (br_f (by decide) ⟨rfl, J⟩)
  · rcases bz_gd v3 hn with z | ⟨v, hv, rfl⟩
    · unfold wpX_totalPair wpY_totalPair
      dsimp only
      refine bz_xgood hn hu _ (br_f (by decide) ?_)
      refine bz_xbad z _ (br_t rfl ?_)
      refine bz_ygood hn hu _ (br_t rfl ?_)
      exact bz_ybad z _ (br_f (by decide) ⟨rfl, J⟩)
    · rcases bz_val v2 with ⟨A, rfl⟩ | ⟨c0, c1, c2⟩
      · rcases bz_val v4 with ⟨B, rfl⟩ | ⟨c0, c1, c2⟩
        · refine bz_xpair hP hn hu hv A B _ ?_
          unfold wpY_totalPair
          dsimp only
          refine bz_ygood hn hu _ (br_t rfl ?_)
          refine bz_ygood hn hv _ (br_t rfl ?_)
          refine bz_yval A _ (br_t rfl ?_)
          refine bz_yval B _ (br_t rfl ?_)
          exact bz_ysum hP hO hn (by omega) (by omega) A B _ ⟨rfl, J⟩
        · unfold wpX_totalPair wpY_totalPair
          dsimp only
          refine bz_xgood hn hu _ (br_f (by decide) ?_)
          refine bz_xgood hn hv _ (br_f (by decide) ?_)
          refine bz_xval A _ (br_f (by decide) ?_)
          refine bz_xnval c0 c1 _ (br_t rfl ?_)
          refine bz_ygood hn hu _ (br_t rfl ?_)
          refine bz_ygood hn hv _ (br_t rfl ?_)
          refine bz_yval A _ (br_t rfl ?_)
          exact bz_ynval c2 _ (br_f (by decide) ⟨rfl, J⟩)
      · unfold wpX_totalPair wpY_totalPair
        dsimp only
        refine bz_xgood hn hu _ (br_f (by decide) ?_)
        refine bz_xgood hn hv _ (br_f (by decide) ?_)
        refine bz_xnval c0 c1 _ (br_t rfl ?_)
        refine bz_ygood hn hu _ (br_t rfl ?_)
        refine bz_ygood hn hv _ (br_t rfl ?_)
        exact bz_ynval c2 _ (br_f (by decide) ⟨rfl, J⟩)
theorem i_vc_best {k : Nat} {u : SX} {v : SY} (I : i_Rel k u v) (hk : k + 5 ≤ 2561) : wpX_best (fun r => wpY_best (fun r' => r' = r ∧ i_Rel (k + 5) u v) v) u := by
  obtain ⟨n, os, oo, ps, en, se, ls, rfl, rfl, h2, hn, hP, hN, hO⟩ := I
  have J : i_Rel (k + 5) (nI n, os, oo, ps, en) (nI n, ps, en, se, ls) := ⟨n, os, oo, ps, en, se, ls, rfl, rfl, h2, hn, hP, hN, hO⟩
  unfold wpX_best wpY_best
  dsimp only
  refine bz_xmax hP hn 0 0 _ ?_
  exact bz_ybest hP hO hn _ ⟨rfl, J⟩
theorem i_vc_bestNumber {k : Nat} {u : SX} {v : SY} (I : i_Rel k u v) (hk : k + 5 ≤ 2561) : wpX_bestNumber (fun r => wpY_bestNumber (fun r' => r' = r ∧ i_Rel (k + 5) u v) v) u := by
  obtain ⟨n, os, oo, ps, en, se, ls, rfl, rfl, h2, hn, hP, hN, hO⟩ := I
  have J : i_Rel (k + 5) (nI n, os, oo, ps, en) (nI n, ps, en, se, ls) := ⟨n, os, oo, ps, en, se, ls, rfl, rfl, h2, hn, hP, hN, hO⟩
  have hq : ∃ q, q < 2 ^ n ∧ (nI q &&& os = oo ∧ bz_W ps en n q = bz_max (bz_cx os oo 0 0) (bz_W ps en n) (2 ^ n)) := by
    rcases bz_max_at (c := bz_cx os oo 0 0) (w := bz_W ps en n) (fun q => bz_wt_0 hP hN (nI q) hn) (2 ^ n) with ⟨q, h3, h4, h5⟩ | ⟨h3, h4⟩
    · rw [bz_cx0, decide_eq_true_iff] at h4
      exact ⟨q, h3, h4, h5⟩
    · exfalso
      obtain ⟨q, h5, h6⟩ := bz_lo (x := oo) (n := n) (fun i hi => by
        cases e : bt oo i
        · rfl
        · have := hO.2.1 i e
          rw [hO.1 i hi] at this
          cases this)
      have h7 := h3 q h5
      rw [bz_cx0, ← h6, decide_eq_false_iff_not] at h7
      exact h7 (bz_ag_t hO (fun _ _ _ => rfl))
  obtain ⟨q, h3, ⟨h4, h5⟩, h6⟩ := bz_first hq
  unfold wpX_bestNumber wpY_bestNumber
  dsimp only
  refine bz_xmax hP hn 0 0 _ (nm_r (bz_p2 n (by omega)) (bz_xfind hP hn _ _ h3 h4 h5 h6 ?_))
  refine bz_ybest hP hO hn _ (bz_yfind hP hO hn _ _ h3 h4 h5 h6 ⟨rfl, J⟩)
theorem i_vc_bestWith {k : Nat} {u : SX} {v : SY} (I : i_Rel k u v) (hk : k + 5 ≤ 2561) (v1 : Int32) (v2 : Int32) : wpX_bestWith (fun r => wpY_bestWith (fun r' => r' = r ∧ i_Rel (k + 5) u v) v v1 v2) u v1 v2 := by
  obtain ⟨n, os, oo, ps, en, se, ls, rfl, rfl, h2, hn, hP, hN, hO⟩ := I
  have J : i_Rel (k + 5) (nI n, os, oo, ps, en) (nI n, ps, en, se, ls) := ⟨n, os, oo, ps, en, se, ls, rfl, rfl, h2, hn, hP, hN, hO⟩
  unfold wpX_bestWith wpY_bestWith
  dsimp only
  rcases bz_gd v1 hn with z | ⟨v, hv, rfl⟩
  · refine bz_xbad z _ (br_t rfl ?_)
    exact bz_ybad z _ (br_f (by decide) ⟨rfl, J⟩)
  · refine bz_xgood hn hv _ (br_f (by decide) ?_)
    rcases bz_val v2 with ⟨B, rfl⟩ | ⟨c0, c1, c2⟩
    · refine bz_xval B _ (br_f (by decide) (bz_xov (by omega) _ ?_))
      have hov : se (nI v).toNatClampNeg = bz_ov os oo v := by rw [bz_ca se (by omega)]; exact hO.2.2 v (by omega)
      rw [hov]
      by_cases c : bt os v = true
      · have e1 : bz_ov os oo v = bz_sv (bt oo v) := if_pos c
        rw [e1]
        by_cases g : bt oo v = B
        · refine br_f (by rw [g]; cases B <;> decide) (bz_xmax hP hn _ _ _ ?_)
          refine bz_ygood hn hv _ (br_t rfl ?_)
          refine bz_yval B _ (br_t rfl ⟨vp_in_nI (by omega) (by decide), ?_⟩)
          refine br_f (by rw [g]; cases B <;> decide) ⟨vp_in_nI (by omega) (by decide), br_t (by rw [g]) ?_⟩
          refine bz_ymost hP hO hn (by omega) B _ ?_
          exact ⟨(bz_max_c (bz_cx1 os oo (by omega) B) _).symm, J⟩
        · refine br_t (by revert g; cases bt oo v <;> cases B <;> decide) ?_
          refine bz_ygood hn hv _ (br_t rfl ?_)
          refine bz_yval B _ (br_t rfl ⟨vp_in_nI (by omega) (by decide), ?_⟩)
          exact br_f (by cases bt oo v <;> decide) ⟨vp_in_nI (by omega) (by decide), br_f (fun z => g (bz_svi.mp z)) ⟨rfl, J⟩⟩
      · have e1 : bz_ov os oo v = 2 := if_neg c
        rw [e1]
        refine br_f (by cases B <;> decide) (bz_xmax hP hn _ _ _ ?_)
        refine bz_ygood hn hv _ (br_t rfl ?_)
        refine bz_yval B _ (br_t rfl ⟨vp_in_nI (by omega) (by decide), ?_⟩)
        refine br_t (by decide) (bz_ymost hP hO hn (by omega) B _ ?_)
        exact ⟨(bz_max_c (bz_cx1 os oo (by omega) B) _).symm, J⟩
    · refine bz_xnval c0 c1 _ (br_t rfl ?_)
      refine bz_ygood hn hv _ (br_t rfl ?_)
      exact bz_ynval c2 _ (br_f (by decide) ⟨rfl, J⟩)
theorem bz_ends {os : Int32} {u v : Nat} (hu : u < 32) (hv : v < 32) : (os &&& (((1 : Int32) <<< (nI u &&& 31)) ||| ((1 : Int32) <<< (nI v &&& 31))) = 0) ↔ (¬ bt os u = true ∧ ¬ bt os v = true) := by
  constructor
  · intro e
    have hh : ∀ i, i < 32 → (bt os i && (decide (i = u) || decide (i = v))) = false := by
      intro i hi
      have h := congrArg (fun z => bt z i) e
      simp only [b_and, b_or, bz_one hu hi, bz_one hv hi, b_0] at h
      exact h
    constructor
    · intro z
      have h := hh u hu
      simp [z] at h
    · intro z
      have h := hh v hv
      simp [z] at h
  · rintro ⟨a, b⟩
    apply Classical.byContradiction
    intro z
    obtain ⟨i, hi, h1, h3⟩ := (bz_nz _ _).mp z
    rw [b_or, bz_one hu hi, bz_one hv hi, Bool.or_eq_true, decide_eq_true_iff, decide_eq_true_iff] at h3
    rcases h3 with h3 | h3
    · rw [h3] at h1; exact a h1
    · rw [h3] at h1; exact b h1
theorem i_vc_separated {k : Nat} {u : SX} {v : SY} (I : i_Rel k u v) (hk : k + 5 ≤ 2561) (v1 : Int32) (v2 : Int32) : wpX_separated (fun r => wpY_separated (fun r' v' => r' = r ∧ i_Rel (k + 5) u v') v v1 v2) u v1 v2 := by
  obtain ⟨n, os, oo, ps, en, se, ls, rfl, rfl, h2, hn, hP, hN, hO⟩ := I
  have J : i_Rel (k + 5) (nI n, os, oo, ps, en) (nI n, ps, en, se, ls) := ⟨n, os, oo, ps, en, se, ls, rfl, rfl, h2, hn, hP, hN, hO⟩
  unfold wpX_separated wpY_separated
  dsimp only
  rcases bz_gd v1 hn with z | ⟨u, hu, rfl⟩
  · refine bz_xbad z _ (br_t rfl ?_)
    exact bz_ybad z _ (br_f (by decide) ⟨rfl, J⟩)
  · refine bz_xgood hn hu _ (br_f (by decide) ?_)
    rcases bz_gd v2 hn with z | ⟨v, hv, rfl⟩
    · refine bz_xbad z _ (br_t rfl ?_)
      refine bz_ygood hn hu _ (br_t rfl ?_)
      exact bz_ybad z _ (br_f (by decide) ⟨rfl, J⟩)
    · refine bz_xgood hn hv _ (br_f (by decide) ?_)
      by_cases e : nI u = nI v
      · refine br_t e ?_
        refine bz_ygood hn hu _ (br_t rfl ?_)
        exact bz_ygood hn hv _ (br_t rfl (br_t e ⟨rfl, J⟩))
      · refine br_f e (nm_e ?_)
        have hsu : se (nI u).toNatClampNeg = bz_ov os oo u := by rw [bz_ca se (by omega)]; exact hO.2.2 u (by omega)
        have hsv : se (nI v).toNatClampNeg = bz_ov os oo v := by rw [bz_ca se (by omega)]; exact hO.2.2 v (by omega)
        by_cases a : os &&& (((1 : Int32) <<< (nI u &&& 31)) ||| ((1 : Int32) <<< (nI v &&& 31))) = 0
        · obtain ⟨a1, a2⟩ := (bz_ends (by omega) (by omega)).mp a
          refine br_t a (bz_xan hn _ _ (nm_e (bz_xsep hP hn hu hv _ _ ?_)))
          intro R hR
          have hM : ∀ i, n ≤ i → bt (bz_an ps n ((((1 : Int32) <<< (nI u &&& 31)) ||| ((1 : Int32) <<< (nI v &&& 31))) ||| os)) i = false := by
            refine bz_an_b hP hn n (Nat.le_refl _) _ ?_
            intro i hi
            rw [b_or, b_or, bz_one2 (by omega), bz_one2 (by omega), hO.1 i hi, decide_eq_false (by omega), decide_eq_false (by omega)]
            rfl
          refine bz_ygood hn hu _ (br_t rfl ?_)
          refine bz_ygood hn hv _ (br_t rfl (br_f e ⟨vp_in_nI (by omega) (by decide), ?_⟩))
          rw [hsu, hsv]
          refine br_f (fun z => a1 ((bz_ov2 os oo u).mp z)) ⟨vp_in_nI (by omega) (by decide), ?_⟩
          refine br_t (Int32.not_lt.mp (fun z => a2 ((bz_ov2 os oo v).mp z))) (bz_yshut hO hn _ _ _ ?_)
          unfold wY_separated_94
          refine bz_yan hP hn _ _ (bz_ydr _ _ (nm_e ?_))
          refine bz_ysep (os := os) (oo := oo) hP hn hu hv _ (fun q hq j => (bz_dr_b ps _ ls hq j 7).trans (bz_E7 hn hM)) _ ?_
          intro T hT
          refine ⟨?_, n, os, oo, ps, en, se, _, rfl, rfl, h2, hn, hP, hN, hO⟩
          rw [bz_QQ hP hn (by omega) (by omega) hR hT v]
        · refine br_f a ?_
          refine bz_ygood hn hu _ (br_t rfl ?_)
          refine bz_ygood hn hv _ (br_t rfl (br_f e ⟨vp_in_nI (by omega) (by decide), ?_⟩))
          rw [hsu, hsv]
          by_cases a1 : bt os u = true
          · exact br_t ((bz_ov2 os oo u).mpr a1) ⟨rfl, J⟩
          · refine br_f (fun z => a1 ((bz_ov2 os oo u).mp z)) ⟨vp_in_nI (by omega) (by decide), ?_⟩
            refine br_f (fun z => ?_) ⟨rfl, J⟩
            refine a ((bz_ends (by omega) (by omega)).mpr ⟨a1, fun y => ?_⟩)
            exact Int32.not_lt.mpr z ((bz_ov2 os oo v).mpr y)
theorem i_vc_independent {k : Nat} {u : SX} {v : SY} (I : i_Rel k u v) (hk : k + 5 ≤ 2561) (v1 : Int32) (v2 : Int32) : wpX_independent (fun r => wpY_independent (fun r' => r' = r ∧ i_Rel (k + 5) u v) v v1 v2) u v1 v2 := by
  obtain ⟨n, os, oo, ps, en, se, ls, rfl, rfl, h2, hn, hP, hN, hO⟩ := I
  have J : i_Rel (k + 5) (nI n, os, oo, ps, en) (nI n, ps, en, se, ls) := ⟨n, os, oo, ps, en, se, ls, rfl, rfl, h2, hn, hP, hN, hO⟩
  unfold wpX_independent wpY_independent
  dsimp only
  rcases bz_gd v1 hn with z | ⟨u, hu, rfl⟩
  · refine bz_xbad z _ (br_t rfl ?_)
    exact bz_ybad z _ (br_f (by decide) ⟨rfl, J⟩)
  · refine bz_xgood hn hu _ (br_f (by decide) ?_)
    rcases bz_gd v2 hn with z | ⟨v, hv, rfl⟩
    · refine bz_xbad z _ (br_t rfl ?_)
      refine bz_ygood hn hu _ (br_t rfl ?_)
      exact bz_ybad z _ (br_f (by decide) ⟨rfl, J⟩)
    · refine bz_xgood hn hv _ (br_f (by decide) ?_)
      unfold wpX_total
      dsimp only
      refine bz_xsum hP hn 0 0 _ ?_
      have Yy : ∀ (post : Int32 → Prop), (∀ A B, ¬ bz_ind (bz_sum (bz_cx os oo 0 0) (bz_W ps en n) (2 ^ n)) n os oo ps en u v A B → post 0) → ((∀ A B, bz_ind (bz_sum (bz_cx os oo 0 0) (bz_W ps en n) (2 ^ n)) n os oo ps en u v A B) → post 1) → wpY_independent post (nI n, ps, en, se, ls) (nI u) (nI v) := by
        intro post p0 p1
        unfold wpY_independent
        dsimp only
        refine bz_ygood hn hu _ (br_t rfl ?_)
        refine bz_ygood hn hv _ (br_t rfl ?_)
        refine bz_ysum hP hO hn (u := 0) (v := 0) (by decide) (by decide) false false _ ?_
        refine bz_ysum hP hO hn (u := 0) (v := 0) (by decide) (by decide) true true _ ?_
        exact nm_r (bz_tot os oo _ _) (bz_yind hP hO hn hu hv _ post p0 p1)
      by_cases all : ∀ A B, bz_ind (bz_sum (bz_cx os oo 0 0) (bz_W ps en n) (2 ^ n)) n os oo ps en u v A B
      · refine bz_xind hP hn hu hv _ _ (fun A B z => absurd (all A B) z) (fun _ => ?_)
        exact Yy _ (fun A B z => absurd (all A B) z) (fun _ => ⟨rfl, J⟩)
      · refine bz_xind hP hn hu hv _ _ (fun _ _ _ => ?_) (fun z => absurd z all)
        exact Yy _ (fun _ _ _ => ⟨rfl, J⟩) (fun z => absurd z all)
theorem i_vc_blanket {k : Nat} {u : SX} {v : SY} (I : i_Rel k u v) (hk : k + 5 ≤ 2561) (v1 : Int32) : wpX_blanket (fun r => wpY_blanket (fun r' => r' = r ∧ i_Rel (k + 5) u v) v v1) u v1 := by
  obtain ⟨n, os, oo, ps, en, se, ls, rfl, rfl, h2, hn, hP, hN, hO⟩ := I
  have J : i_Rel (k + 5) (nI n, os, oo, ps, en) (nI n, ps, en, se, ls) := ⟨n, os, oo, ps, en, se, ls, rfl, rfl, h2, hn, hP, hN, hO⟩
  unfold wpX_blanket wpY_blanket
  dsimp only
  rcases bz_gd v1 hn with z | ⟨v, hv, rfl⟩
  · refine bz_xbad z _ (br_t rfl ?_)
    exact bz_ybad z _ (br_f (by decide) ⟨rfl, J⟩)
  · refine bz_xgood hn hv _ (br_f (by decide) (nm_e (nm_r (by rw [bz_p2 n (by omega)]) (bz_xlk hn _ _ _ ?_))))
    refine bz_ygood hn hv _ (br_t rfl ⟨vp_in_nI (by omega) (by decide), nm_r (bz_ca ps (by omega)) (bz_ybl hn hv _ ?_)⟩)
    exact ⟨(bz_blk ps hn hv).symm, J⟩
