/-! the relation; constructors; the storing methods -/
def i_Rel (_ : Nat) (u : SX) (v : SY) : Prop := ∃ (n : Nat) (os oo : Int32) (ps en se ls : Nat → Int32), u = (nI n, os, oo, ps, en) ∧ v = (nI n, ps, en, se, ls) ∧ 2 ≤ n ∧ n ≤ 7 ∧ bz_P n ps ∧ bz_N en ∧ bz_O n os oo se
theorem i_up {k : Nat} {u : SX} {v : SY} (h : i_Rel k u v) : i_Rel (k + 5) u v := h
def bz_two (m : Nat) : Nat → Int32 := fun q => if q < m then 2 else 0
theorem bz_two0 : bz_two 0 = fun _ => 0 := by
  funext q
  unfold bz_two
  rw [if_neg (Nat.not_lt_zero q)]
theorem bz_twos (m : Nat) : upd (bz_two m) m 2 = bz_two (m + 1) := by
  funext q
  unfold upd bz_two
  by_cases e : q = m
  · rw [if_pos e, if_pos (by omega)]
  · rw [if_neg e]
    by_cases c : q < m
    · rw [if_pos c, if_pos (by omega)]
    · rw [if_neg c, if_neg (by omega)]
theorem bz_xinit {n : Nat} (post : SX → Prop) (h : post (nI n, 0, 0, fun _ => 0, bz_fl (fun _ => 0) 0 112)) : ∃ f, wX_init_45 post f 0 (nI n) 0 0 (fun _ => 0) (fun _ => 0) := by
  have key := bz_lpF (fun f i (a : Nat → Int32) => wX_init_45 post f i (nI n) 0 0 (fun _ => 0) a) (fun i => bz_fl (fun _ => 0) 0 (16 * i)) 7 (fun f => br_t (nI_le (a := 7) (b := 7) (by decide) (by decide)) h) (by
    intro f i hi k
    refine br_f (nI_ge (b := 7) hi (by decide)) (bz_xfill (n := 0) hi _ (nm_r (nI_1 i) ?_))
    rw [bz_flf, show 16 * i + 16 = 16 * (i + 1) from by omega]
    exact k)
  rw [show 16 * 0 = 0 from rfl, bz_fl0] at key
  exact key
theorem bz_yinit {n : Nat} (post : SY → Prop) (h : post (nI n, fun _ => 0, bz_fl (fun _ => 0) 0 112, bz_two 7, fun _ => 0)) : ∃ f, wY_init_63 post (nI n) f 0 (fun _ => 0) (fun _ => 0) (fun _ => 0) (fun _ => 0) := by
  have k2 := bz_lpF (fun f i (a : Nat → Int32) => wY_init_84 post (nI n) f i (fun _ => 0) (bz_fl (fun _ => 0) 0 112) a (fun _ => 0)) (fun i => bz_two i) 7 (fun f => br_t (nI_le (a := 7) (b := 7) (by decide) (by decide)) h) (by
    intro f i hi k
    exact br_f (nI_ge (b := 7) hi (by decide)) ⟨vp_in_nI hi (by decide), nm_r (by rw [bz_cu _ _ (by omega), bz_twos]) (nm_r (nI_1 i) k)⟩)
  rw [bz_two0] at k2
  have key := bz_lpF (fun f i (a : Nat → Int32) => wY_init_63 post (nI n) f i (fun _ => 0) a (fun _ => 0) (fun _ => 0)) (fun i => bz_fl (fun _ => 0) 0 i) 112 (fun f => br_t (nI_le (a := 112) (b := 112) (by decide) (by decide)) k2) (by
    intro f i hi k
    have e := bz_fls (fun _ => 0) 0 i
    rw [Nat.zero_add] at e
    exact br_f (nI_ge (b := 112) hi (by decide)) ⟨vp_in_nI hi (by decide), nm_r (by rw [bz_cu _ _ hi, e]) (nm_r (nI_1 i) k)⟩)
  rw [bz_fl0] at key
  exact key
theorem bz_start (n : Nat) (h2 : 2 ≤ n) (hn : n ≤ 7) : i_Rel 1 (nI n, 0, 0, fun _ => 0, bz_fl (fun _ => 0) 0 112) (nI n, fun _ => 0, bz_fl (fun _ => 0) 0 112, bz_two 7, fun _ => 0) :=
  ⟨n, 0, 0, fun _ => 0, bz_fl (fun _ => 0) 0 112, bz_two 7, fun _ => 0, rfl, rfl, h2, hn, bz_P0 n, bz_flN (fun _ _ => ⟨0, by decide, rfl⟩) 0 112, bz_O0 (fun v hv => if_pos hv)⟩
theorem i_vc0 (k0 : Int32) : wpX_init (fun u => wpY_init (fun v => i_Rel 1 u v) k0) k0 := by
  by_cases h2 : 2 ≤ k0
  · by_cases h7 : k0 ≤ 7
    · obtain ⟨j, hj, rfl⟩ := nI_of2 (x := k0) (M := 7) (n := 7) (by decide) (Int32.not_lt.mpr (Int32.le_trans (by decide) h2)) h7
      have hj2 : 2 ≤ j := (nI_leI (a := 2) (by decide) (by omega)).mp h2
      exact br_t h2 (br_t h7 (bz_xinit _ (br_t h2 (br_t h7 (bz_yinit _ (bz_start j hj2 hj))))))
    · exact br_t h2 (br_f h7 (bz_xinit (n := 7) _ (br_t h2 (br_f h7 (bz_yinit (n := 7) _ (bz_start 7 (by decide) (by decide)))))))
  · exact br_f h2 (br_t (by decide) (bz_xinit (n := 2) _ (br_f h2 (bz_yinit (n := 2) _ (bz_start 2 (by decide) (by decide))))))
theorem i_vc_variables {k : Nat} {u : SX} {v : SY} (I : i_Rel k u v) (hk : k + 5 ≤ 2561) : wpX_variables (fun r => wpY_variables (fun r' => r' = r ∧ i_Rel (k + 5) u v) v) u := by
  obtain ⟨n, os, oo, ps, en, se, ls, rfl, rfl, h2, hn, hP, hN, hO⟩ := I
  exact ⟨rfl, n, os, oo, ps, en, se, ls, rfl, rfl, h2, hn, hP, hN, hO⟩
theorem i_vc_parents {k : Nat} {u : SX} {v : SY} (I : i_Rel k u v) (hk : k + 5 ≤ 2561) (v1 : Int32) (v2 : Int32) : wpX_parents (fun r u' => wpY_parents (fun r' v' => r' = r ∧ i_Rel (k + 5) u' v') v v1 v2) u v1 v2 := by
  obtain ⟨n, os, oo, ps, en, se, ls, rfl, rfl, h2, hn, hP, hN, hO⟩ := I
  have J : i_Rel (k + 5) (nI n, os, oo, ps, en) (nI n, ps, en, se, ls) := ⟨n, os, oo, ps, en, se, ls, rfl, rfl, h2, hn, hP, hN, hO⟩
  unfold wpX_parents wpY_parents
  dsimp only
  rcases bz_gd v1 hn with z | ⟨v, hv, rfl⟩
  · refine bz_xbad z _ (br_t rfl ?_)
    exact bz_ybad z _ (br_f (by decide) ⟨rfl, J⟩)
  · refine bz_xgood hn hv _ (br_f (by decide) ?_)
    by_cases a : v2 < 0
    · refine br_t a (br_t rfl ?_)
      exact bz_ygood hn hv _ (br_t rfl (br_t a ⟨rfl, J⟩))
    · refine br_f a ?_
      by_cases b : (1 : Int32) <<< (nI v &&& 31) ≤ v2
      · refine br_t b (br_t rfl ?_)
        exact bz_ygood hn hv _ (br_t rfl (br_f a (br_t b ⟨rfl, J⟩)))
      · refine br_f b (bz_xsz _ _ ?_)
        obtain ⟨s, hs, rfl⟩ := nI_of a
        have hs2 : s < 2 ^ v := by
          have hp := bz_pow (by omega : v ≤ 7)
          rw [bz_p2 v (by omega), nI_leI (by omega) hs] at b
          omega
        have h7 := bz_pc_le (nI s) 7
        by_cases c : bz_pc (nI s) 7 ≤ 3
        · refine br_f (nI_nlt (a := 3) c (by decide)) (br_f (by decide) ⟨vp_in_nI (by omega) (by decide), nm_r (bz_ca ps (by omega)) ⟨vp_in_nI (by omega) (by decide), nm_r (bz_cu ps _ (by omega)) (bz_xfill (n := n) (by omega) _ ?_)⟩⟩)
          refine bz_ygood hn hv _ (br_t rfl (br_f a (br_f b (bz_ysz _ _ ?_))))
          refine br_t (nI_le (b := 3) c (by decide)) ⟨vp_in_nI (by omega) (by decide), nm_r (bz_ca ps (by omega)) ⟨vp_in_nI (by omega) (by decide), nm_r (bz_cu ps _ (by omega)) (bz_ypar (by omega) _ _ ?_)⟩⟩
          exact ⟨rfl, n, os, oo, upd ps v (nI s), bz_fl en (16 * v) 16, se, ls, rfl, rfl, h2, hn, bz_upP hP hv hs2 c, bz_flN hN _ _, hO⟩
        · refine br_t (nI_lt (a := 3) (by omega) (by omega)) (br_t rfl ?_)
          refine bz_ygood hn hv _ (br_t rfl (br_f a (br_f b (bz_ysz _ _ ?_))))
          exact br_f (nI_ge (a := 3) (by omega) (by omega)) ⟨rfl, J⟩
theorem i_vc_enter {k : Nat} {u : SX} {v : SY} (I : i_Rel k u v) (hk : k + 5 ≤ 2561) (v1 : Int32) (v2 : Int32) (v3 : Int32) (v4 : Int32) : wpX_enter (fun r u' => wpY_enter (fun r' v' => r' = r ∧ i_Rel (k + 5) u' v') v v1 v2 v3 v4) u v1 v2 v3 v4 := by
  obtain ⟨n, os, oo, ps, en, se, ls, rfl, rfl, h2, hn, hP, hN, hO⟩ := I
  have J : i_Rel (k + 5) (nI n, os, oo, ps, en) (nI n, ps, en, se, ls) := ⟨n, os, oo, ps, en, se, ls, rfl, rfl, h2, hn, hP, hN, hO⟩
  unfold wpX_enter wpY_enter
  dsimp only
  rcases bz_gd v1 hn with z | ⟨v, hv, rfl⟩
  · refine bz_xbad z _ (br_t rfl ?_)
    exact bz_ybad z _ (br_f (by decide) ⟨rfl, J⟩)
  · have h7 : v < 7 := by omega
    have h8 := bz_r8 hP h7
    refine bz_xgood hn hv _ (br_f (by decide) ?_)
    by_cases a : v2 < 0
    · refine br_t a ?_
      exact bz_ygood hn hv _ (br_t rfl (br_t a ⟨rfl, J⟩))
    · refine br_f a (bz_xrc hP h7 _ ?_)
      by_cases b : v2 < nI (2 ^ bz_pc (ps v) 7)
      · refine br_t b ?_
        obtain ⟨r, hr, rfl⟩ := nI_of a
        have hr8 : r < 8 := by
          rw [nI_ltI hr (by omega)] at b
          omega
        rcases bz_val v3 with ⟨B, rfl⟩ | ⟨c0, c1, c2⟩
        · refine bz_xval B _ (br_f (by decide) ?_)
          by_cases d : v4 < 0
          · refine br_t d ?_
            refine bz_ygood hn hv _ (br_t rfl (br_f a (bz_yrc hP h7 _ (br_t b ?_))))
            exact br_f (bz_val0 B).1 (br_t (bz_val0 B).2.2.2 (br_t d ⟨rfl, J⟩))
          · refine br_f d ?_
            by_cases g : v4 ≤ 9
            · refine br_t g ?_
              obtain ⟨e, he, rfl⟩ := nI_of2 (M := 9) (n := 9) (by decide) d g
              have hb := bz_t1 B
              refine bz_xplace _ (m := 16 * v + 2 * r + B.toNat) (by rw [bz_svn, bz_pX]) ⟨vp_in_nI (by omega) (by decide), nm_r (bz_ca en (by omega)) ⟨vp_in_nI (by omega) (by decide), nm_r (bz_cu en _ (by omega)) ?_⟩⟩
              have eY : 16 * nI v + 2 * nI r + bz_sv B = nI (16 * v + 2 * r + B.toNat) := by rw [bz_svn, bz_pY]
              refine bz_ygood hn hv _ (br_t rfl (br_f a (bz_yrc hP h7 _ (br_t b ?_))))
              refine br_f (bz_val0 B).1 (br_t (bz_val0 B).2.2.2 (br_f d (br_t g ?_)))
              rw [eY]
              exact ⟨vp_in_nI (by omega) (by decide), nm_r (bz_ca en (by omega)) ⟨vp_in_nI (by omega) (by decide), nm_r (bz_cu en _ (by omega)) ⟨rfl, n, os, oo, ps, _, se, ls, rfl, rfl, h2, hn, hP, bz_upN hN _ he, hO⟩⟩⟩
            · refine br_f g ?_
              refine bz_ygood hn hv _ (br_t rfl (br_f a (bz_yrc hP h7 _ (br_t b ?_))))
              exact br_f (bz_val0 B).1 (br_t (bz_val0 B).2.2.2 (br_f d (br_f g ⟨rfl, J⟩)))
        · refine bz_xnval c0 c1 _ (br_t rfl ?_)
          refine bz_ygood hn hv _ (br_t rfl (br_f a (bz_yrc hP h7 _ (br_t b ?_))))
          by_cases d : v3 < 0
          · exact br_t d ⟨rfl, J⟩
          · rcases c2 with c2 | c2
            · exact absurd c2 d
            · exact br_f d (br_f (Int32.not_le.mpr c2) ⟨rfl, J⟩)
      · refine br_f b ?_
        refine bz_ygood hn hv _ (br_t rfl (br_f a (bz_yrc hP h7 _ (br_f b ⟨rfl, J⟩))))
theorem i_vc_sow {k : Nat} {u : SX} {v : SY} (I : i_Rel k u v) (hk : k + 5 ≤ 2561) (v1 : Int32) (v2 : Int32) : wpX_sow (fun r u' => wpY_sow (fun r' v' => r' = r ∧ i_Rel (k + 5) u' v') v v1 v2) u v1 v2 := by
  obtain ⟨n, os, oo, ps, en, se, ls, rfl, rfl, h2, hn, hP, hN, hO⟩ := I
  have J : i_Rel (k + 5) (nI n, os, oo, ps, en) (nI n, ps, en, se, ls) := ⟨n, os, oo, ps, en, se, ls, rfl, rfl, h2, hn, hP, hN, hO⟩
  unfold wpX_sow wpY_sow
  dsimp only
  rcases bz_gd v1 hn with z | ⟨v, hv, rfl⟩
  · refine bz_xbad z _ (br_t rfl ?_)
    exact bz_ybad z _ (br_f (by decide) ⟨rfl, J⟩)
  · have h7 : v < 7 := by omega
    have h8 := bz_r8 hP h7
    refine bz_xgood hn hv _ (br_f (by decide) ?_)
    by_cases a : v2 < 0
    · refine br_t a ?_
      exact bz_ygood hn hv _ (br_t rfl (br_t a ⟨rfl, J⟩))
    · refine br_f a ?_
      by_cases b : v2 ≤ 9
      · refine br_t b ?_
        obtain ⟨s, hs, rfl⟩ := nI_of2 (M := 9) (n := 9) (by decide) a b
        refine bz_xrc hP h7 _ (bz_xsow h7 hs h8 _ ?_)
        refine bz_ygood hn hv _ (br_t rfl (br_f a (br_t b (bz_yrc hP h7 _ (bz_ysow h7 hs h8 _ ?_)))))
        exact ⟨rfl, n, os, oo, ps, _, se, ls, rfl, rfl, h2, hn, hP, bz_swN hN v s _, hO⟩
      · refine br_f b ?_
        exact bz_ygood hn hv _ (br_t rfl (br_f a (br_f b ⟨rfl, J⟩)))
theorem i_vc_observe {k : Nat} {u : SX} {v : SY} (I : i_Rel k u v) (hk : k + 5 ≤ 2561) (v1 : Int32) (v2 : Int32) : wpX_observe (fun r u' => wpY_observe (fun r' v' => r' = r ∧ i_Rel (k + 5) u' v') v v1 v2) u v1 v2 := by
  obtain ⟨n, os, oo, ps, en, se, ls, rfl, rfl, h2, hn, hP, hN, hO⟩ := I
  have J : i_Rel (k + 5) (nI n, os, oo, ps, en) (nI n, ps, en, se, ls) := ⟨n, os, oo, ps, en, se, ls, rfl, rfl, h2, hn, hP, hN, hO⟩
  unfold wpX_observe wpY_observe
  dsimp only
  rcases bz_gd v1 hn with z | ⟨v, hv, rfl⟩
  · refine bz_xbad z _ (br_t rfl ?_)
    exact bz_ybad z _ (br_f (by decide) ⟨rfl, J⟩)
  · have h7 : v < 7 := by omega
    have hov : se (nI v).toNatClampNeg = bz_ov os oo v := by rw [bz_ca se (by omega)]; exact hO.2.2 v h7
    refine bz_xgood hn hv _ (br_f (by decide) ?_)
    by_cases a : v2 < 0
    · refine br_t a ?_
      exact bz_ygood hn hv _ (br_t rfl (br_t a ⟨rfl, J⟩))
    · refine br_f a ?_
      by_cases b : v2 ≤ 2
      · refine br_t b (bz_xov (by omega) _ (nm_e (nm_e (nm_e ?_))))
        by_cases c : v2 = 2
        · refine br_t c ?_
          refine bz_ygood hn hv _ (br_t rfl (br_f a (br_t b ⟨vp_in_nI h7 (by decide), nm_r hov ⟨vp_in_nI h7 (by decide), nm_r (bz_cu se _ (by omega)) ?_⟩⟩)))
          rw [c]
          exact ⟨rfl, n, _, _, ps, en, _, ls, rfl, rfl, h2, hn, hP, hN, bz_upO2 hO hv hn⟩
        · refine br_f c (nm_e (nm_e ?_))
          have hB : ∃ B, v2 = bz_sv B := by
            obtain ⟨j, hj, rfl⟩ := nI_of2 (M := 2) (n := 2) (by decide) a b
            have hj2 : ¬ j = 2 := fun z => c (by rw [z]; rfl)
            by_cases j0 : j = 0
            · exact ⟨false, by rw [j0]; rfl⟩
            · exact ⟨true, by rw [show j = 1 from by omega]; rfl⟩
          obtain ⟨B, rfl⟩ := hB
          refine bz_ygood hn hv _ (br_t rfl (br_f a (br_t b ⟨vp_in_nI h7 (by decide), nm_r hov ⟨vp_in_nI h7 (by decide), nm_r (bz_cu se _ (by omega)) ?_⟩⟩)))
          exact ⟨rfl, n, _, _, ps, en, _, ls, rfl, rfl, h2, hn, hP, hN, bz_upOb B hO hv hn⟩
      · refine br_f b ?_
        exact bz_ygood hn hv _ (br_t rfl (br_f a (br_f b ⟨rfl, J⟩)))
