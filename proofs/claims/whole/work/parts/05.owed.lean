/-! what is owed -/
theorem i_up {k : Nat} {u : SX} {v : SY} (h : i_Rel k u v) : i_Rel (k + 4) u v := by
  obtain ⟨c, f, s, w, g, m, la, fl, sa, se, wr, ov, bu, rfl, rfl, R⟩ := h
  exact bh_mk _ _ _ _ _ _ _ _ _ _ _ _ _ (bh_Rup R)
theorem i_vc0 : wpX_init (fun u => wpY_init (fun v => i_Rel 0 u v)) :=
  bh_mk 0 0 0 0 0 0 (fun _ => 0) (fun _ => 0) (fun _ => 0) (fun _ => 0) (fun _ => 0) (fun _ => 0) (fun _ => 0) ⟨by omega, by omega, by omega, by omega, by omega, by omega, (by decide +kernel), fun _ _ => ⟨0, by decide, rfl⟩, fun _ => ⟨by omega, by omega⟩, fun e => absurd rfl e⟩
theorem i_vc_begin {k : Nat} {u : SX} {v : SY} (I : i_Rel k u v) (hk : k + 4 ≤ 2048) : wpX_begin (fun r u' => wpY_begin (fun r' v' => r' = r ∧ i_Rel (k + 4) u' v') v) u := by
  obtain ⟨c, f, s, w, g, m, la, fl, sa, se, wr, ov, bu, rfl, rfl, R⟩ := I
  refine ⟨5, bh_XbeL (bh_Rm R) 4 0 rfl (fun e => ⟨5, bh_YbeL (bh_Ru R) 4 0 rfl (fun _ => ⟨rfl, bh_mk _ _ _ _ _ _ _ _ _ _ _ _ _ (bh_Rup R)⟩) (fun t ht e2 => ?_)⟩) (fun t ht e => ⟨5, bh_YbeL (bh_Ru R) 4 0 rfl (fun e2 => ?_) (fun t2 ht2 e2 => ?_)⟩)⟩
  · omega
  · omega
  · have e3 : t2 = t := by omega
    subst e3
    exact ⟨rfl, bh_mk _ _ _ _ _ _ _ _ _ _ _ _ _ (bh_Rbe ht R)⟩
theorem i_vc_write {k : Nat} {u : SX} {v : SY} (I : i_Rel k u v) (hk : k + 4 ≤ 2048) (v1 : Int32) (v2 : Int32) (v3 : Int32) : wpX_write (fun r u' => wpY_write (fun r' v' => r' = r ∧ i_Rel (k + 4) u' v') v v1 v2 v3) u v1 v2 v3 := by
  obtain ⟨c, f, s, w, g, m, la, fl, sa, se, wr, ov, bu, rfl, rfl, R⟩ := I
  have hm := bh_Rm R
  have hu := bh_Ru R
  unfold wpX_write wpY_write
  dsimp only
  rcases bh_op m v1 with ⟨j, hj, rfl, hb⟩ | hn
  · refine bh_XoT hm hj hb (br_f (by decide) ?_)
    rcases bh_ky v2 with ⟨i, hi, rfl⟩ | hn
    · refine bh_XkT hi (br_f (by decide) ⟨bh_inX hj hi, nm_r (e' := upd se (8 * j + i) v3) (by rw [bh_cX hj hi]) ⟨bh_in4 hj, bh_in4 hj, nm_r (e' := upd wr j (wr j ||| ((1 : Int32) <<< (nI i &&& 31)))) (by rw [bh_cl (by omega)]) ?_⟩⟩)
      refine bh_YoT hu hj hb (br_f (by decide) ?_)
      refine bh_YkT hi (br_f (by decide) ⟨bh_inY hj hi, nm_r (e' := upd se (8 * j + i) v3) (by rw [bh_cY hj hi]) ⟨bh_in4 hj, bh_in4 hj, nm_r (e' := upd wr j (wr j ||| ((1 : Int32) <<< (nI i &&& 31)))) (by rw [bh_cl (by omega)]) ?_⟩⟩)
      exact ⟨rfl, bh_mk _ _ _ _ _ _ _ _ _ _ _ _ _ (bh_Rwr hj hi R)⟩
    · refine bh_XkF hn (br_t rfl ?_)
      refine bh_YoT hu hj hb (br_f (by decide) ?_)
      exact bh_YkF hn (br_t rfl ⟨rfl, bh_mk _ _ _ _ _ _ _ _ _ _ _ _ _ (bh_Rup R)⟩)
  · refine bh_XoF hm hn (br_t rfl ?_)
    exact bh_YoF hu hn (br_t rfl ⟨rfl, bh_mk _ _ _ _ _ _ _ _ _ _ _ _ _ (bh_Rup R)⟩)
theorem i_vc_read {k : Nat} {u : SX} {v : SY} (I : i_Rel k u v) (hk : k + 4 ≤ 2048) (v1 : Int32) (v2 : Int32) : wpX_read (fun r => wpY_read (fun r' => r' = r ∧ i_Rel (k + 4) u v) v v1 v2) u v1 v2 := by
  have J := i_up I
  obtain ⟨c, f, s, w, g, m, la, fl, sa, se, wr, ov, bu, rfl, rfl, R⟩ := I
  have hm := bh_Rm R
  have hu := bh_Ru R
  unfold wpX_read wpY_read
  dsimp only
  rcases bh_op m v1 with ⟨j, hj, rfl, hb⟩ | hn
  · refine bh_XoT hm hj hb (br_f (by decide) ?_)
    rcases bh_ky v2 with ⟨i, hi, rfl⟩ | hn
    · refine bh_XkT hi (br_f (by decide) ⟨bh_inX hj hi, ?_⟩)
      refine bh_YoT hu hj hb (br_f (by decide) ?_)
      exact bh_YkT hi (br_f (by decide) ⟨bh_inY hj hi, by rw [bh_cX hj hi, bh_cY hj hi], J⟩)
    · refine bh_XkF hn (br_t rfl ?_)
      refine bh_YoT hu hj hb (br_f (by decide) ?_)
      exact bh_YkF hn (br_t rfl ⟨rfl, J⟩)
  · refine bh_XoF hm hn (br_t rfl ?_)
    exact bh_YoF hu hn (br_t rfl ⟨rfl, J⟩)
theorem i_vc_commit {k : Nat} {u : SX} {v : SY} (I : i_Rel k u v) (hk : k + 4 ≤ 2048) (v1 : Int32) : wpX_commit (fun r u' => wpY_commit (fun r' v' => r' = r ∧ i_Rel (k + 4) u' v') v v1) u v1 := by
  obtain ⟨c, f, s, w, g, m, la, fl, sa, se, wr, ov, bu, rfl, rfl, R⟩ := I
  have hm := bh_Rm R
  have hu := bh_Ru R
  unfold wpX_commit wpY_commit
  dsimp only
  rcases bh_op m v1 with ⟨j, hj, rfl, hb⟩ | hn
  · have hcj : (nI j).toNatClampNeg = j := bh_cl (by omega)
    have ebu : upd bu (nI j).toNatClampNeg (vp_nar .boolean 0) = upd bu j 0 := by rw [hcj, bh_nb0]
    refine bh_XoT hm hj hb (br_f (by decide) (bh_Xcl hj hm ?_))
    obtain ⟨q, hq, eq⟩ := bh_Rq R j hj
    by_cases hc : wr j &&& ov j = 0
    · have hc' : wr (nI j).toNatClampNeg &&& ov (nI j).toNatClampNeg = 0 := by rw [hcj]; exact hc
      by_cases hz : q = 0
      · have hz' : wr (nI j).toNatClampNeg = 0 := by rw [hcj, eq, hz]; rfl
        refine ⟨bh_in4 hj, bh_in4 hj, br_t hc' ⟨bh_in4 hj, br_t hz' ?_⟩⟩
        refine bh_YoT hu hj hb (br_f (by decide) ⟨bh_in4 hj, nm_r ebu ⟨bh_in4 hj, bh_in4 hj, br_t hc' ⟨bh_in4 hj, br_t hz' ?_⟩⟩⟩)
        exact ⟨rfl, bh_mk _ _ _ _ _ _ _ _ _ _ _ _ _ (bh_Rcl hj R)⟩
      · have hz' : ¬ wr (nI j).toNatClampNeg = 0 := by
          rw [hcj, eq]
          exact nI_ne0 (by omega) (by omega)
        refine ⟨bh_in4 hj, bh_in4 hj, br_t hc' ⟨bh_in4 hj, br_f hz' (bh_Xap hj hq eq ?_)⟩⟩
        refine ⟨bh_in4 hj, bh_Xor ?_⟩
        refine nm_r (nI_1 c) ?_
        refine bh_YoT hu hj hb (br_f (by decide) ⟨bh_in4 hj, nm_r ebu ⟨bh_in4 hj, bh_in4 hj, br_t hc' ⟨bh_in4 hj, br_f hz' (bh_Yap hj hq eq ?_)⟩⟩⟩)
        rw [hcj]
        exact ⟨rfl, bh_mk _ _ _ _ _ _ _ _ _ _ _ _ _ (bh_Rco hj hq hz R)⟩
    · have hc' : ¬ wr (nI j).toNatClampNeg &&& ov (nI j).toNatClampNeg = 0 := by rw [hcj]; exact hc
      refine ⟨bh_in4 hj, bh_in4 hj, br_f hc' ?_⟩
      refine bh_YoT hu hj hb (br_f (by decide) ⟨bh_in4 hj, nm_r ebu ⟨bh_in4 hj, bh_in4 hj, br_f hc' ?_⟩⟩)
      exact ⟨rfl, bh_mk _ _ _ _ _ _ _ _ _ _ _ _ _ (bh_Rcl hj R)⟩
  · refine bh_XoF hm hn (br_t rfl ?_)
    exact bh_YoF hu hn (br_t rfl ⟨rfl, bh_mk _ _ _ _ _ _ _ _ _ _ _ _ _ (bh_Rup R)⟩)
theorem i_vc_abort {k : Nat} {u : SX} {v : SY} (I : i_Rel k u v) (hk : k + 4 ≤ 2048) (v1 : Int32) : wpX_abort (fun r u' => wpY_abort (fun r' v' => r' = r ∧ i_Rel (k + 4) u' v') v v1) u v1 := by
  obtain ⟨c, f, s, w, g, m, la, fl, sa, se, wr, ov, bu, rfl, rfl, R⟩ := I
  have hm := bh_Rm R
  have hu := bh_Ru R
  unfold wpX_abort wpY_abort
  dsimp only
  rcases bh_op m v1 with ⟨j, hj, rfl, hb⟩ | hn
  · have ebu : upd bu (nI j).toNatClampNeg (vp_nar .boolean 0) = upd bu j 0 := by rw [bh_cl (by omega), bh_nb0]
    refine bh_XoT hm hj hb (br_f (by decide) (bh_Xcl hj hm ?_))
    refine bh_YoT hu hj hb (br_f (by decide) ⟨bh_in4 hj, nm_r ebu ?_⟩)
    exact ⟨rfl, bh_mk _ _ _ _ _ _ _ _ _ _ _ _ _ (bh_Rcl hj R)⟩
  · refine bh_XoF hm hn (br_t rfl ?_)
    exact bh_YoF hu hn (br_t rfl ⟨rfl, bh_mk _ _ _ _ _ _ _ _ _ _ _ _ _ (bh_Rup R)⟩)
theorem i_vc_seal {k : Nat} {u : SX} {v : SY} (I : i_Rel k u v) (hk : k + 4 ≤ 2048) : wpX_seal (fun r u' => wpY_seal (fun r' v' => r' = r ∧ i_Rel (k + 4) u' v') v) u := by
  obtain ⟨c, f, s, w, g, m, la, fl, sa, se, wr, ov, bu, rfl, rfl, R⟩ := I
  obtain ⟨h1, h2, h3, h4, h5, hm, hu, hq, h6, h7⟩ := id R
  by_cases hg : g = 0
  · obtain ⟨a, b⟩ := h6 hg
    subst hg
    by_cases hw : w = 0
    · have e : nI c = nI s := by rw [b.mp hw]
      subst hw
      exact br_t rfl (br_t rfl (br_t (by decide) (br_t e ⟨rfl, bh_mk _ _ _ _ _ _ _ _ _ _ _ _ _ (bh_Rup R)⟩)))
    · have e : ¬ nI c = nI s := by
        rw [nI_eq (by omega) (by omega)]
        exact fun e => hw (b.mpr e)
      refine br_t rfl (br_f (nI_ne0 (by omega) (by omega)) (bh_XcA ?_))
      refine nm_r (nI_1 w) ?_
      refine br_t (by decide) (br_f e (nm_r (nI_1 w) ⟨9, bh_YslL 8 0 fl rfl ?_⟩))
      exact ⟨rfl, bh_mk c c s 0 (w + 1) m _ _ _ _ _ _ _ (bh_Rse R)⟩
  · refine br_f (nI_ne0 (by omega) (by omega)) ?_
    exact br_f (nI_nle (by omega) (by omega)) ⟨rfl, bh_mk _ _ _ _ _ _ _ _ _ _ _ _ _ (bh_Rup R)⟩
theorem i_vc_flush {k : Nat} {u : SX} {v : SY} (I : i_Rel k u v) (hk : k + 4 ≤ 2048) (v1 : Int32) : wpX_flush (fun r u' => wpY_flush (fun r' v' => r' = r ∧ i_Rel (k + 4) u' v') v v1) u v1 := by
  obtain ⟨c, f, s, w, g, m, la, fl, sa, se, wr, ov, bu, rfl, rfl, R⟩ := I
  obtain ⟨h1, h2, h3, h4, h5, hm, hu, hq, h6, h7⟩ := id R
  have J := bh_mk c f s w g m la fl sa se wr ov bu (bh_Rup R)
  have hgs : nI g - 0 = nI g := bh_sub (a := g) (b := 0) (Nat.zero_le g)
  by_cases hn : v1 < 0
  · refine br_t (Int32.le_of_lt hn) ?_
    exact br_f (Int32.not_le.mpr hn) (br_t (by decide) (nm_r hgs ⟨rfl, J⟩))
  · obtain ⟨n, hn31, rfl⟩ := nI_of hn
    have h0 : (0 : Int32) ≤ nI n := nI_pos' hn31
    by_cases hn0 : n = 0
    · subst hn0
      refine br_t (by decide) ?_
      exact br_t h0 (br_t (nI_le (Nat.zero_le g) (by omega)) (br_t (by decide) (nm_r hgs ⟨rfl, J⟩)))
    · have hnz : ¬ nI n ≤ 0 := nI_nle (by omega) hn31
      by_cases hg : g = 0
      · subst hg
        refine br_f hnz (br_t rfl ?_)
        exact br_t h0 (br_f (nI_ge (by omega) hn31) (br_t (by decide) (nm_r hgs ⟨rfl, J⟩)))
      · have hgz : ¬ nI g = 0 := nI_ne0 (by omega) (by omega)
        have hgl : ¬ nI g ≤ 0 := nI_nle (by omega) (by omega)
        by_cases hgn : g ≤ n
        · refine br_f hnz (br_f hgz (br_t (nI_le hgn hn31) (bh_XcB ?_)))
          have hz : nI g - nI g = nI 0 := by rw [bh_sub (Nat.le_refl g), Nat.sub_self]
          have hY : ∀ z : Int32, z = nI g → wY_flush_24 (fun r' v' => r' = nI g ∧ i_Rel (k + 4) (nI c, nI f, nI f, nI w, 0, nI m, la, fl, bh_cp fl 0 8 0 sa, se, wr, ov) v') z (nI s) (nI f) (nI c) (nI g) (nI w) sa fl la bu se wr ov := by
            intro z hz'
            subst hz'
            exact br_f hgl (br_t rfl ⟨9, bh_YflL 8 0 sa rfl (nm_r hz ⟨rfl, bh_mk c f f w 0 m _ _ _ _ _ _ _ (bh_Rf2 hg R)⟩)⟩)
          by_cases hng : n ≤ g
          · have e : n = g := by omega
            exact br_t h0 (br_t (nI_le hng (by omega)) (hY _ (by rw [e])))
          · exact br_t h0 (br_f (nI_ge (by omega) hn31) (hY _ rfl))
        · refine br_f hnz (br_f hgz (br_f (nI_ge (by omega) (by omega)) (nm_r (bh_sub (by omega)) ?_)))
          have hne : ¬ nI n = nI g := by
            rw [nI_eq hn31 (by omega)]
            omega
          exact br_t h0 (br_t (nI_le (by omega) (by omega)) (br_f hnz (br_f hne (nm_r (bh_sub (by omega)) ⟨rfl, bh_mk c f s w (g - n) m _ _ _ _ _ _ _ (bh_Rf1 (by omega) R)⟩))))
theorem i_vc_stepsLeft {k : Nat} {u : SX} {v : SY} (I : i_Rel k u v) (hk : k + 4 ≤ 2048) : wpX_stepsLeft (fun r => wpY_stepsLeft (fun r' => r' = r ∧ i_Rel (k + 4) u v) v) u := by
  have J := i_up I
  obtain ⟨c, f, s, w, g, m, la, fl, sa, se, wr, ov, bu, rfl, rfl, R⟩ := I
  exact ⟨rfl, J⟩
theorem i_vc_crash {k : Nat} {u : SX} {v : SY} (I : i_Rel k u v) (hk : k + 4 ≤ 2048) : wpX_crash (fun u' => wpY_crash (fun v' => i_Rel (k + 4) u' v') v) u := by
  obtain ⟨c, f, s, w, g, m, la, fl, sa, se, wr, ov, bu, rfl, rfl, R⟩ := I
  unfold wpX_crash
  dsimp only
  refine bh_XcC ?_
  refine bh_Ycr ?_
  exact bh_mk s f s 0 0 0 _ _ _ _ _ _ _ (bh_Rcr R)
theorem i_vc_commits {k : Nat} {u : SX} {v : SY} (I : i_Rel k u v) (hk : k + 4 ≤ 2048) : wpX_commits (fun r => wpY_commits (fun r' => r' = r ∧ i_Rel (k + 4) u v) v) u := by
  have J := i_up I
  obtain ⟨c, f, s, w, g, m, la, fl, sa, se, wr, ov, bu, rfl, rfl, R⟩ := I
  exact ⟨rfl, J⟩
theorem i_vc_durable {k : Nat} {u : SX} {v : SY} (I : i_Rel k u v) (hk : k + 4 ≤ 2048) : wpX_durable (fun r => wpY_durable (fun r' => r' = r ∧ i_Rel (k + 4) u v) v) u := by
  have J := i_up I
  obtain ⟨c, f, s, w, g, m, la, fl, sa, se, wr, ov, bu, rfl, rfl, R⟩ := I
  exact ⟨rfl, J⟩
theorem i_vc_value {k : Nat} {u : SX} {v : SY} (I : i_Rel k u v) (hk : k + 4 ≤ 2048) (v1 : Int32) : wpX_value (fun r => wpY_value (fun r' => r' = r ∧ i_Rel (k + 4) u v) v v1) u v1 := by
  have J := i_up I
  obtain ⟨c, f, s, w, g, m, la, fl, sa, se, wr, ov, bu, rfl, rfl, R⟩ := I
  unfold wpX_value wpY_value
  dsimp only
  rcases bh_ky v1 with ⟨i, hi, rfl⟩ | hn
  · refine bh_XkT hi (br_f (by decide) ⟨bh_in8 hi, ?_⟩)
    exact bh_YkT hi (br_f (by decide) ⟨bh_in8 hi, rfl, J⟩)
  · refine bh_XkF hn (br_t rfl ?_)
    exact bh_YkF hn (br_t rfl ⟨rfl, J⟩)
theorem i_vc_safeValue {k : Nat} {u : SX} {v : SY} (I : i_Rel k u v) (hk : k + 4 ≤ 2048) (v1 : Int32) : wpX_safeValue (fun r => wpY_safeValue (fun r' => r' = r ∧ i_Rel (k + 4) u v) v v1) u v1 := by
  have J := i_up I
  obtain ⟨c, f, s, w, g, m, la, fl, sa, se, wr, ov, bu, rfl, rfl, R⟩ := I
  unfold wpX_safeValue wpY_safeValue
  dsimp only
  rcases bh_ky v1 with ⟨i, hi, rfl⟩ | hn
  · refine bh_XkT hi (br_f (by decide) ⟨bh_in8 hi, ?_⟩)
    exact bh_YkT hi (br_f (by decide) ⟨bh_in8 hi, rfl, J⟩)
  · refine bh_XkF hn (br_t rfl ?_)
    exact bh_YkF hn (br_t rfl ⟨rfl, J⟩)
theorem i_vc_conflicts {k : Nat} {u : SX} {v : SY} (I : i_Rel k u v) (hk : k + 4 ≤ 2048) (v1 : Int32) : wpX_conflicts (fun r => wpY_conflicts (fun r' => r' = r ∧ i_Rel (k + 4) u v) v v1) u v1 := by
  have J := i_up I
  obtain ⟨c, f, s, w, g, m, la, fl, sa, se, wr, ov, bu, rfl, rfl, R⟩ := I
  have hm := bh_Rm R
  have hu := bh_Ru R
  unfold wpX_conflicts wpY_conflicts
  dsimp only
  rcases bh_op m v1 with ⟨j, hj, rfl, hb⟩ | hn
  · refine bh_XoT hm hj hb (br_f (by decide) ⟨bh_in4 hj, bh_in4 hj, ?_⟩)
    exact bh_YoT hu hj hb (br_f (by decide) ⟨bh_in4 hj, bh_in4 hj, rfl, J⟩)
  · refine bh_XoF hm hn (br_t rfl ?_)
    exact bh_YoF hu hn (br_t rfl ⟨rfl, J⟩)
theorem i_vc_open {k : Nat} {u : SX} {v : SY} (I : i_Rel k u v) (hk : k + 4 ≤ 2048) : wpX_open (fun r => wpY_open (fun r' => r' = r ∧ i_Rel (k + 4) u v) v) u := by
  have J := i_up I
  obtain ⟨c, f, s, w, g, m, la, fl, sa, se, wr, ov, bu, rfl, rfl, R⟩ := I
  exact bh_Yop (bh_Rm R) (bh_Ru R) ⟨rfl, J⟩
