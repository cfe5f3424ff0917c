theorem i_vc_inject {k : Nat} {u : SX} {v : SY} (I : i_Rel k u v) (hk : k + 5 ≤ 2560) (v1 : Int32) (v2 : Int32) (v3 : Int32) : wpX_inject (fun r u' => wpY_inject (fun r' v' => r' = r ∧ i_Rel (k + 5) u' v') v v1 v2 v3) u v1 v2 v3 := by
  have J : i_Rel (k + 5) u v := I
  obtain ⟨tg, dl, n, m, iv, ev, st, hz, cnt, la, rt, rd, rm, ip, ir, ep, er, sa, cs, ti, pr, va, li, dn, sts, hbs, rfl, rfl, R, hh, hn, hm, h0, hi, hy, hx, P⟩ := I
  unfold wpX_inject wpY_inject
  dsimp only
  by_cases p1 : os_Pr v1
  · obtain ⟨a, ha, rfl⟩ := p1
    refine os_isP_t ha (br_f (by decide) ?_)
    by_cases c1 : v2 < 0
    · exact br_t c1 (os_bad_t ha (br_t rfl (br_t c1 ⟨rfl, J⟩)))
    by_cases c2 : v2 ≤ 99
    · by_cases c3 : hz < v2
      · by_cases c4 : n < 24
        · have d1 : nI n < 24 := nI_lt (b := 24) c4 (by decide)
          have d2 : ¬ nI n = 24 := fun q => by
            have := (nI_eq (a := n) (b := 24) (by omega) (by decide)).mp q
            omega
          obtain ⟨t, ht, rfl⟩ := nI_of c1
          have t99 := (nI_leI (a := t) (b := 99) ht (by decide)).mp c2
          obtain ⟨w, hw, ew⟩ := pk_andE v3 (m := 15) 4 (by decide)
          obtain ⟨l, hl, el⟩ := pk_andE (v3 >>> ((4 : Int32) &&& 31)) (m := 3) 2 (by decide)
          have cn : (nI n).toNatClampNeg = n := nI_clamp (by omega)
          have vn : vp_in (nI n) 24 := vp_in_nI c4 (by decide)
          have wx : os_wf (a, t * 64 + w * 4 + l) := by
            refine ⟨ha, ?_⟩
            dsimp only
            omega
          have k1 : (t * 64 + w * 4 + l) / 64 = t := by omega
          have k2 : (t * 64 + w * 4 + l) / 4 % 16 = w := by omega
          have k3 : (t * 64 + w * 4 + l) % 4 = l := by omega
          have X := os_Xok_ad wx hi
          have Y := os_Yok_ad wx hy
          dsimp only at X Y
          rw [k1, k2, k3] at Y
          rw [cn, ew, el]
          refine br_f c1 (br_t c2 (br_t c3 (br_t d1 ⟨vn, nm_e ?_⟩)))
          unfold wpX_rankOf
          refine ⟨vn, nm_r (congrArg (upd ir n) (os_rank (by omega) (by omega) (by omega))) (nm_r (nI_1 n) ?_)⟩
          refine os_xsim (n := n + 1) (by omega) X R (fun m ep er sa cs ev st h1 h2 h3 => ?_)
          dsimp only
          refine os_bad_t ha (br_t rfl (br_f c1 (br_t c2 (br_t c3 (br_f d2 (os_yput (m := n) (by omega) ?_))))))
          dsimp only
          exact nm_r (nI_1 n) ⟨rfl, tg, dl, n + 1, m, os_ad iv n (a, t * 64 + w * 4 + l), ev, st, hz, _, _, _, _, _, _, _, _, _, _, _, _, _, _, _, _, _, _, rfl, rfl, R, hh, by omega, h1, fun q => absurd q (by omega), X, Y, h2, h3⟩
        · have d1 : ¬ nI n < 24 := nI_nlt (b := 24) (by omega) (by omega)
          have e : n = 24 := by omega
          subst e
          exact br_f c1 (br_t c2 (br_t c3 (br_f d1 (os_bad_t ha (br_t rfl (br_f c1 (br_t c2 (br_t c3 (br_t rfl ⟨rfl, J⟩)))))))))
      · exact br_f c1 (br_t c2 (br_f c3 (os_bad_t ha (br_t rfl (br_f c1 (br_t c2 (br_f c3 ⟨rfl, J⟩)))))))
    · exact br_f c1 (br_f c2 (os_bad_t ha (br_t rfl (br_f c1 (br_f c2 ⟨rfl, J⟩)))))
  · exact os_isP_f p1 (br_t rfl (os_bad_f p1 (br_f (by decide) ⟨rfl, J⟩)))
theorem i_vc_work {k : Nat} {u : SX} {v : SY} (I : i_Rel k u v) (hk : k + 5 ≤ 2560) (v1 : Int32) (v2 : Int32) : wpX_work (fun r => wpY_work (fun r' => r' = r ∧ i_Rel (k + 5) u v) v v1 v2) u v1 v2 := by
  have J : i_Rel (k + 5) u v := I
  obtain ⟨tg, dl, n, m, iv, ev, st, hz, cnt, la, rt, rd, rm, ip, ir, ep, er, sa, cs, ti, pr, va, li, dn, sts, hbs, rfl, rfl, R, hh, hn, hm, h0, hi, hy, hx, P⟩ := I
  unfold wpX_work wpY_work
  dsimp only
  by_cases p1 : os_Pr v1
  · obtain ⟨a, ha, rfl⟩ := p1
    exact os_isP_t ha (br_f (by decide) (os_bad_t ha (br_t rfl ⟨rfl, J⟩)))
  · exact os_isP_f p1 (br_t rfl (os_bad_f p1 (br_f (by decide) ⟨rfl, J⟩)))
theorem i_vc_commit {k : Nat} {u : SX} {v : SY} (I : i_Rel k u v) (hk : k + 5 ≤ 2560) (v1 : Int32) : wpX_commit (fun r u' => wpY_commit (fun r' v' => r' = r ∧ i_Rel (k + 5) u' v') v v1) u v1 := by
  have J : i_Rel (k + 5) u v := I
  obtain ⟨tg, dl, n, m, iv, ev, st, hz, cnt, la, rt, rd, rm, ip, ir, ep, er, sa, cs, ti, pr, va, li, dn, sts, hbs, rfl, rfl, R, hh, hn, hm, h0, hi, hy, hx, P⟩ := I
  unfold wpX_commit wpY_commit
  dsimp only
  by_cases c1 : v1 < 0
  · exact br_t c1 (br_t c1 ⟨rfl, J⟩)
  by_cases c2 : v1 ≤ 200
  · by_cases c3 : hz ≤ v1
    · have hv : -1 ≤ v1.toInt := by
        obtain ⟨j, hj, rfl⟩ := nI_of c1
        rw [nI_toInt hj]
        omega
      obtain ⟨T, hT⟩ := os_T hv
      refine br_f c1 (br_t c2 (br_t c3 ?_))
      unfold wpX_countEventsUpTo
      refine ⟨m + 1, os_xco hm hx hT ?_ m 0 (by omega)⟩
      refine br_f c1 (br_t c2 (br_t c3 (os_ysim hn hy R hT (fun cnt' la' ti' pr' va' li' dn' sts' hbs' st' hb' q h1 h2 h3 => ?_))))
      dsimp only
      have e := os_agree (fun p => (R.1 p).2.1) P h3
      unfold wpY_all
      refine ⟨?_, tg, dl, n, m, iv, ev, st, v1, _, _, _, _, _, _, _, _, _, _, _, _, _, _, _, _, _, _, rfl, rfl, R, hv, hn, hm, h0, hi, h1, hx, P⟩
      rw [← e, (h2 0 (by decide)).2, (h2 1 (by decide)).2, (h2 2 (by decide)).2, (h2 3 (by decide)).2]
      rfl
    · exact br_f c1 (br_t c2 (br_f c3 (br_f c1 (br_t c2 (br_f c3 ⟨rfl, J⟩)))))
  · exact br_f c1 (br_f c2 (br_f c1 (br_f c2 ⟨rfl, J⟩)))
theorem i_vc_clear {k : Nat} {u : SX} {v : SY} (I : i_Rel k u v) (hk : k + 5 ≤ 2560) : wpX_clear (fun u' => wpY_clear (fun v' => i_Rel (k + 5) u' v') v) u := by
  obtain ⟨tg, dl, n, m, iv, ev, st, hz, cnt, la, rt, rd, rm, ip, ir, ep, er, sa, cs, ti, pr, va, li, dn, sts, hbs, rfl, rfl, R, hh, hn, hm, h0, hi, hy, hx, P⟩ := I
  unfold wpX_clear wpX_forgetEvents wpY_clear
  dsimp only
  exact ⟨tg, dl, 0, 0, iv, ev, fun _ => 0, -1, 0, _, _, _, _, _, _, _, _, _, _, _, _, _, _, _, _, _, rfl, rfl, R, by decide, by omega, by omega, fun _ => rfl, fun j hj => absurd hj (by omega), fun j hj => absurd hj (by omega), fun j hj => absurd hj (by omega), ⟨List.Perm.refl _, rfl⟩⟩
theorem i_vc_state {k : Nat} {u : SX} {v : SY} (I : i_Rel k u v) (hk : k + 5 ≤ 2560) (v1 : Int32) (v2 : Int32) : wpX_state (fun r => wpY_state (fun r' v' => r' = r ∧ i_Rel (k + 5) u v') v v1 v2) u v1 v2 := by
  have J : i_Rel (k + 5) u v := I
  obtain ⟨tg, dl, n, m, iv, ev, st, hz, cnt, la, rt, rd, rm, ip, ir, ep, er, sa, cs, ti, pr, va, li, dn, sts, hbs, rfl, rfl, R, hh, hn, hm, h0, hi, hy, hx, P⟩ := I
  unfold wpX_state wpY_state wpX_canBeAskedFor wpY_askable
  dsimp only
  by_cases p1 : os_Pr v1
  · obtain ⟨a, ha, rfl⟩ := p1
    refine os_isP_t ha (br_f (by decide) ?_)
    by_cases c1 : v2 < hz
    · exact br_t c1 (br_t rfl (os_bad_t ha (br_t rfl (br_t c1 (br_t rfl ⟨rfl, J⟩)))))
    by_cases c2 : 200 < v2
    · exact br_f c1 (br_t c2 (br_t rfl (os_bad_t ha (br_t rfl (br_f c1 (br_t c2 (br_t rfl ⟨rfl, J⟩)))))))
    have hv : -1 ≤ v2.toInt := by
      rw [Int32.lt_iff_toInt_lt] at c1
      omega
    obtain ⟨T, hT⟩ := os_T hv
    have ca : (nI a).toNatClampNeg = a := nI_clamp (by omega)
    refine br_f c1 (br_f c2 (br_f (by decide) ⟨m + 1, os_xst hm ha hx hT ?_ m 0 (by omega)⟩))
    refine os_bad_t ha (br_t rfl (br_f c1 (br_f c2 (br_f (by decide) (os_ysim hn hy R hT (fun cnt' la' ti' pr' va' li' dn' sts' hbs' st' hb' q h1 h2 h3 => ?_))))))
    dsimp only
    have e := os_agree (fun p => (R.1 p).2.1) P h3
    refine ⟨vp_in_nI ha (by decide), ?_, tg, dl, n, m, iv, ev, st, hz, _, _, _, _, _, _, _, _, _, _, _, _, _, _, _, _, _, _, rfl, rfl, R, hh, hn, hm, h0, hi, h1, hx, P⟩
    rw [← e, ca, (h2 a ha).1]
  · exact os_isP_f p1 (br_t rfl (os_bad_f p1 (br_f (by decide) ⟨rfl, J⟩)))
theorem i_vc_handled {k : Nat} {u : SX} {v : SY} (I : i_Rel k u v) (hk : k + 5 ≤ 2560) (v1 : Int32) (v2 : Int32) : wpX_handled (fun r => wpY_handled (fun r' v' => r' = r ∧ i_Rel (k + 5) u v') v v1 v2) u v1 v2 := by
  have J : i_Rel (k + 5) u v := I
  obtain ⟨tg, dl, n, m, iv, ev, st, hz, cnt, la, rt, rd, rm, ip, ir, ep, er, sa, cs, ti, pr, va, li, dn, sts, hbs, rfl, rfl, R, hh, hn, hm, h0, hi, hy, hx, P⟩ := I
  unfold wpX_handled wpY_handled wpX_canBeAskedFor wpY_askable
  dsimp only
  by_cases p1 : os_Pr v1
  · obtain ⟨a, ha, rfl⟩ := p1
    refine os_isP_t ha (br_f (by decide) ?_)
    by_cases c1 : v2 < hz
    · exact br_t c1 (br_t rfl (os_bad_t ha (br_t rfl (br_t c1 (br_t rfl ⟨rfl, J⟩)))))
    by_cases c2 : 200 < v2
    · exact br_f c1 (br_t c2 (br_t rfl (os_bad_t ha (br_t rfl (br_f c1 (br_t c2 (br_t rfl ⟨rfl, J⟩)))))))
    have hv : -1 ≤ v2.toInt := by
      rw [Int32.lt_iff_toInt_lt] at c1
      omega
    obtain ⟨T, hT⟩ := os_T hv
    have ca : (nI a).toNatClampNeg = a := nI_clamp (by omega)
    refine br_f c1 (br_f c2 (br_f (by decide) ⟨m + 1, os_xha (sa := sa) hm ha hx hT ?_ m 0 (by omega)⟩))
    refine os_bad_t ha (br_t rfl (br_f c1 (br_f c2 (br_f (by decide) (os_ysim hn hy R hT (fun cnt' la' ti' pr' va' li' dn' sts' hbs' st' hb' q h1 h2 h3 => ?_))))))
    dsimp only
    have e := os_agree (fun p => (R.1 p).2.1) P h3
    refine ⟨vp_in_nI ha (by decide), ?_, tg, dl, n, m, iv, ev, st, hz, _, _, _, _, _, _, _, _, _, _, _, _, _, _, _, _, _, _, rfl, rfl, R, hh, hn, hm, h0, hi, h1, hx, P⟩
    rw [← e, ca, (h2 a ha).2]
  · exact os_isP_f p1 (br_t rfl (os_bad_f p1 (br_f (by decide) ⟨rfl, J⟩)))
theorem i_vc_lastTime {k : Nat} {u : SX} {v : SY} (I : i_Rel k u v) (hk : k + 5 ≤ 2560) : wpX_lastTime (fun r => wpY_lastTime (fun r' v' => r' = r ∧ i_Rel (k + 5) u v') v) u := by
  obtain ⟨tg, dl, n, m, iv, ev, st, hz, cnt, la, rt, rd, rm, ip, ir, ep, er, sa, cs, ti, pr, va, li, dn, sts, hbs, rfl, rfl, R, hh, hn, hm, h0, hi, hy, hx, P⟩ := I
  have Y : ∀ r : Int32, (os_Fi 201 ev sa m).2.2 = r → wpY_lastTime (fun r' v' => r' = r ∧ i_Rel (k + 5) (nI n, nI m, hz, rt, rd, rm, ip, ir, ep, er, sa, cs) v') (nI n, hz, cnt, la, rt, rd, rm, ti, pr, va, li, dn, sts, hbs) := by
    intro r hr
    unfold wpY_lastTime
    dsimp only
    refine os_ysim hn hy R os_T200 (fun cnt' la' ti' pr' va' li' dn' sts' hbs' st' hb' q h1 h2 h3 => ?_)
    dsimp only
    have e := os_agree (fun p => (R.1 p).2.1) P h3
    refine ⟨?_, tg, dl, n, m, iv, ev, st, hz, _, _, _, _, _, _, _, _, _, _, _, _, _, _, _, _, _, _, rfl, rfl, R, hh, hn, hm, h0, hi, h1, hx, P⟩
    rw [← hr, ← e]
  unfold wpX_lastTime
  dsimp only
  cases m with
  | zero => exact br_t (by decide) (Y _ rfl)
  | succ m =>
    obtain ⟨h1, h2, h3⟩ := hx m (by omega)
    have b := os_x_r h3
    have b2 := h3.2
    have cm : (nI m).toNatClampNeg = m := nI_clamp (by omega)
    refine br_f (nI_nle (by omega) (by omega)) ?_
    rw [nI_pred, cm, h2]
    refine ⟨vp_in_nI (by omega) (by decide), ?_⟩
    unfold wpX_timeOf
    rw [os_tmu (by omega)]
    exact Y _ (by rw [os_Fi_t (by omega)])
theorem i_vc_events {k : Nat} {u : SX} {v : SY} (I : i_Rel k u v) (hk : k + 5 ≤ 2560) : wpX_events (fun r => wpY_events (fun r' v' => r' = r ∧ i_Rel (k + 5) u v') v) u := by
  obtain ⟨tg, dl, n, m, iv, ev, st, hz, cnt, la, rt, rd, rm, ip, ir, ep, er, sa, cs, ti, pr, va, li, dn, sts, hbs, rfl, rfl, R, hh, hn, hm, h0, hi, hy, hx, P⟩ := I
  unfold wpX_events wpY_events
  dsimp only
  refine os_ysim hn hy R os_T200 (fun cnt' la' ti' pr' va' li' dn' sts' hbs' st' hb' q h1 h2 h3 => ?_)
  dsimp only
  have e := os_agree (fun p => (R.1 p).2.1) P h3
  have s := os_sum_all (T := 201) (ev := ev) (sa := sa) (m := m) (fun j hj => ⟨by have := (hx j hj).2.2.2; omega, (hx j hj).2.2.1⟩)
  unfold wpY_all
  refine ⟨?_, tg, dl, n, m, iv, ev, st, hz, _, _, _, _, _, _, _, _, _, _, _, _, _, _, _, _, _, _, rfl, rfl, R, hh, hn, hm, h0, hi, h1, hx, P⟩
  rw [← s, ← e, (h2 0 (by decide)).2, (h2 1 (by decide)).2, (h2 2 (by decide)).2, (h2 3 (by decide)).2]
  rfl
theorem i_vc_horizon {k : Nat} {u : SX} {v : SY} (I : i_Rel k u v) (hk : k + 5 ≤ 2560) : wpX_horizon (fun r => wpY_horizon (fun r' => r' = r ∧ i_Rel (k + 5) u v) v) u := by
  have J : i_Rel (k + 5) u v := I
  obtain ⟨tg, dl, n, m, iv, ev, st, hz, cnt, la, rt, rd, rm, ip, ir, ep, er, sa, cs, ti, pr, va, li, dn, sts, hbs, rfl, rfl, R, hh, hn, hm, h0, hi, hy, hx, P⟩ := I
  exact ⟨rfl, J⟩
