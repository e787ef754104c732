/-! owed: the getters -/
theorem i_vc_itemCount {k : Nat} {u : SX} {v : SY} (I : i_Rel k u v) (hk : k + 4 ≤ 2050) : wpX_itemCount (fun r => wpY_itemCount (fun r' => r' = r ∧ i_Rel (k + 4) u v) v) u := by
  have I0 := I
  obtain ⟨fc, tc, F, T, RF, n, ev, st, sc, pc, dp, fl, mo, cl, rq, te, pa, oc, lg, att, al, so, yd, yr, c, tt, tp, us, od, it, ip, io, av, ap, nt, ke, rfl, rfl, R⟩ := I
  exact ⟨rfl, i_up I0⟩
theorem i_vc_eventCount {k : Nat} {u : SX} {v : SY} (I : i_Rel k u v) (hk : k + 4 ≤ 2050) : wpX_eventCount (fun r => wpY_eventCount (fun r' => r' = r ∧ i_Rel (k + 4) u v) v) u := by
  have I0 := I
  obtain ⟨fc, tc, F, T, RF, n, ev, st, sc, pc, dp, fl, mo, cl, rq, te, pa, oc, lg, att, al, so, yd, yr, c, tt, tp, us, od, it, ip, io, av, ap, nt, ke, rfl, rfl, R⟩ := I
  exact ⟨rfl, i_up I0⟩
theorem i_vc_itemTest {k : Nat} {u : SX} {v : SY} (I : i_Rel k u v) (hk : k + 4 ≤ 2050) (v1 : Int32) : wpX_itemTest (fun r => wpY_itemTest (fun r' => r' = r ∧ i_Rel (k + 4) u v) v v1) u v1 := by
  have I0 := I
  obtain ⟨fc, tc, F, T, RF, n, ev, st, sc, pc, dp, fl, mo, cl, rq, te, pa, oc, lg, att, al, so, yd, yr, c, tt, tp, us, od, it, ip, io, av, ap, nt, ke, rfl, rfl, R⟩ := I
  obtain ⟨⟨hfc, htc, hF, hT, hRF, hn, hev⟩, ⟨hsc, hpc, hmo, hcl⟩, hyd, hdp, hyr, hrq, hit⟩ := R
  have I1 := i_up I0
  unfold wpX_itemTest wpY_itemTest
  dsimp only
  refine fx_isI (by omega) (fun z => br_t rfl ?_) (fun j hj e => br_f (by decide) ?_)
  · by_cases z0 : v1 < 0
    · exact br_t z0 ⟨rfl, I1⟩
    · rcases z with z | z
      · exact absurd z z0
      · exact br_f z0 (br_f (Int32.not_lt.mpr z) ⟨rfl, I1⟩)
  · subst e
    have vj : vp_in (nI j) 64 := vp_in_nI (by omega) (by decide)
    refine ⟨vj, br_f (nI_pos (by omega)) (br_t (nI_lt hj (by omega)) ⟨vj, ?_, I1⟩)⟩
    rw [nI_clamp (by omega)]
    exact (hit j hj).1
theorem i_vc_itemOutcome {k : Nat} {u : SX} {v : SY} (I : i_Rel k u v) (hk : k + 4 ≤ 2050) (v1 : Int32) : wpX_itemOutcome (fun r => wpY_itemOutcome (fun r' => r' = r ∧ i_Rel (k + 4) u v) v v1) u v1 := by
  have I0 := I
  obtain ⟨fc, tc, F, T, RF, n, ev, st, sc, pc, dp, fl, mo, cl, rq, te, pa, oc, lg, att, al, so, yd, yr, c, tt, tp, us, od, it, ip, io, av, ap, nt, ke, rfl, rfl, R⟩ := I
  obtain ⟨⟨hfc, htc, hF, hT, hRF, hn, hev⟩, ⟨hsc, hpc, hmo, hcl⟩, hyd, hdp, hyr, hrq, hit⟩ := R
  have I1 := i_up I0
  unfold wpX_itemOutcome wpY_itemOutcome
  dsimp only
  refine fx_isI (by omega) (fun z => br_t rfl ?_) (fun j hj e => br_f (by decide) ?_)
  · by_cases z0 : v1 < 0
    · exact br_t z0 ⟨rfl, I1⟩
    · rcases z with z | z
      · exact absurd z z0
      · exact br_f z0 (br_f (Int32.not_lt.mpr z) ⟨rfl, I1⟩)
  · subst e
    have vj : vp_in (nI j) 64 := vp_in_nI (by omega) (by decide)
    refine ⟨vj, br_f (nI_pos (by omega)) (br_t (nI_lt hj (by omega)) ⟨vj, ?_, I1⟩)⟩
    rw [nI_clamp (by omega)]
    exact (hit j hj).2.1
theorem i_vc_itemParam {k : Nat} {u : SX} {v : SY} (I : i_Rel k u v) (hk : k + 4 ≤ 2050) (v1 : Int32) (v2 : Int32) : wpX_itemParam (fun r => wpY_itemParam (fun r' => r' = r ∧ i_Rel (k + 4) u v) v v1 v2) u v1 v2 := by
  have I0 := I
  obtain ⟨fc, tc, F, T, RF, n, ev, st, sc, pc, dp, fl, mo, cl, rq, te, pa, oc, lg, att, al, so, yd, yr, c, tt, tp, us, od, it, ip, io, av, ap, nt, ke, rfl, rfl, R⟩ := I
  obtain ⟨⟨hfc, htc, hF, hT, hRF, hn, hev⟩, ⟨hsc, hpc, hmo, hcl⟩, hyd, hdp, hyr, hrq, hit⟩ := R
  have I1 := i_up I0
  unfold wpX_itemParam wpY_itemParam
  dsimp only
  refine fx_isI (by omega) (fun z => br_t rfl ?_) (fun j hj e => br_f (by decide) ?_)
  · by_cases z0 : v1 < 0
    · exact br_t z0 ⟨rfl, I1⟩
    · rcases z with z | z
      · exact absurd z z0
      · exact br_f z0 (br_f (Int32.not_lt.mpr z) ⟨rfl, I1⟩)
  · subst e
    have vj : vp_in (nI j) 64 := vp_in_nI (by omega) (by decide)
    have cj : (nI j).toNatClampNeg = j := nI_clamp (by omega)
    have j0 : ¬ nI j < 0 := nI_pos (by omega)
    have j1 : nI j < nI n := nI_lt hj (by omega)
    obtain ⟨-, -, D, d1, d2, d3, d4⟩ := hit j hj
    refine fx_isF (by omega) (fun z => br_t rfl ?_) (fun f hf e => br_f (by decide) ⟨vj, ?_⟩)
    · by_cases z0 : v2 < 0
      · exact br_f j0 (br_t j1 (br_t z0 ⟨rfl, I1⟩))
      · rcases z with z | z
        · exact absurd z z0
        · have z2 : ¬ v2 < nI RF := Int32.not_lt.mpr (Int32.le_trans (nI_le hRF (by omega)) z)
          exact br_f j0 (br_t j1 (br_f z0 (br_f z2 ⟨rfl, I1⟩)))
    · subst e
      have xa : nI j * 12 + nI f = nI (j * 12 + f) := by rw [← nI_add, ← pk_mul]; rfl
      rw [cj, d3, xa, nI_clamp (show j * 12 + f < 2 ^ 31 by omega), d4 f (by omega)]
      refine fx_pin d1 (by omega) (br_f j0 (br_t j1 (br_f (nI_pos (by omega)) (pk_lt f RF (fun z => ⟨vp_in_nI (by omega) (by decide), rfl, I1⟩) (fun z => ⟨?_, I1⟩)))))
      rw [d2 f z, fy_m0]
theorem i_vc_event {k : Nat} {u : SX} {v : SY} (I : i_Rel k u v) (hk : k + 4 ≤ 2050) (v1 : Int32) : wpX_event (fun r => wpY_event (fun r' => r' = r ∧ i_Rel (k + 4) u v) v v1) u v1 := by
  have I0 := I
  obtain ⟨fc, tc, F, T, RF, n, ev, st, sc, pc, dp, fl, mo, cl, rq, te, pa, oc, lg, att, al, so, yd, yr, c, tt, tp, us, od, it, ip, io, av, ap, nt, ke, rfl, rfl, R⟩ := I
  obtain ⟨⟨hfc, htc, hF, hT, hRF, hn, hev⟩, ⟨hsc, hpc, hmo, hcl⟩, hyd, hdp, hyr, hrq, hit⟩ := R
  have I1 := i_up I0
  unfold wpX_event wpY_event wY_event_20
  dsimp only
  by_cases z0 : v1 < 0
  · exact br_t z0 (br_c (fun _ => br_t z0 ⟨rfl, I1⟩) (fun _ => br_t z0 ⟨rfl, I1⟩))
  · obtain ⟨j, hj, rfl⟩ := nI_of z0
    refine br_f z0 (pk_le ev j (fun a1 => ?_) (fun a1 => pk_le 256 j (fun a2 => ?_) (fun a2 => ?_)))
    · exact pk_le 256 ev (fun b1 => br_f z0 (br_f (nI_nlt (b := 256) (by omega) (by omega)) ⟨rfl, I1⟩)) (fun b1 => br_f z0 (br_f (nI_nlt a1 (by omega)) ⟨rfl, I1⟩))
    · exact pk_le 256 ev (fun b1 => br_f z0 (br_f (nI_nlt (b := 256) (by omega) (by omega)) ⟨rfl, I1⟩)) (fun b1 => by omega)
    · have vj : vp_in (nI j) 256 := vp_in_nI (by omega) (by decide)
      exact ⟨vj, pk_le 256 ev (fun b1 => br_f z0 (br_t (nI_lt (b := 256) (by omega) (by decide)) ⟨vj, rfl, I1⟩)) (fun b1 => br_f z0 (br_t (nI_lt a1 (by omega)) ⟨vj, rfl, I1⟩))⟩
theorem i_vc_run {k : Nat} {u : SX} {v : SY} (I : i_Rel k u v) (hk : k + 4 ≤ 2050) : wpX_run (fun r u' => wpY_run (fun r' v' => r' = r ∧ i_Rel (k + 4) u' v') v) u := by
  obtain ⟨fc, tc, F, T, RF, n, ev, st, sc, pc, dp, fl, mo, cl, rq, te, pa, oc, lg, att, al, so, yd, yr, c, tt, tp, us, od, it, ip, io, av, ap, nt, ke, rfl, rfl, R⟩ := I
  have R0 := R
  obtain ⟨⟨hfc, htc, hF, hT, hRF, hn, hev⟩, ⟨hsc, hpc, hmo, hcl⟩, hyd, hdp, hyr, hrq, hit⟩ := R
  have hd : ∀ f, f < F → ∀ g, bt (dp f) g = true → g < f := fun f hf g h => hdp f g (by omega) h
  refine fx_run (by omega) (by omega) hpc hmo hcl (fun z => ?_) (fun z s te1 pa1 ke1 oc1 hs h1 h2 => ?_)
  · exact fz_run (al := al) (by omega) (by omega) hpc hmo hcl hyd hd hyr hrq (fun _ c1 => ⟨rfl, fy_mk R0⟩) (fun y => by omega)
  · refine fz_run (al := al) (by omega) (by omega) hpc hmo hcl hyd hd hyr hrq (fun y => by omega) (fun _ => ⟨s, hs, fun c1 tt1 tp1 us1 od1 it1 ip1 io1 av1 ap1 nt1 g1 g2 => ⟨rfl, fy_mk ⟨⟨hfc, htc, hF, hT, Nat.le_refl F, z, ?_⟩, ⟨hsc, hpc, hmo, hcl⟩, hyd, hdp, hyr, hrq, fun j hj => ?_⟩⟩⟩)
    · have := (fy_ok_ex (fl := fl) (sc := sc) (mo := mo) (cl := cl) (dp := dp) (T := fun q => fx_tj dp rq pc F T (s q)) (D := fun q => fx_dj dp rq pc F T (s q)) (n := fy_tt (fx_g dp rq pc F) T) (e := fy_e0 lg att al so) (show F ≤ 12 by omega) (fun i f => fx_dj_4 hpc _ f) (fy_e0_ok (by omega)) (fy_tt (fx_g dp rq pc F) T)).1
      omega
    · obtain ⟨q1, q2, q3, q4⟩ := g1 j hj
      refine ⟨by rw [(h1 j hj).1]; exact q2, by rw [h2 j hj, g2 j hj], fx_dj dp rq pc F T (s j), q3, fun f hf => fx_dj_0 hf, (h1 j hj).2, q4⟩
