/-! owed: the definitions -/
theorem fy_lt4 {x : Int32} (h0 : ¬ x < 0) (h3 : x ≤ 3) : ∃ j, j ≤ 3 ∧ x = nI j := nI_of2 (M := 3) (by decide) h0 h3
theorem i_vc_defineFixture {k : Nat} {u : SX} {v : SY} (I : i_Rel k u v) (hk : k + 4 ≤ 2050) (v1 : Int32) (v2 : Int32) : wpX_defineFixture (fun r u' => wpY_defineFixture (fun r' v' => r' = r ∧ i_Rel (k + 4) u' v') v v1 v2) u v1 v2 := by
  have I0 := I
  obtain ⟨fc, tc, F, T, RF, n, ev, st, sc, pc, dp, fl, mo, cl, rq, te, pa, oc, lg, att, al, so, yd, yr, c, tt, tp, us, od, it, ip, io, av, ap, nt, ke, rfl, rfl, R⟩ := I
  obtain ⟨⟨hfc, htc, hF, hT, hRF, hn, hev⟩, ⟨hsc, hpc, hmo, hcl⟩, hyd, hdp, hyr, hrq, hit⟩ := R
  have I1 := i_up I0
  unfold wpX_defineFixture wpY_defineFixture
  dsimp only
  by_cases a1 : v1 < 0
  · exact br_t a1 (br_t a1 ⟨rfl, I1⟩)
  by_cases a2 : v1 ≤ 3
  · by_cases a3 : v2 < 0
    · exact br_f a1 (br_t a2 (br_t a3 (br_f a1 (br_t a2 (br_t a3 ⟨rfl, I1⟩)))))
    by_cases a4 : v2 ≤ 3
    · by_cases a5 : F < fc
      · have b5 : nI F < nI fc := nI_lt a5 (by omega)
        have vF : vp_in (nI F) 12 := vp_in_nI (by omega) (by decide)
        obtain ⟨s, hs, rfl⟩ := fy_lt4 a1 a2
        obtain ⟨p, hp, rfl⟩ := fy_lt4 a3 a4
        refine br_f a1 (br_t a2 (br_f a3 (br_t a4 (br_t b5 ⟨vF, nm_e ⟨vF, nm_e (nm_e ?_)⟩⟩))))
        refine br_f a1 (br_t a2 (br_f a3 (br_t a4 (br_t b5 ⟨vF, nm_e ⟨vF, nm_e (nm_e ?_)⟩⟩))))
        rw [nI_clamp (show F < 2 ^ 31 by omega), nI_1]
        refine ⟨nI_pred F, fy_mk ⟨⟨hfc, htc, by omega, hT, by omega, hn, hev⟩, ⟨fy_nb_upd hsc (by decide) hs, fy_nb_upd hpc (by decide) hp, hmo, hcl⟩, hyd, hdp, hyr, fun t g ht h => ?_, hit⟩⟩
        have := hrq t g ht h
        omega
      · have b5 : ¬ nI F < nI fc := nI_nlt (by omega) (by omega)
        exact br_f a1 (br_t a2 (br_f a3 (br_t a4 (br_f b5 (br_f a1 (br_t a2 (br_f a3 (br_t a4 (br_f b5 ⟨rfl, I1⟩)))))))))
    · exact br_f a1 (br_t a2 (br_f a3 (br_f a4 (br_f a1 (br_t a2 (br_f a3 (br_f a4 ⟨rfl, I1⟩)))))))
  · exact br_f a1 (br_f a2 (br_f a1 (br_f a2 ⟨rfl, I1⟩)))
theorem i_vc_addTest {k : Nat} {u : SX} {v : SY} (I : i_Rel k u v) (hk : k + 4 ≤ 2050) (v1 : Int32) (v2 : Int32) : wpX_addTest (fun r u' => wpY_addTest (fun r' v' => r' = r ∧ i_Rel (k + 4) u' v') v v1 v2) u v1 v2 := by
  have I0 := I
  obtain ⟨fc, tc, F, T, RF, n, ev, st, sc, pc, dp, fl, mo, cl, rq, te, pa, oc, lg, att, al, so, yd, yr, c, tt, tp, us, od, it, ip, io, av, ap, nt, ke, rfl, rfl, R⟩ := I
  obtain ⟨⟨hfc, htc, hF, hT, hRF, hn, hev⟩, ⟨hsc, hpc, hmo, hcl⟩, hyd, hdp, hyr, hrq, hit⟩ := R
  have I1 := i_up I0
  unfold wpX_addTest wpY_addTest
  dsimp only
  by_cases a1 : v1 < 0
  · exact br_t a1 (br_t a1 ⟨rfl, I1⟩)
  by_cases a2 : v1 ≤ 3
  · by_cases a3 : v2 < 0
    · exact br_f a1 (br_t a2 (br_t a3 (br_f a1 (br_t a2 (br_t a3 ⟨rfl, I1⟩)))))
    by_cases a4 : v2 ≤ 3
    · by_cases a5 : T < tc
      · have b5 : nI T < nI tc := nI_lt a5 (by omega)
        have vF : vp_in (nI T) 16 := vp_in_nI (by omega) (by decide)
        obtain ⟨s, hs, rfl⟩ := fy_lt4 a1 a2
        obtain ⟨p, hp, rfl⟩ := fy_lt4 a3 a4
        refine br_f a1 (br_t a2 (br_f a3 (br_t a4 (br_t b5 ⟨vF, nm_e ⟨vF, nm_e (nm_e ?_)⟩⟩))))
        refine br_f a1 (br_t a2 (br_f a3 (br_t a4 (br_t b5 ⟨vF, nm_e ⟨vF, nm_e (nm_e ?_)⟩⟩))))
        rw [nI_clamp (show T < 2 ^ 31 by omega), nI_1]
        exact ⟨nI_pred T, fy_mk ⟨⟨hfc, htc, hF, by omega, hRF, hn, hev⟩, ⟨hsc, hpc, fy_nb_upd hmo (by decide) hs, fy_nb_upd hcl (by decide) hp⟩, hyd, hdp, hyr, hrq, hit⟩⟩
      · have b5 : ¬ nI T < nI tc := nI_nlt (by omega) (by omega)
        exact br_f a1 (br_t a2 (br_f a3 (br_t a4 (br_f b5 (br_f a1 (br_t a2 (br_f a3 (br_t a4 (br_f b5 ⟨rfl, I1⟩)))))))))
    · exact br_f a1 (br_t a2 (br_f a3 (br_f a4 (br_f a1 (br_t a2 (br_f a3 (br_f a4 ⟨rfl, I1⟩)))))))
  · exact br_f a1 (br_f a2 (br_f a1 (br_f a2 ⟨rfl, I1⟩)))
/-- one bit more, here and there -/
theorem fy_put1 {w : Nat} {yd dp : Nat → Int32} {f g : Nat} (h : ∀ f g, f < w → g < 12 → yd (f * 12 + g) = fy_bi (bt (dp f) g)) (hg : g < 12) : ∀ a b, a < w → b < 12 → upd yd (f * 12 + g) 1 (a * 12 + b) = fy_bi (bt (upd dp f (dp f ||| ((1 : Int32) <<< (nI g &&& 31))) a) b) := by
  intro a b ha hb
  by_cases e : a = f
  · subst e
    rw [pk_us, fy_set _ (by omega) (by omega)]
    by_cases e2 : b = g
    · subst e2
      rw [pk_us, decide_eq_true rfl, Bool.or_true]
      rfl
    · rw [pk_un (by omega), decide_eq_false e2, Bool.or_false]
      exact h a b ha hb
  · rw [pk_un (by omega), pk_un e]
    exact h a b ha hb
theorem fy_put2 {dp : Nat → Int32} {f g a b : Nat} (hg : g < 12) (h : bt (upd dp f (dp f ||| ((1 : Int32) <<< (nI g &&& 31))) a) b = true) : bt (dp a) b = true ∨ (a = f ∧ b = g) := by
  by_cases e : a = f
  · subst e
    rw [pk_us] at h
    rcases Nat.lt_or_ge b 32 with z | z
    · rw [fy_set _ (by omega) z, Bool.or_eq_true, decide_eq_true_eq] at h
      exact h.elim Or.inl (fun q => Or.inr ⟨rfl, q⟩)
    · rw [b_big z] at h
      exact absurd h (by decide)
  · rw [pk_un e] at h
    exact Or.inl h
theorem i_vc_addDependency {k : Nat} {u : SX} {v : SY} (I : i_Rel k u v) (hk : k + 4 ≤ 2050) (v1 : Int32) (v2 : Int32) : wpX_addDependency (fun r u' => wpY_addDependency (fun r' v' => r' = r ∧ i_Rel (k + 4) u' v') v v1 v2) u v1 v2 := by
  have I0 := I
  obtain ⟨fc, tc, F, T, RF, n, ev, st, sc, pc, dp, fl, mo, cl, rq, te, pa, oc, lg, att, al, so, yd, yr, c, tt, tp, us, od, it, ip, io, av, ap, nt, ke, rfl, rfl, R⟩ := I
  obtain ⟨⟨hfc, htc, hF, hT, hRF, hn, hev⟩, ⟨hsc, hpc, hmo, hcl⟩, hyd, hdp, hyr, hrq, hit⟩ := R
  have I1 := i_up I0
  unfold wpX_addDependency wpY_addDependency
  dsimp only
  refine fx_isF (by omega) (fun z => br_t rfl ?_) (fun f hf e => br_f (by decide) ?_)
  · by_cases z0 : v1 < 0
    · exact br_t z0 ⟨rfl, I1⟩
    · rcases z with z | z
      · exact absurd z z0
      · exact br_f z0 (br_f (Int32.not_lt.mpr z) ⟨rfl, I1⟩)
  · subst e
    have f0 : ¬ nI f < 0 := nI_pos (by omega)
    have f1 : nI f < nI F := nI_lt hf (by omega)
    have vf : vp_in (nI f) 12 := vp_in_nI (by omega) (by decide)
    have cf : (nI f).toNatClampNeg = f := nI_clamp (by omega)
    refine fx_isF (by omega) (fun z => br_t rfl ?_) (fun g hg e => br_f (by decide) ?_)
    · by_cases z0 : v2 < 0
      · exact br_f f0 (br_t f1 (br_t z0 ⟨rfl, I1⟩))
      · rcases z with z | z
        · exact absurd z z0
        · exact br_f f0 (br_t f1 (br_f z0 (br_f (Int32.not_lt.mpr z) ⟨rfl, I1⟩)))
    · subst e
      have g0 : ¬ nI g < 0 := nI_pos (by omega)
      have g1 : nI g < nI F := nI_lt hg (by omega)
      have vg : vp_in (nI g) 12 := vp_in_nI (by omega) (by decide)
      have cg : (nI g).toNatClampNeg = g := nI_clamp (by omega)
      by_cases z1 : f ≤ g
      · exact br_t (nI_le z1 (by omega)) (br_f f0 (br_t f1 (br_f g0 (br_t g1 (br_f (nI_nlt z1 (by omega)) ⟨rfl, I1⟩)))))
      · have z2 : nI g < nI f := nI_lt (by omega) (by omega)
        refine br_f (nI_ge (by omega) (by omega)) ⟨vg, vf, ?_⟩
        rw [cf, cg]
        by_cases z3 : sc f < sc g
        · exact br_t z3 (br_f f0 (br_t f1 (br_f g0 (br_t g1 (br_t z2 ⟨vg, vf, br_f (Int32.not_le.mpr z3) ⟨rfl, I1⟩⟩)))))
        · have xa : nI f * 12 + nI g = nI (f * 12 + g) := by rw [← nI_add, ← pk_mul]; rfl
          have va : vp_in (nI (f * 12 + g)) 144 := vp_in_nI (by omega) (by decide)
          have ca : (nI (f * 12 + g)).toNatClampNeg = f * 12 + g := nI_clamp (by omega)
          refine br_f z3 ⟨vf, fx_has (by omega) ?_⟩
          have hy := hyd f g (by omega) (by omega)
          rw [xa, ca, hy, fy_nr1]
          refine fy_bi_z (fun y => ⟨vf, vf, nm_e ?_⟩) (fun y => ?_)
          · refine br_f f0 (br_t f1 (br_f g0 (br_t g1 (br_t z2 ⟨vg, vf, br_t (Int32.not_lt.mp z3) ⟨va, br_t (by rw [y]; rfl) ⟨va, nm_e ⟨rfl, fy_mk ⟨⟨hfc, htc, hF, hT, hRF, hn, hev⟩, ⟨hsc, hpc, hmo, hcl⟩, fy_put1 hyd (by omega), fun a b ha h => ?_, hyr, hrq, hit⟩⟩⟩⟩⟩))))
            rcases fy_put2 (by omega) h with q | ⟨q1, q2⟩
            · exact hdp a b ha q
            · omega
          · exact br_f f0 (br_t f1 (br_f g0 (br_t g1 (br_t z2 ⟨vg, vf, br_t (Int32.not_lt.mp z3) ⟨va, br_f (by rw [y]; decide) ⟨rfl, I1⟩⟩⟩))))
theorem i_vc_requestFixture {k : Nat} {u : SX} {v : SY} (I : i_Rel k u v) (hk : k + 4 ≤ 2050) (v1 : Int32) (v2 : Int32) : wpX_requestFixture (fun r u' => wpY_requestFixture (fun r' v' => r' = r ∧ i_Rel (k + 4) u' v') v v1 v2) u v1 v2 := by
  have I0 := I
  obtain ⟨fc, tc, F, T, RF, n, ev, st, sc, pc, dp, fl, mo, cl, rq, te, pa, oc, lg, att, al, so, yd, yr, c, tt, tp, us, od, it, ip, io, av, ap, nt, ke, rfl, rfl, R⟩ := I
  obtain ⟨⟨hfc, htc, hF, hT, hRF, hn, hev⟩, ⟨hsc, hpc, hmo, hcl⟩, hyd, hdp, hyr, hrq, hit⟩ := R
  have I1 := i_up I0
  unfold wpX_requestFixture wpY_requestFixture
  dsimp only
  rcases pk_ix v1 (n := T) (by omega) with z | z | ⟨t, ht, rfl⟩
  · exact br_t z (br_t z ⟨rfl, I1⟩)
  · by_cases z0 : v1 < 0
    · exact br_t z0 (br_t z0 ⟨rfl, I1⟩)
    · exact br_f z0 (br_t z (br_f z0 (br_f (Int32.not_lt.mpr z) ⟨rfl, I1⟩)))
  · have t0 : ¬ nI t < 0 := nI_pos (by omega)
    have t1 : nI t < nI T := nI_lt ht (by omega)
    have vt : vp_in (nI t) 16 := vp_in_nI (by omega) (by decide)
    have ct : (nI t).toNatClampNeg = t := nI_clamp (by omega)
    refine br_f t0 (br_f (nI_ge ht (by omega)) (fx_isF (by omega) (fun z => br_t rfl ?_) (fun g hg e => br_f (by decide) ?_)))
    · by_cases z0 : v2 < 0
      · exact br_f t0 (br_t t1 (br_t z0 ⟨rfl, I1⟩))
      · rcases z with z | z
        · exact absurd z z0
        · exact br_f t0 (br_t t1 (br_f z0 (br_f (Int32.not_lt.mpr z) ⟨rfl, I1⟩)))
    · subst e
      have g0 : ¬ nI g < 0 := nI_pos (by omega)
      have g1 : nI g < nI F := nI_lt hg (by omega)
      have xa : nI t * 12 + nI g = nI (t * 12 + g) := by rw [← nI_add, ← pk_mul]; rfl
      have va : vp_in (nI (t * 12 + g)) 192 := vp_in_nI (by omega) (by decide)
      have ca : (nI (t * 12 + g)).toNatClampNeg = t * 12 + g := nI_clamp (by omega)
      have hy := hyr t g (by omega) (by omega)
      refine ⟨vt, fx_has (by omega) ?_⟩
      rw [ct, xa, ca, hy, fy_nr1]
      refine fy_bi_z (fun y => ⟨vt, vt, nm_e ?_⟩) (fun y => ?_)
      · refine br_f t0 (br_t t1 (br_f g0 (br_t g1 ⟨va, br_t (by rw [y]; rfl) ⟨va, nm_e ⟨rfl, fy_mk ⟨⟨hfc, htc, hF, hT, hRF, hn, hev⟩, ⟨hsc, hpc, hmo, hcl⟩, hyd, hdp, fy_put1 hyr (by omega), fun a b ha h => ?_, hit⟩⟩⟩⟩)))
        rcases fy_put2 (by omega) h with q | ⟨q1, q2⟩
        · exact hrq a b ha q
        · omega
      · exact br_f t0 (br_t t1 (br_f g0 (br_t g1 ⟨va, br_f (by rw [y]; decide) ⟨rfl, I1⟩⟩)))
theorem i_vc_setFailure {k : Nat} {u : SX} {v : SY} (I : i_Rel k u v) (hk : k + 4 ≤ 2050) (v1 : Int32) (v2 : Int32) (v3 : Int32) : wpX_setFailure (fun r u' => wpY_setFailure (fun r' v' => r' = r ∧ i_Rel (k + 4) u' v') v v1 v2 v3) u v1 v2 v3 := by
  have I0 := I
  obtain ⟨fc, tc, F, T, RF, n, ev, st, sc, pc, dp, fl, mo, cl, rq, te, pa, oc, lg, att, al, so, yd, yr, c, tt, tp, us, od, it, ip, io, av, ap, nt, ke, rfl, rfl, R⟩ := I
  have R0 := R
  obtain ⟨⟨hfc, htc, hF, hT, hRF, hn, hev⟩, ⟨hsc, hpc, hmo, hcl⟩, hyd, hdp, hyr, hrq, hit⟩ := R
  have I1 := i_up I0
  unfold wpX_setFailure
  dsimp only
  refine fx_isF (by omega) (fun z => br_t rfl ?_) (fun f hf e => br_f (by decide) ?_)
  · unfold wpY_setFailure
    dsimp only
    by_cases z0 : v1 < 0
    · exact br_t z0 ⟨rfl, I1⟩
    · rcases z with z | z
      · exact absurd z z0
      · exact br_f z0 (br_f (Int32.not_lt.mpr z) ⟨rfl, I1⟩)
  · subst e
    have f0 : ¬ nI f < 0 := nI_pos (by omega)
    have f1 : nI f < nI F := nI_lt hf (by omega)
    have vf : vp_in (nI f) 12 := vp_in_nI (by omega) (by decide)
    have cf : (nI f).toNatClampNeg = f := nI_clamp (by omega)
    obtain ⟨pe, pb⟩ := hpc f hf
    obtain ⟨v1', v2'⟩ := fy_vl_b hpc hf
    have yj : ∀ post : Int32 → SY → Prop, wY_setFailure_34 post (nI f) v2 v3 (nI (fy_vl pc f)) (nI fc) (nI tc) (nI F) (nI T) (nI RF) (nI n) (nI ev) st sc pc yd fl mo cl yr c tt tp us od it ip io lg att av ap so nt → wpY_setFailure post (nI fc, nI tc, nI F, nI T, nI RF, nI n, nI ev, st, sc, pc, yd, fl, mo, cl, yr, c, tt, tp, us, od, it, ip, io, lg, att, av, ap, so, nt) (nI f) v2 v3 := by
      intro post hp
      unfold wpY_setFailure
      refine br_f f0 (br_t f1 ⟨vf, ?_⟩)
      rw [cf, pe]
      unfold fy_vl at hp
      refine pk_le 1 (fy_n pc f) (fun z => ⟨vf, ?_⟩) (fun z => ?_)
      · rw [if_neg (by omega)] at hp
        exact hp
      · rw [if_pos (by omega)] at hp
        exact hp
    by_cases z0 : v2 < 0
    · refine br_t z0 (yj _ ?_)
      unfold wY_setFailure_34
      exact br_t z0 ⟨rfl, I1⟩
    · refine br_f z0 (fx_vc (F := F) (by omega) hpc hf ?_)
      by_cases z1 : v2 < nI (fy_vl pc f)
      · by_cases z2 : v3 < 0
        · refine br_t z1 (br_t z2 (yj _ ?_))
          unfold wY_setFailure_34
          exact br_f z0 (br_t z1 (br_t z2 ⟨rfl, I1⟩))
        · by_cases z3 : v3 ≤ 15
          · obtain ⟨p, hp, rfl⟩ := nI_of z0
            rw [nI_ltI hp (by omega)] at z1
            have z1' : nI p < nI (fy_vl pc f) := nI_lt z1 (by omega)
            have xa : nI f * 3 + nI p = nI (f * 3 + p) := by rw [← nI_add, ← pk_mul]; rfl
            have va : vp_in (nI (f * 3 + p)) 36 := vp_in_nI (by omega) (by decide)
            refine br_t z1' (br_f z2 (br_t z3 (fx_slot ⟨va, nm_e (yj _ ?_)⟩)))
            unfold wY_setFailure_34
            rw [xa]
            exact br_f z0 (br_t z1' (br_f z2 (br_t z3 ⟨va, nm_e ⟨rfl, fy_mk R0⟩⟩)))
          · refine br_t z1 (br_f z2 (br_f z3 (yj _ ?_)))
            unfold wY_setFailure_34
            exact br_f z0 (br_t z1 (br_f z2 (br_f z3 ⟨rfl, I1⟩)))
      · refine br_f z1 (yj _ ?_)
        unfold wY_setFailure_34
        exact br_f z0 (br_f z1 ⟨rfl, I1⟩)
