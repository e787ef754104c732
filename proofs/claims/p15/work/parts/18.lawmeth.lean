/-! the class's defining methods as the law calls them -/
section
variable {xfc xtc xF xT xn xev xst : Int32} {sc pc dp fl mo cl rq te pa oc lg att al so : Nat → Int32} {ke : Nat → Int64}
theorem pl_def {post : Int32 → St2 → Prop} {f s p : Nat} (hf : f < 12) (hs : s ≤ 3) (hp : p ≤ 3) (h : post (nI f) (nI 12, xtc, nI (f + 1), xT, xn, xev, xst, upd sc f (nI s), upd pc f (nI p), dp, fl, mo, cl, rq, te, pa, ke, oc, lg, att, al, so)) : wpX_defineFixture post (nI 12, xtc, nI f, xT, xn, xev, xst, sc, pc, dp, fl, mo, cl, rq, te, pa, ke, oc, lg, att, al, so) (nI s) (nI p) := by
  have vf : vp_in (nI f) 12 := vp_in_nI hf (by decide)
  unfold wpX_defineFixture
  refine br_f (nI_pos (by omega)) (br_t (nI_le (b := 3) hs (by decide)) (br_f (nI_pos (by omega)) (br_t (nI_le (b := 3) hp (by decide)) (br_t (nI_lt hf (by decide)) ⟨vf, nm_e ⟨vf, nm_e (nm_e ?_)⟩⟩))))
  rw [nI_clamp (by omega), nI_1]
  exact h
theorem pl_add {post : Int32 → St2 → Prop} {F f d : Nat} (hF : F ≤ 12) (hf : f < F) (hd : d < f) (h0 : post 0 (xfc, xtc, nI F, xT, xn, xev, xst, sc, pc, dp, fl, mo, cl, rq, te, pa, ke, oc, lg, att, al, so)) (h1 : post 1 (xfc, xtc, nI F, xT, xn, xev, xst, sc, pc, upd dp f (dp f ||| ((1 : Int32) <<< (nI d &&& 31))), fl, mo, cl, rq, te, pa, ke, oc, lg, att, al, so)) : wpX_addDependency post (xfc, xtc, nI F, xT, xn, xev, xst, sc, pc, dp, fl, mo, cl, rq, te, pa, ke, oc, lg, att, al, so) (nI f) (nI d) := by
  have vf : vp_in (nI f) 12 := vp_in_nI (by omega) (by decide)
  have vd : vp_in (nI d) 12 := vp_in_nI (by omega) (by decide)
  have cf : (nI f).toNatClampNeg = f := nI_clamp (by omega)
  have cd : (nI d).toNatClampNeg = d := nI_clamp (by omega)
  unfold wpX_addDependency
  refine fx_isF hF (fun _ => br_t rfl h0) (fun _ _ _ => br_f (by decide) ?_)
  refine fx_isF hF (fun _ => br_t rfl h0) (fun _ _ _ => br_f (by decide) ?_)
  refine br_f (nI_ge hd (by omega)) ⟨vd, vf, ?_⟩
  rw [cf, cd]
  refine br_c (fun _ => h0) (fun _ => ⟨vf, fx_has (by omega) (fy_bi_z (fun _ => ⟨vf, vf, nm_e h1⟩) (fun _ => h0))⟩)
theorem pl_fail {post : Int32 → St2 → Prop} {F : Nat} {v1 v2 v3 : Int32} (hF : F ≤ 12) (hp : fy_nb pc F 3) (h : ∀ (r : Int32) (fl : Nat → Int32), post r (xfc, xtc, nI F, xT, xn, xev, xst, sc, pc, dp, fl, mo, cl, rq, te, pa, ke, oc, lg, att, al, so)) : wpX_setFailure post (xfc, xtc, nI F, xT, xn, xev, xst, sc, pc, dp, fl, mo, cl, rq, te, pa, ke, oc, lg, att, al, so) v1 v2 v3 := by
  unfold wpX_setFailure
  refine fx_isF hF (fun _ => br_t rfl (h 0 fl)) (fun f hf e => br_f (by decide) ?_)
  subst e
  by_cases z0 : v2 < 0
  · exact br_t z0 (h 0 fl)
  refine br_f z0 (fx_vc hF hp hf ?_)
  obtain ⟨w1, w2⟩ := fy_vl_b hp hf
  by_cases z1 : v2 < nI (fy_vl pc f)
  · by_cases z2 : v3 < 0
    · exact br_t z1 (br_t z2 (h 0 fl))
    by_cases z3 : v3 ≤ 15
    · obtain ⟨p, hp2, rfl⟩ := nI_of z0
      rw [nI_ltI hp2 (by omega)] at z1
      exact br_t (nI_lt z1 (by omega)) (br_f z2 (br_t z3 (fx_slot ⟨vp_in_nI (by omega) (by decide), nm_e (h 1 _)⟩)))
    · exact br_t z1 (br_f z2 (br_f z3 (h 0 fl)))
  · exact br_f z1 (h 0 fl)
theorem pl_tst {post : Int32 → St2 → Prop} {t m c : Nat} (ht : t < 16) (hm : m ≤ 3) (hc : c ≤ 3) (h : post (nI t) (xfc, nI 16, xF, nI (t + 1), xn, xev, xst, sc, pc, dp, fl, upd mo t (nI m), upd cl t (nI c), rq, te, pa, ke, oc, lg, att, al, so)) : wpX_addTest post (xfc, nI 16, xF, nI t, xn, xev, xst, sc, pc, dp, fl, mo, cl, rq, te, pa, ke, oc, lg, att, al, so) (nI m) (nI c) := by
  have vt : vp_in (nI t) 16 := vp_in_nI ht (by decide)
  unfold wpX_addTest
  refine br_f (nI_pos (by omega)) (br_t (nI_le (b := 3) hm (by decide)) (br_f (nI_pos (by omega)) (br_t (nI_le (b := 3) hc (by decide)) (br_t (nI_lt ht (by decide)) ⟨vt, nm_e ⟨vt, nm_e (nm_e ?_)⟩⟩))))
  rw [nI_clamp (by omega), nI_1]
  exact h
theorem pl_put2 {dp : Nat → Int32} {f g a b : Nat} (hg : g < 12) (h : bt (upd dp f (dp f ||| ((1 : Int32) <<< (nI g &&& 31))) a) b = true) : bt (dp a) b = true ∨ (a = f ∧ b = g) := by
  by_cases e : a = f
  · subst e
    rw [pk_us] at h
    rcases Nat.lt_or_ge b 32 with z | z
    · rw [fy_set _ (by omega) z, Bool.or_eq_true, decide_eq_true_eq] at h
      exact h.elim Or.inl (fun q => Or.inr ⟨rfl, q⟩)
    · rw [b_big z] at h
      exact absurd h (by decide)
  · rw [pk_un e] at h
    exact Or.inl h
theorem pl_req {post : Int32 → St2 → Prop} {F T : Nat} {v1 v2 : Int32} (hF : F ≤ 12) (hT : T ≤ 16) (hrq : ∀ t g, t < 16 → bt (rq t) g = true → g < F) (h : ∀ (r : Int32) (rq : Nat → Int32), (∀ t g, t < 16 → bt (rq t) g = true → g < F) → post r (xfc, xtc, nI F, nI T, xn, xev, xst, sc, pc, dp, fl, mo, cl, rq, te, pa, ke, oc, lg, att, al, so)) : wpX_requestFixture post (xfc, xtc, nI F, nI T, xn, xev, xst, sc, pc, dp, fl, mo, cl, rq, te, pa, ke, oc, lg, att, al, so) v1 v2 := by
  unfold wpX_requestFixture
  rcases pk_ix v1 (n := T) (by omega) with z | z | ⟨t, ht, rfl⟩
  · exact br_t z (h 0 rq hrq)
  · by_cases z0 : v1 < 0
    · exact br_t z0 (h 0 rq hrq)
    · exact br_f z0 (br_t z (h 0 rq hrq))
  · have vt : vp_in (nI t) 16 := vp_in_nI (by omega) (by decide)
    have ct : (nI t).toNatClampNeg = t := nI_clamp (by omega)
    refine br_f (nI_pos (by omega)) (br_f (nI_ge ht (by omega)) (fx_isF hF (fun _ => br_t rfl (h 0 rq hrq)) (fun g hg e => br_f (by decide) ?_)))
    subst e
    refine ⟨vt, fx_has (by omega) (fy_bi_z (fun _ => ⟨vt, vt, nm_e (h 1 _ ?_)⟩) (fun _ => h 0 rq hrq))⟩
    rw [ct]
    intro a b ha hb
    rcases pl_put2 (by omega) hb with q | ⟨q1, q2⟩
    · exact hrq a b ha q
    · omega
end
