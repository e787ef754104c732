/-! the law's small methods -/
theorem pl_cell {post : Int32 → Prop} {L j : Nat} {xs : Nat → Int32} {u : St1} (hL : L ≤ 260) (hj : j < 1000) (h : ∀ r, post r) : wpL_cell post L xs u (nI j) := by
  unfold wpL_cell
  exact pk_le L j (fun _ => h 0) (fun z => ⟨vp_in_nI z (by omega), h _⟩)
theorem pl_mod {post : Int32 → Prop} {u : St1} {x : Int32} {m : Nat} (h0 : 0 < m) (hm : m < 100) (h : ∀ j, j < m → post (nI j)) : wpL_mod post u x (nI m) := by
  unfold wpL_mod
  refine ⟨nI_ne0 h0 (by omega), nm_e ?_⟩
  have hr := rem_toInt x (nI m)
  rw [nI_toInt (by omega)] at hr
  have hb := tmod_bounds (a := x.toInt) (M := (m : Int)) (by omega)
  rw [← hr] at hb
  generalize x - x / nI m * nI m = r at hb
  have z0 : (0 : Int32).toInt = 0 := by decide
  by_cases z : 0 ≤ r
  · refine br_t z ?_
    obtain ⟨j, hj, rfl⟩ := nI_of (x := r) (Int32.not_lt.mpr z)
    rw [nI_toInt hj] at hb
    exact h j (by omega)
  · refine br_f z ?_
    have hn : r.toInt < 0 := by
      rw [Int32.le_iff_toInt_le, z0] at z
      omega
    have e : r + nI m = nI (r.toInt + m).toNat := by
      apply Int32.toInt_inj.mp
      rw [Int32.toInt_add, nI_toInt (by omega), nI_toInt (by omega), Int.bmod_eq_of_le (by omega) (by omega)]
      omega
    rw [e]
    exact h _ (by omega)
/-- bounds of an event -/
def pl_b (g : gh_E) : Prop := g.1 ≤ 3 ∧ g.2.1 < 64 ∧ g.2.2.1 < 12 ∧ g.2.2.2 < 3
theorem pl_v (g : gh_E) : gh_co g = nI (g.1 * 100000 + g.2.1 * 1000 + g.2.2.1 * 10 + g.2.2.2) := by
  unfold gh_co
  rw [← nI_add, ← nI_add, ← nI_add, ← pk_mul, ← pk_mul, ← pk_mul]
  rfl
theorem pl_kind {post : Int32 → Prop} {u : St1} {g : gh_E} (hb : pl_b g) (h : post (nI g.1)) : wpL_kind post u (gh_co g) := by
  obtain ⟨b1, b2, b3, b4⟩ := hb
  unfold wpL_kind
  refine ⟨by decide, ?_⟩
  have e : nI (g.1 * 100000 + g.2.1 * 1000 + g.2.2.1 * 10 + g.2.2.2) / 100000 = nI ((g.1 * 100000 + g.2.1 * 1000 + g.2.2.1 * 10 + g.2.2.2) / 100000) := pk_div (d := 100000) (by omega) (by decide) (by decide)
  rw [pl_v, e, show (g.1 * 100000 + g.2.1 * 1000 + g.2.2.1 * 10 + g.2.2.2) / 100000 = g.1 by omega]
  exact h
theorem pl_par {post : Int32 → Prop} {u : St1} {g : gh_E} (hb : pl_b g) (h : post (nI g.2.2.2)) : wpL_par post u (gh_co g) := by
  obtain ⟨b1, b2, b3, b4⟩ := hb
  unfold wpL_par
  refine ⟨by decide, ?_⟩
  have e : nI (g.1 * 100000 + g.2.1 * 1000 + g.2.2.1 * 10 + g.2.2.2) - nI (g.1 * 100000 + g.2.1 * 1000 + g.2.2.1 * 10 + g.2.2.2) / 10 * 10 = nI ((g.1 * 100000 + g.2.1 * 1000 + g.2.2.1 * 10 + g.2.2.2) % 10) := pk_rem (d := 10) (by omega) (by decide) (by decide)
  rw [pl_v, e, show (g.1 * 100000 + g.2.1 * 1000 + g.2.2.1 * 10 + g.2.2.2) % 10 = g.2.2.2 by omega]
  exact h
theorem pl_fx {post : Int32 → Prop} {u : St1} {g : gh_E} (hb : pl_b g) (h : post (nI g.2.2.1)) : wpL_fx post u (gh_co g) := by
  obtain ⟨b1, b2, b3, b4⟩ := hb
  unfold wpL_fx
  refine ⟨by decide, by decide, ?_⟩
  have e : nI (g.1 * 100000 + g.2.1 * 1000 + g.2.2.1 * 10 + g.2.2.2) / 10 = nI ((g.1 * 100000 + g.2.1 * 1000 + g.2.2.1 * 10 + g.2.2.2) / 10) := pk_div (d := 10) (by omega) (by decide) (by decide)
  have e2 : nI ((g.1 * 100000 + g.2.1 * 1000 + g.2.2.1 * 10 + g.2.2.2) / 10) - nI ((g.1 * 100000 + g.2.1 * 1000 + g.2.2.1 * 10 + g.2.2.2) / 10) / 100 * 100 = nI ((g.1 * 100000 + g.2.1 * 1000 + g.2.2.1 * 10 + g.2.2.2) / 10 % 100) := pk_rem (d := 100) (by omega) (by decide) (by decide)
  rw [pl_v, e, e2, show (g.1 * 100000 + g.2.1 * 1000 + g.2.2.1 * 10 + g.2.2.2) / 10 % 100 = g.2.2.1 by omega]
  exact h
theorem pl_itm {post : Int32 → Prop} {u : St1} {g : gh_E} (hb : pl_b g) (h : post (nI g.2.1)) : wpL_itm post u (gh_co g) := by
  obtain ⟨b1, b2, b3, b4⟩ := hb
  unfold wpL_itm
  refine ⟨by decide, by decide, ?_⟩
  have e : nI (g.1 * 100000 + g.2.1 * 1000 + g.2.2.1 * 10 + g.2.2.2) / 1000 = nI ((g.1 * 100000 + g.2.1 * 1000 + g.2.2.1 * 10 + g.2.2.2) / 1000) := pk_div (d := 1000) (by omega) (by decide) (by decide)
  have e2 : nI ((g.1 * 100000 + g.2.1 * 1000 + g.2.2.1 * 10 + g.2.2.2) / 1000) - nI ((g.1 * 100000 + g.2.1 * 1000 + g.2.2.1 * 10 + g.2.2.2) / 1000) / 100 * 100 = nI ((g.1 * 100000 + g.2.1 * 1000 + g.2.2.1 * 10 + g.2.2.2) / 1000 % 100) := pk_rem (d := 100) (by omega) (by decide) (by decide)
  rw [pl_v, e, e2, show (g.1 * 100000 + g.2.1 * 1000 + g.2.2.1 * 10 + g.2.2.2) / 1000 % 100 = g.2.1 by omega]
  exact h
theorem pl_life {post : Int32 → Prop} {u : St1} {g : gh_E} {f : Nat} (hb : pl_b g) (hf : f < 12) (h1 : gh_lf g f → post 1) (h0 : ¬ gh_lf g f → post 0) : wpL_life post u (gh_co g) (nI f) := by
  have b := hb
  obtain ⟨b1, b2, b3, b4⟩ := hb
  have tl : (g.1 = 1 ∨ g.1 = 2) → wL_life_15 post (gh_co g) (nI f) := by
    intro k
    unfold wL_life_15
    exact pl_fx b (pk_eq g.2.2.1 f (fun z => h1 ⟨k, z⟩) (fun z => h0 (fun q => z q.2)))
  unfold wpL_life
  refine pl_kind b (pk_eq g.1 1 (fun z => tl (Or.inl z)) (fun z => pk_eq g.1 2 (fun y => tl (Or.inr y)) (fun y => h0 (fun q => q.1.elim z y))))
section
variable {xfc xtc xF xT xn xev xst : Int32} {sc pc dp fl mo cl rq te pa oc lg att al so : Nat → Int32} {ke : Nat → Int64}
theorem pl_ev {post : Int32 → Prop} {n k : Nat} (hn : n ≤ 256) (hk : k < n) (h : post (lg k)) : wpX_event post (xfc, xtc, xF, xT, xn, nI n, xst, sc, pc, dp, fl, mo, cl, rq, te, pa, ke, oc, lg, att, al, so) (nI k) := by
  unfold wpX_event
  refine br_f (nI_pos (by omega)) (br_f (nI_ge hk (by omega)) (br_f (nI_ge (b := 256) (by omega) (by decide)) ⟨vp_in_nI (by omega) (by decide), ?_⟩))
  rw [nI_clamp (by omega)]
  exact h
theorem pl_itT {post : Int32 → Prop} {N k : Nat} (hN : N ≤ 64) (hk : k < N) (h : post (te k)) : wpX_itemTest post (xfc, xtc, xF, xT, nI N, xev, xst, sc, pc, dp, fl, mo, cl, rq, te, pa, ke, oc, lg, att, al, so) (nI k) := by
  unfold wpX_itemTest
  refine fx_isI hN (fun z => ?_) (fun f hf e => br_f (by decide) ⟨vp_in_nI (by omega) (by decide), ?_⟩)
  · rcases z with z | z
    · exact absurd z (nI_pos (by omega))
    · exact absurd z (nI_ge hk (by omega))
  · rw [nI_clamp (by omega)]
    exact h
theorem pl_itO {post : Int32 → Prop} {N k : Nat} (hN : N ≤ 64) (hk : k < N) (h : post (oc k)) : wpX_itemOutcome post (xfc, xtc, xF, xT, nI N, xev, xst, sc, pc, dp, fl, mo, cl, rq, te, pa, ke, oc, lg, att, al, so) (nI k) := by
  unfold wpX_itemOutcome
  refine fx_isI hN (fun z => ?_) (fun f hf e => br_f (by decide) ⟨vp_in_nI (by omega) (by decide), ?_⟩)
  · rcases z with z | z
    · exact absurd z (nI_pos (by omega))
    · exact absurd z (nI_ge hk (by omega))
  · rw [nI_clamp (by omega)]
    exact h
theorem pl_itP {post : Int32 → Prop} {N F k f : Nat} {D : Nat → Nat} (hN : N ≤ 64) (hk : k < N) (hF : F ≤ 12) (hf : f < F) (hD : ∀ f, D f < 4) (hpa : pa k = nI (fy_en D 12)) (h : post (nI (D f) - 1)) : wpX_itemParam post (xfc, xtc, nI F, xT, nI N, xev, xst, sc, pc, dp, fl, mo, cl, rq, te, pa, ke, oc, lg, att, al, so) (nI k) (nI f) := by
  unfold wpX_itemParam
  refine fx_isI hN (fun z => ?_) (fun _ _ _ => br_f (by decide) ?_)
  · rcases z with z | z
    · exact absurd z (nI_pos (by omega))
    · exact absurd z (nI_ge hk (by omega))
  · refine fx_isF hF (fun z => ?_) (fun _ _ _ => br_f (by decide) ⟨vp_in_nI (by omega) (by decide), ?_⟩)
    · rcases z with z | z
      · exact absurd z (nI_pos (by omega))
      · exact absurd z (nI_ge hf (by omega))
    · rw [nI_clamp (by omega), hpa]
      exact fx_pin hD (by omega) h
end
