/-! X: execution -/
section
variable {xfc xtc xF xT xn xev xst : Int32} {sc pc dp fl mo cl rq te pa oc lg att al so : Nat → Int32} {ke : Nat → Int64}
theorem fx_log {post : St2 → Prop} {e : fy_E} {kind p : Int32} {i f : Nat} (he : e.1 < 100000) (h : post (xfc, xtc, xF, xT, xn, nI (fy_lo kind i f p e).1, nI (fy_lo kind i f p e).2.2.2.1, sc, pc, dp, fl, mo, cl, rq, te, pa, ke, oc, (fy_lo kind i f p e).2.1, (fy_lo kind i f p e).2.2.1, (fy_lo kind i f p e).2.2.2.2.1, (fy_lo kind i f p e).2.2.2.2.2)) : wpX_logEvent post (xfc, xtc, xF, xT, xn, nI e.1, nI e.2.2.2.1, sc, pc, dp, fl, mo, cl, rq, te, pa, ke, oc, e.2.1, e.2.2.1, e.2.2.2.2.1, e.2.2.2.2.2) kind (nI i) (nI f) p := by
  unfold wpX_logEvent
  unfold fy_lo at h
  dsimp only at h
  by_cases z : e.1 < 256
  · rw [if_pos z] at h
    refine br_f (nI_ge (b := 256) z (by decide)) ⟨vp_in_nI z (by decide), nm_e (nm_e ?_)⟩
    rw [nI_clamp (by omega), nI_1]
    exact h
  · rw [if_neg z] at h
    refine br_t (nI_le (a := 256) (by omega) (by omega)) (nm_e ?_)
    rw [nI_1]
    exact h
theorem fx_log2 {post : St2 → Prop} {e : fy_E} {kind p : Int32} {i f : Nat} (he : e.1 < 100000) (h : post (xfc, xtc, xF, xT, xn, nI (fy_lo kind i f p e).1, nI (fy_lo kind i f p e).2.2.2.1, sc, pc, dp, fl, mo, cl, rq, te, pa, ke, oc, (fy_lo kind i f p e).2.1, (fy_lo kind i f p e).2.2.1, (fy_lo kind i f p e).2.2.2.2.1, (fy_lo kind i f p e).2.2.2.2.2)) : wpX_logEvent_2 post (xfc, xtc, xF, xT, xn, nI e.1, nI e.2.2.2.1, sc, pc, dp, fl, mo, cl, rq, te, pa, ke, oc, e.2.1, e.2.2.1, e.2.2.2.2.1, e.2.2.2.2.2) kind (nI i) (nI f) p := by
  unfold wpX_logEvent_2
  unfold fy_lo at h
  dsimp only at h
  by_cases z : e.1 < 256
  · rw [if_pos z] at h
    refine br_f (nI_ge (b := 256) z (by decide)) ⟨vp_in_nI z (by decide), nm_e (nm_e ?_)⟩
    rw [nI_clamp (by omega), nI_1]
    exact h
  · rw [if_neg z] at h
    refine br_t (nI_le (a := 256) (by omega) (by omega)) (nm_e ?_)
    rw [nI_1]
    exact h
theorem fx_suf {post : Int32 → St2 → Prop} {e : fy_E} {i f p : Nat} (h1 : e.1 < 100000) (h2 : e.2.2.2.1 < 100000) (hf : f < 12) (hp : p < 3) (h : post (fy_bi (fy_sf fl i f p e).2) (xfc, xtc, xF, xT, xn, nI ((fy_sf fl i f p e).1).1, nI ((fy_sf fl i f p e).1).2.2.2.1, sc, pc, dp, fl, mo, cl, rq, te, pa, ke, oc, ((fy_sf fl i f p e).1).2.1, ((fy_sf fl i f p e).1).2.2.1, ((fy_sf fl i f p e).1).2.2.2.2.1, ((fy_sf fl i f p e).1).2.2.2.2.2)) : wpX_setUpFixture post (xfc, xtc, xF, xT, xn, nI e.1, nI e.2.2.2.1, sc, pc, dp, fl, mo, cl, rq, te, pa, ke, oc, e.2.1, e.2.2.1, e.2.2.2.2.1, e.2.2.2.2.2) (nI i) (nI f) (nI p) := by
  unfold wpX_setUpFixture
  have hv : vp_in (nI (f * 3 + p)) 36 := vp_in_nI (by omega) (by decide)
  have hc : (nI (f * 3 + p)).toNatClampNeg = f * 3 + p := nI_clamp (by omega)
  have hv2 : vp_in (nI f) 12 := vp_in_nI hf (by decide)
  have hc2 : (nI f).toNatClampNeg = f := nI_clamp (by omega)
  refine fx_slot ⟨hv, hv, nm_e ⟨hv, hv, ?_⟩⟩
  rw [hc, pk_us]
  unfold fy_sf at h
  by_cases z : e.2.2.1 (f * 3 + p) + 1 = fl (f * 3 + p)
  · rw [if_pos z] at h
    refine br_t z ?_
    refine fx_log (e := fy_at f p e) h1 ?_
    exact h
  · rw [if_neg z] at h
    refine br_f z ?_
    refine fx_log (e := fy_at f p e) h1 ?_
    refine nm_e ⟨hv2, nm_e ⟨hv2, nm_e ?_⟩⟩
    rw [hc2, nI_1]
    exact h
theorem fx_su1 {post : Int32 → St2 → Prop} {F i : Nat} {D : Nat → Nat} (hF : F ≤ 12) (hi : i < 64) (hD : ∀ f, D f < 4) (hpa : pa i = nI (fy_en D 12)) : ∀ (k f n b c : Nat) (e : fy_E), f + k = F → k < n → fy_ok F b c e → b + k < 100000 → c + k < 100000 → post (fy_bi (fy_su fl D i k f e).2) (xfc, xtc, nI F, xT, xn, nI ((fy_su fl D i k f e).1).1, nI ((fy_su fl D i k f e).1).2.2.2.1, sc, pc, dp, fl, mo, cl, rq, te, pa, ke, oc, ((fy_su fl D i k f e).1).2.1, ((fy_su fl D i k f e).1).2.2.1, ((fy_su fl D i k f e).1).2.2.2.2.1, ((fy_su fl D i k f e).1).2.2.2.2.2) →
    wX_setUpItem_2 post (nI i) n (nI f) xfc xtc (nI F) xT xn (nI e.1) (nI e.2.2.2.1) sc pc dp fl mo cl rq te pa ke oc (e.2.1) (e.2.2.1) (e.2.2.2.2.1) (e.2.2.2.2.2) := by
  intro k
  induction k with
  | zero =>
    intro f n b c e hk hn ho hb hc h
    obtain ⟨n, rfl⟩ : ∃ r, n = r + 1 := ⟨n - 1, by omega⟩
    have e : f = F := by omega
    subst e
    exact br_t (nI_le (Nat.le_refl _) (by omega)) h
  | succ k ih =>
    intro f n b c e hk hn ho hb hc h
    obtain ⟨n, rfl⟩ : ∃ r, n = r + 1 := ⟨n - 1, by omega⟩
    have hv : vp_in (nI i) 64 := vp_in_nI (by omega) (by decide)
    have hcl : (nI i).toNatClampNeg = i := nI_clamp (by omega)
    have hv2 : vp_in (nI f) 12 := vp_in_nI (by omega) (by decide)
    have hc2 : (nI f).toNatClampNeg = f := nI_clamp (by omega)
    have hd := hD f
    rw [fy_su] at h
    refine br_f (nI_ge (by omega) (by omega)) ⟨hv, ?_⟩
    rw [hcl, hpa]
    refine fx_pin hD (by omega) (fy_ge (D f) hd (fun z => nm_e ?_) (fun p hp hp3 => ⟨hv2, ?_⟩))
    · rw [if_pos (Or.inl z)] at h
      rw [nI_1]
      exact ih (f + 1) n b c e (by omega) (by omega) ho (by omega) (by omega) h
    · rw [hc2, hp, fy_ms]
      rw [hp, Nat.add_sub_cancel] at h
      by_cases z : e.2.2.2.2.1 f = nI p
      · rw [if_pos (Or.inr z)] at h
        refine br_t z (nm_e ?_)
        rw [nI_1]
        exact ih (f + 1) n b c e (by omega) (by omega) ho (by omega) (by omega) h
      · rw [if_neg (fun q => q.elim (fun w => absurd w (Nat.succ_ne_zero p)) z)] at h
        have ho2 := fy_ok_sf (fl := fl) (i := i) (f := f) (p := p) ho hp3
        refine br_f z (fx_suf (by have := ho.1; omega) (by have := ho.2.1; omega) (by omega) hp3 ?_)
        refine fy_bi_z (fun y => ?_) (fun y => nm_e ?_)
        · rw [if_pos y] at h
          exact h
        · rw [if_neg (by rw [y]; decide)] at h
          rw [nI_1]
          exact ih (f + 1) n (b + 1) (c + 1) _ (by omega) (by omega) ho2 (by omega) (by omega) h
theorem fx_su {post : Int32 → St2 → Prop} {F i b c : Nat} {D : Nat → Nat} {e : fy_E} (hF : F ≤ 12) (hi : i < 64) (hD : ∀ f, D f < 4) (hpa : pa i = nI (fy_en D 12)) (ho : fy_ok F b c e) (hb : b < 50000) (hc : c < 50000) (h : post (fy_bi (fy_su fl D i F 0 e).2) (xfc, xtc, nI F, xT, xn, nI ((fy_su fl D i F 0 e).1).1, nI ((fy_su fl D i F 0 e).1).2.2.2.1, sc, pc, dp, fl, mo, cl, rq, te, pa, ke, oc, ((fy_su fl D i F 0 e).1).2.1, ((fy_su fl D i F 0 e).1).2.2.1, ((fy_su fl D i F 0 e).1).2.2.2.2.1, ((fy_su fl D i F 0 e).1).2.2.2.2.2)) : wpX_setUpItem post (xfc, xtc, nI F, xT, xn, nI e.1, nI e.2.2.2.1, sc, pc, dp, fl, mo, cl, rq, te, pa, ke, oc, e.2.1, e.2.2.1, e.2.2.2.2.1, e.2.2.2.2.2) (nI i) := by
  unfold wpX_setUpItem
  exact ⟨F + 1, fx_su1 hF hi hD hpa F 0 (F + 1) b c e (by omega) (by omega) ho (by omega) (by omega) h⟩
theorem fx_la1 {post : Int32 → Prop} {F : Nat} {s : Int32} (hF : F ≤ 12) : ∀ (k g n : Nat), g + k = F → k < n → post (nI (fy_la s so F).1) → wX_latestOf_7 post s xfc xtc (nI F) xT xn xev xst sc pc dp fl mo cl rq te pa ke oc lg att al so n (nI (fy_la s so g).1) (fy_la s so g).2 (nI g) := by
  intro k
  induction k with
  | zero =>
    intro g n hk hn h
    obtain ⟨n, rfl⟩ : ∃ r, n = r + 1 := ⟨n - 1, by omega⟩
    have e : g = F := by omega
    subst e
    exact br_t (nI_le (Nat.le_refl _) (by omega)) h
  | succ k ih =>
    intro g n hk hn h
    obtain ⟨n, rfl⟩ : ∃ r, n = r + 1 := ⟨n - 1, by omega⟩
    have hi := ih (g + 1) n (by omega) (by omega) h
    have hv2 : vp_in (nI g) 12 := vp_in_nI (by omega) (by decide)
    have hc2 : (nI g).toNatClampNeg = g := nI_clamp (by omega)
    rw [fy_la] at hi
    refine br_f (nI_ge (by omega) (by omega)) (fx_has (by omega) (fy_bi_z (fun y => nm_e ?_) (fun y => ⟨hv2, ?_⟩)))
    · rw [if_neg (by rw [y]; simp)] at hi
      rw [nI_1]
      exact hi
    · rw [hc2]
      by_cases z : (fy_la s so g).2 < so g
      · rw [if_pos ⟨y, z⟩] at hi
        refine br_f (Int32.not_le.mpr z) ⟨hv2, nm_e (nm_e ?_)⟩
        rw [nI_1]
        exact hi
      · rw [if_neg (fun q => z q.2)] at hi
        refine br_t (Int32.not_lt.mp z) (nm_e ?_)
        rw [nI_1]
        exact hi
theorem fx_la {post : Int32 → Prop} {F : Nat} {s : Int32} (hF : F ≤ 12) (h : post (nI (fy_la s so F).1)) : wpX_latestOf post (xfc, xtc, nI F, xT, xn, xev, xst, sc, pc, dp, fl, mo, cl, rq, te, pa, ke, oc, lg, att, al, so) s := by
  unfold wpX_latestOf
  exact ⟨F + 1, fx_la1 hF F 0 (F + 1) (by omega) (by omega) h⟩
end
