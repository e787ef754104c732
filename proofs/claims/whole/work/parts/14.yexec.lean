/-! Y: setup and teardown of an item -/
section
variable {yfc ytc yF yT yrf yn yev yst : Int32} {sc pc yd fl mo cl yr c tt tp us od it ip io lg att av ap so nt : Nat → Int32}
/-- X's alive parameters against Y's -/
def fz_al (F : Nat) (al av ap : Nat → Int32) : Prop := ∀ f, f < F → (av f = 0 ∧ al f = -1) ∨ (av f = 1 ∧ ¬ al f = -1 ∧ ap f = al f)
def fz_it (m : Nat) (Tj : Nat → Nat) (Dj : Nat → Nat → Nat) (it ip : Nat → Int32) : Prop := ∀ j, j < m → Tj j < 16 ∧ it j = nI (Tj j) ∧ (∀ f, Dj j f < 4) ∧ ∀ f, f < 12 → ip (j * 12 + f) = nI (Dj j f) - 1
theorem fz_log {post : SY → Prop} {e : fy_E} {kind p : Int32} {i f : Nat} (he : e.1 < 100000) (h : post (yfc, ytc, yF, yT, yrf, yn, nI (fy_lo kind i f p e).1, nI (fy_lo kind i f p e).2.2.2.1, sc, pc, yd, fl, mo, cl, yr, c, tt, tp, us, od, it, ip, io, (fy_lo kind i f p e).2.1, (fy_lo kind i f p e).2.2.1, av, ap, (fy_lo kind i f p e).2.2.2.2.2, nt)) : wpY_logEvent post (yfc, ytc, yF, yT, yrf, yn, nI e.1, nI e.2.2.2.1, sc, pc, yd, fl, mo, cl, yr, c, tt, tp, us, od, it, ip, io, e.2.1, e.2.2.1, av, ap, e.2.2.2.2.2, nt) kind (nI i) (nI f) p := by
  unfold wpY_logEvent
  unfold fy_lo at h
  dsimp only at h
  refine br_f (nI_pos (by omega)) ?_
  by_cases z : e.1 < 256
  · rw [if_pos z] at h
    refine br_f (nI_ge (b := 256) z (by decide)) ⟨vp_in_nI z (by decide), nm_e (nm_e ?_)⟩
    rw [nI_clamp (by omega), nI_1]
    exact h
  · rw [if_neg z] at h
    refine br_t (nI_le (a := 256) (by omega) (by omega)) (nm_e ?_)
    rw [nI_1]
    exact h
theorem fz_al_on {F f p : Nat} {al av ap : Nat → Int32} (h : fz_al F al av ap) (hp : p < 3) : fz_al F (upd al f (nI p)) (upd av f 1) (upd ap f (nI p)) := by
  intro g hg
  by_cases z : g = f
  · subst z
    rw [pk_us, pk_us, pk_us]
    exact Or.inr ⟨rfl, fy_neg1 hp, rfl⟩
  · rw [pk_un z, pk_un z, pk_un z]
    exact h g hg
theorem fz_al_of {F f : Nat} {al av ap : Nat → Int32} (h : fz_al F al av ap) : fz_al F (upd al f (-1)) (upd av f 0) ap := by
  intro g hg
  by_cases z : g = f
  · subst z
    rw [pk_us, pk_us]
    exact Or.inl ⟨rfl, rfl⟩
  · rw [pk_un z, pk_un z]
    exact h g hg
theorem fz_su1 {post : SY → Prop} {F i : Nat} {D : Nat → Nat} (hF : F ≤ 12) (hi : i < 64) (hD : ∀ f, D f < 4) (hip : ∀ f, f < 12 → ip (i * 12 + f) = nI (D f) - 1) :
    ∀ (k f n b c0 : Nat) (e : fy_E) (av ap : Nat → Int32), f + k = F → k < n → fy_ok F b c0 e → b + k < 100000 → c0 + k < 100000 → fz_al F e.2.2.2.2.1 av ap →
    (∀ av ap : Nat → Int32, fz_al F (fy_su fl D i k f e).1.2.2.2.2.1 av ap → post (yfc, ytc, yF, yT, nI F, yn, nI ((fy_su fl D i k f e).1).1, nI ((fy_su fl D i k f e).1).2.2.2.1, sc, pc, yd, fl, mo, cl, yr, c, tt, tp, us, od, it, ip, upd io i (if (fy_su fl D i k f e).2 = true then 1 else 2), ((fy_su fl D i k f e).1).2.1, ((fy_su fl D i k f e).1).2.2.1, av, ap, ((fy_su fl D i k f e).1).2.2.2.2.2, nt)) →
    wY_setupItem_4 post (nI i) 1 n (nI f) yfc ytc yF yT (nI F) yn (nI e.1) (nI e.2.2.2.1) sc pc yd fl mo cl yr c tt tp us od it ip io (e.2.1) (e.2.2.1) av ap (e.2.2.2.2.2) nt := by
  have vi : vp_in (nI i) 64 := vp_in_nI hi (by decide)
  have ci : (nI i).toNatClampNeg = i := nI_clamp (by omega)
  intro k
  induction k with
  | zero =>
    intro f n b c0 e av ap hk hn ho hb hcc ha h
    obtain ⟨n, rfl⟩ : ∃ r, n = r + 1 := ⟨n - 1, by omega⟩
    have ef : f = F := by omega
    subst ef
    refine br_t (nI_le (Nat.le_refl _) (by omega)) ⟨vi, nm_e ?_⟩
    rw [ci]
    exact h av ap ha
  | succ k ih =>
    intro f n b c0 e av ap hk hn ho hb hcc ha h
    obtain ⟨n, rfl⟩ : ∃ r, n = r + 1 := ⟨n - 1, by omega⟩
    have vf : vp_in (nI f) 12 := vp_in_nI (by omega) (by decide)
    have cf : (nI f).toNatClampNeg = f := nI_clamp (by omega)
    have xa : nI i * 12 + nI f = nI (i * 12 + f) := by rw [← nI_add, ← pk_mul]; rfl
    have hd := hD f
    rw [fy_su] at h
    refine br_f (nI_ge (by omega) (by omega)) ?_
    rw [xa, nI_clamp (show i * 12 + f < 2 ^ 31 by omega), hip f (by omega), cf]
    refine ⟨vp_in_nI (by omega) (by decide), nm_e (fy_ge (D f) hd (fun z => nm_e ?_) (fun p hp hp3 => ?_))⟩
    · rw [if_pos (Or.inl z)] at h
      rw [nI_1]
      exact ih (f + 1) n b c0 e av ap (by omega) (by omega) ho (by omega) (by omega) ha h
    · rw [hp, fy_ms]
      rw [hp, Nat.add_sub_cancel] at h
      refine br_t (nI_le (b := 2) (by omega) (by decide)) ⟨vf, ?_⟩
      have join : ¬ e.2.2.2.2.1 f = nI p → wY_setupItem_62 post (wY_setupItem_4 post (nI i) 1 n) (nI i) 1 (nI f) (nI p) yfc ytc yF yT (nI F) yn (nI e.1) (nI e.2.2.2.1) sc pc yd fl mo cl yr c tt tp us od it ip io (e.2.1) (e.2.2.1) av ap (e.2.2.2.2.2) nt := by
        intro z
        rw [if_neg (fun q => q.elim (fun w => absurd w (Nat.succ_ne_zero p)) z)] at h
        have ho2 := fy_ok_sf (fl := fl) (i := i) (f := f) (p := p) ho hp3
        have vs : vp_in (nI (f * 3 + p)) 36 := vp_in_nI (by omega) (by decide)
        have cs : (nI (f * 3 + p)).toNatClampNeg = f * 3 + p := nI_clamp (by omega)
        have xs : nI f * 3 + nI p = nI (f * 3 + p) := by rw [← nI_add, ← pk_mul]; rfl
        unfold wY_setupItem_62
        refine nm_r xs ⟨vs, vs, nm_e ⟨vs, vs, ?_⟩⟩
        rw [cs, pk_us]
        unfold fy_sf at h ho2
        by_cases y : e.2.2.1 (f * 3 + p) + 1 = fl (f * 3 + p)
        · rw [if_pos y] at h
          refine br_t y (fz_log (e := fy_at f p e) (by have := ho.1; show e.1 < 100000; omega) ⟨vi, nm_e ?_⟩)
          rw [ci]
          exact h av ap ha
        · rw [if_neg y] at h ho2
          refine br_f y (fz_log (e := fy_at f p e) (by have := ho.1; show e.1 < 100000; omega) (nm_e ⟨vf, nm_e ⟨vf, nm_e ⟨vf, nm_e (nm_e ?_)⟩⟩⟩))
          rw [cf, nI_1, nI_1, fy_nr1]
          exact ih (f + 1) n (b + 1) (c0 + 1) _ _ _ (by omega) (by omega) ho2 (by omega) (by omega) (fz_al_on ha hp3) h
      rcases ha f (by omega) with ⟨a1, a2⟩ | ⟨a1, a2, a3⟩
      · exact br_t a1 (join (by rw [a2]; exact fun q => fy_neg1 hp3 q.symm))
      · refine br_f (by rw [a1]; decide) ⟨vf, ?_⟩
        by_cases z : e.2.2.2.2.1 f = nI p
        · rw [if_pos (Or.inr z)] at h
          refine br_t (by rw [a3, z]) (nm_e ?_)
          rw [nI_1]
          exact ih (f + 1) n b c0 e av ap (by omega) (by omega) ho (by omega) (by omega) ha h
        · exact br_f (by rw [a3]; exact z) (join z)
theorem fz_su {post : SY → Prop} {F i b c0 : Nat} {D : Nat → Nat} {e : fy_E} (hF : F ≤ 12) (hi : i < 64) (hD : ∀ f, D f < 4) (hip : ∀ f, f < 12 → ip (i * 12 + f) = nI (D f) - 1) (ho : fy_ok F b c0 e) (hb : b < 50000) (hcc : c0 < 50000) (ha : fz_al F e.2.2.2.2.1 av ap)
    (h : ∀ av ap : Nat → Int32, fz_al F (fy_su fl D i F 0 e).1.2.2.2.2.1 av ap → post (yfc, ytc, yF, yT, nI F, yn, nI ((fy_su fl D i F 0 e).1).1, nI ((fy_su fl D i F 0 e).1).2.2.2.1, sc, pc, yd, fl, mo, cl, yr, c, tt, tp, us, od, it, ip, upd io i (if (fy_su fl D i F 0 e).2 = true then 1 else 2), ((fy_su fl D i F 0 e).1).2.1, ((fy_su fl D i F 0 e).1).2.2.1, av, ap, ((fy_su fl D i F 0 e).1).2.2.2.2.2, nt)) : wpY_setupItem post (yfc, ytc, yF, yT, nI F, yn, nI e.1, nI e.2.2.2.1, sc, pc, yd, fl, mo, cl, yr, c, tt, tp, us, od, it, ip, io, e.2.1, e.2.2.1, av, ap, e.2.2.2.2.2, nt) (nI i) := by
  unfold wpY_setupItem
  exact ⟨F + 1, fz_su1 hF hi hD hip F 0 (F + 1) b c0 e av ap (by omega) (by omega) ho (by omega) (by omega) ha h⟩
theorem fz_hd1 {post : Int32 → Prop} {dp : Nat → Int32} {M : Nat → Bool} {g : Nat} (hg : g < 12) (hyd : ∀ f g, f < 12 → g < 12 → yd (f * 12 + g) = fy_bi (bt (dp f) g)) (hnt : ∀ d, d < g → nt d = fy_bi (M d))
    (h1 : (∃ d, d < g ∧ bt (dp g) d = true ∧ M d = true) → post 1) (h0 : (∀ d, d < g → ¬ (bt (dp g) d = true ∧ M d = true)) → post 0) :
    ∀ (k d n : Nat), d + k = g → k < n → (∀ x, x < d → ¬ (bt (dp g) x = true ∧ M x = true)) → wY_hasDepInT_2 post (nI g) yfc ytc yF yT yrf yn yev yst sc pc yd fl mo cl yr c tt tp us od it ip io lg att av ap so nt n (nI d) := by
  intro k
  induction k with
  | zero =>
    intro d n hk hn h
    obtain ⟨n, rfl⟩ : ∃ r, n = r + 1 := ⟨n - 1, by omega⟩
    have e : d = g := by omega
    subst e
    exact br_t (nI_le (Nat.le_refl _) (by omega)) (h0 h)
  | succ k ih =>
    intro d n hk hn h
    obtain ⟨n, rfl⟩ : ∃ r, n = r + 1 := ⟨n - 1, by omega⟩
    have vd : vp_in (nI d) 12 := vp_in_nI (by omega) (by decide)
    have cd : (nI d).toNatClampNeg = d := nI_clamp (by omega)
    have xa : nI g * 12 + nI d = nI (g * 12 + d) := by rw [← nI_add, ← pk_mul]; rfl
    have nx : ¬ (bt (dp g) d = true ∧ M d = true) → wY_hasDepInT_2 post (nI g) yfc ytc yF yT yrf yn yev yst sc pc yd fl mo cl yr c tt tp us od it ip io lg att av ap so nt n (nI d + 1) := by
      intro z
      rw [nI_1]
      refine ih (d + 1) n (by omega) (by omega) (fun x hx => ?_)
      by_cases e : x = d
      · subst e
        exact z
      · exact h x (by omega)
    refine br_f (nI_ge (by omega) (by omega)) (br_f (nI_ge (b := 12) (by omega) (by decide)) ?_)
    rw [xa, nI_clamp (show g * 12 + d < 2 ^ 31 by omega), hyd g d hg (by omega), cd, hnt d (by omega)]
    refine ⟨vp_in_nI (by omega) (by decide), fy_bi_z (fun y => nm_e (nx (fun q => by rw [y] at q; exact absurd q.1 (by decide)))) (fun y => ⟨vd, fy_bi_z (fun w => nm_e (nx (fun q => by rw [w] at q; exact absurd q.2 (by decide)))) (fun w => h1 ⟨d, by omega, y, w⟩)⟩)⟩
theorem fz_hd {post : Int32 → Prop} {dp : Nat → Int32} {M : Nat → Bool} {g : Nat} (hg : g < 12) (hyd : ∀ f g, f < 12 → g < 12 → yd (f * 12 + g) = fy_bi (bt (dp f) g)) (hnt : ∀ d, d < g → nt d = fy_bi (M d))
    (h1 : (∃ d, d < g ∧ bt (dp g) d = true ∧ M d = true) → post 1) (h0 : (∀ d, d < g → ¬ (bt (dp g) d = true ∧ M d = true)) → post 0) : wpY_hasDepInT post (yfc, ytc, yF, yT, yrf, yn, yev, yst, sc, pc, yd, fl, mo, cl, yr, c, tt, tp, us, od, it, ip, io, lg, att, av, ap, so, nt) (nI g) := by
  unfold wpY_hasDepInT
  exact ⟨g + 1, fz_hd1 hg hyd hnt h1 h0 g 0 (g + 1) (by omega) (by omega) (fun x hx => absurd hx (Nat.not_lt_zero x))⟩
end
