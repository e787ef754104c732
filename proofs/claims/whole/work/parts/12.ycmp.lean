/-! Y: comparing two slots, and choosing the least that is left -/
section
variable {yfc ytc yF yT yrf yn yev yst : Int32} {sc pc yd fl mo cl yr c tt tp us od it ip io lg att av ap so nt : Nat → Int32}
def fz_x (mo cl : Nat → Int32) (s : Int32) (t : Nat) : Int32 := if s = 0 then mo t else if s = 1 then cl t else nI t
theorem fz_c10 {post : Int32 → Prop} {J : Int32 → Prop} {s : Int32} {F a b ta tb ka kb : Nat} {P Q : Nat → Nat} (hF : F ≤ 12) (ha : a < 64) (hb : b < 64) (hta : tt a = nI ta) (htb : tt b = nI tb) (ba : ta < 16) (bb : tb < 16)
    (hPa : ∀ f, f < 12 → tp (a * 12 + f) = nI (P f) - 1) (hPb : ∀ f, f < 12 → tp (b * 12 + f) = nI (Q f) - 1) (hP : ∀ f, P f < 4) (hQ : ∀ f, Q f < 4)
    (hlt : fy_ap (fy_sl sc pc s) P ka F < fy_ap (fy_sl sc pc s) Q kb F → post (-1)) (hgt : fy_ap (fy_sl sc pc s) Q kb F < fy_ap (fy_sl sc pc s) P ka F → post 1)
    (heq : fy_ap (fy_sl sc pc s) P ka F = fy_ap (fy_sl sc pc s) Q kb F → wY_compare_172 post J (nI a) (nI b) s (fz_x mo cl s ta) (fz_x mo cl s tb) yfc ytc (nI F) yT yrf yn yev yst sc pc yd fl mo cl yr c tt tp us od it ip io lg att av ap so nt) :
    ∀ (k f n : Nat), f + k = F → k < n → fy_ap (fy_sl sc pc s) P ka f = fy_ap (fy_sl sc pc s) Q kb f → wY_compare_10 post J (nI a) (nI b) s yfc ytc (nI F) yT yrf yn yev yst sc pc yd fl mo cl yr c tt tp us od it ip io lg att av ap so nt n (nI f) := by
  have va : vp_in (nI a) 64 := vp_in_nI ha (by decide)
  have vb : vp_in (nI b) 64 := vp_in_nI hb (by decide)
  have vta : vp_in (nI ta) 16 := vp_in_nI ba (by decide)
  have vtb : vp_in (nI tb) 16 := vp_in_nI bb (by decide)
  have ca : (nI a).toNatClampNeg = a := nI_clamp (by omega)
  have cb : (nI b).toNatClampNeg = b := nI_clamp (by omega)
  have cta : (nI ta).toNatClampNeg = ta := nI_clamp (by omega)
  have ctb : (nI tb).toNatClampNeg = tb := nI_clamp (by omega)
  intro k
  induction k with
  | zero =>
    intro f n hk hn he
    obtain ⟨n, rfl⟩ : ∃ r, n = r + 1 := ⟨n - 1, by omega⟩
    have e : f = F := by omega
    subst e
    have H := heq he
    rw [wY_compare_10]
    simp only [ca, cb, hta, htb, cta, ctb]
    refine br_t (nI_le (Nat.le_refl _) (by omega)) ⟨va, nm_e ⟨vb, nm_e ?_⟩⟩
    unfold fz_x at H
    by_cases z : s = 0
    · rw [if_pos z, if_pos z] at H
      refine br_t z ⟨va, vta, nm_e ⟨vb, vtb, nm_e ?_⟩⟩
      unfold wY_compare_141
      exact br_f (fun y => by rw [z] at y; exact absurd y (by decide)) H
    · rw [if_neg z, if_neg z] at H
      refine br_f z ?_
      unfold wY_compare_141
      simp only [ca, cb, hta, htb, cta, ctb]
      by_cases y : s = 1
      · rw [if_pos y, if_pos y] at H
        exact br_t y ⟨va, vta, nm_e ⟨vb, vtb, nm_e H⟩⟩
      · rw [if_neg y, if_neg y] at H
        exact br_f y H
  | succ k ih =>
    intro f n hk hn he
    obtain ⟨n, rfl⟩ : ∃ r, n = r + 1 := ⟨n - 1, by omega⟩
    have hv2 : vp_in (nI f) 12 := vp_in_nI (by omega) (by decide)
    have hc2 : (nI f).toNatClampNeg = f := nI_clamp (by omega)
    have xa : nI a * 12 + nI f = nI (a * 12 + f) := by rw [← nI_add, ← pk_mul]; rfl
    have xb : nI b * 12 + nI f = nI (b * 12 + f) := by rw [← nI_add, ← pk_mul]; rfl
    have wa : vp_in (nI (a * 12 + f)) 768 := vp_in_nI (by omega) (by decide)
    have wb : vp_in (nI (b * 12 + f)) 768 := vp_in_nI (by omega) (by decide)
    have da : (nI (a * 12 + f)).toNatClampNeg = a * 12 + f := nI_clamp (by omega)
    have db : (nI (b * 12 + f)).toNatClampNeg = b * 12 + f := nI_clamp (by omega)
    have h1 := hP f
    have h2 := hQ f
    have s1 : fy_ap (fy_sl sc pc s) P ka (f + 1) = if fy_sl sc pc s f = true then fy_ap (fy_sl sc pc s) P ka f * 4 + P f else fy_ap (fy_sl sc pc s) P ka f := rfl
    have s2 : fy_ap (fy_sl sc pc s) Q kb (f + 1) = if fy_sl sc pc s f = true then fy_ap (fy_sl sc pc s) Q kb f * 4 + Q f else fy_ap (fy_sl sc pc s) Q kb f := rfl
    have skip : fy_sl sc pc s f = false → wY_compare_10 post J (nI a) (nI b) s yfc ytc (nI F) yT yrf yn yev yst sc pc yd fl mo cl yr c tt tp us od it ip io lg att av ap so nt n (nI f + 1) := by
      intro e
      rw [if_neg (by rw [e]; decide)] at s1 s2
      rw [nI_1]
      exact ih (f + 1) n (by omega) (by omega) (by rw [s1, s2, he])
    rw [wY_compare_10]
    simp only [hc2, xa, xb, da, db, hPa f (by omega), hPb f (by omega)]
    refine br_f (nI_ge (by omega) (by omega)) ⟨hv2, ?_⟩
    by_cases z2 : pc f < 1
    · exact br_t z2 (nm_e (skip (by unfold fy_sl; rw [decide_eq_false (p := 1 ≤ pc f) (by rw [Int32.not_le]; exact z2), Bool.and_false])))
    · refine br_f z2 ⟨hv2, ?_⟩
      by_cases z1 : sc f = s
      · have e : fy_sl sc pc s f = true := by unfold fy_sl; rw [decide_eq_true z1, decide_eq_true (p := 1 ≤ pc f) (Int32.not_lt.mp z2)]; rfl
        rw [if_pos e] at s1 s2
        refine br_t z1 ⟨wa, nm_e ⟨wb, nm_e ?_⟩⟩
        by_cases y : P f = Q f
        · refine br_t (by rw [y]) (nm_e ?_)
          rw [nI_1]
          exact ih (f + 1) n (by omega) (by omega) (by rw [s1, s2, he, y])
        · have dec : ∀ m l : Fin 4, m ≠ l → ¬ (nI m.val - 1 = nI l.val - 1) ∧ (nI l.val - 1 ≤ nI m.val - 1 ↔ l.val ≤ m.val) := by decide +kernel
          obtain ⟨d1, d2⟩ := dec ⟨P f, h1⟩ ⟨Q f, h2⟩ (fun q => y (congrArg Fin.val q))
          refine br_f d1 ?_
          by_cases w : Q f ≤ P f
          · exact br_t (d2.mpr w) (hgt (fy_ap_lt hQ (f := f + 1) (by omega) F (by omega)))
          · exact br_f (fun q => w (d2.mp q)) (hlt (fy_ap_lt hP (f := f + 1) (by omega) F (by omega)))
      · exact br_f z1 (nm_e (skip (by unfold fy_sl; rw [decide_eq_false z1, Bool.false_and])))
theorem fz_172 {post : Int32 → Prop} {J : Int32 → Prop} {s x1 x2 : Int32} {A B : Nat} (s' : Int32) (es : s + 1 = s') (hs : ¬ 3 ≤ s) (bA : A < 2 ^ 31) (bB : B < 2 ^ 31) (hlt : A < B → post (-1)) (hgt : B < A → post 1) (heq : A = B → J s') : wY_compare_172 post J x1 x2 s (nI A) (nI B) yfc ytc yF yT yrf yn yev yst sc pc yd fl mo cl yr c tt tp us od it ip io lg att av ap so nt := by
  unfold wY_compare_172
  refine br_f hs (pk_eq A B (fun e => nm_r es (heq e)) (fun e => pk_le B A (fun z => hgt (by omega)) (fun z => hlt z)))
theorem fz_cmp {post : Int32 → Prop} {F T a b ta tb : Nat} {P Q : Nat → Nat} (hF : F ≤ 12) (hT : T ≤ 16) (ha : a < 64) (hb : b < 64) (hta : tt a = nI ta) (htb : tt b = nI tb) (ba : ta < T) (bb : tb < T)
    (hPa : ∀ f, f < 12 → tp (a * 12 + f) = nI (P f) - 1) (hPb : ∀ f, f < 12 → tp (b * 12 + f) = nI (Q f) - 1) (hP : ∀ f, P f < 4) (hQ : ∀ f, Q f < 4) (hm : fy_nb mo T 3) (hc : fy_nb cl T 3)
    (h : post (fy_cp (fy_ky sc pc F (fy_n mo ta) (fy_n cl ta) ta P) (fy_ky sc pc F (fy_n mo tb) (fy_n cl tb) tb Q))) : wpY_compare post (yfc, ytc, nI F, yT, yrf, yn, yev, yst, sc, pc, yd, fl, mo, cl, yr, c, tt, tp, us, od, it, ip, io, lg, att, av, ap, so, nt) (nI a) (nI b) := by
  obtain ⟨ma, na⟩ := hm ta ba
  obtain ⟨mb, nb⟩ := hm tb bb
  obtain ⟨ca, da⟩ := hc ta ba
  obtain ⟨cb, db⟩ := hc tb bb
  unfold fy_ky at h
  have Lt : fy_ap (fy_sl sc pc 3) P (fy_ap (fy_sl sc pc 2) P (fy_ap (fy_sl sc pc 1) P (fy_ap (fy_sl sc pc 0) P 0 F * 4 + fy_n mo ta) F * 4 + fy_n cl ta) F * 16 + ta) F < fy_ap (fy_sl sc pc 3) Q (fy_ap (fy_sl sc pc 2) Q (fy_ap (fy_sl sc pc 1) Q (fy_ap (fy_sl sc pc 0) Q 0 F * 4 + fy_n mo tb) F * 4 + fy_n cl tb) F * 16 + tb) F → post (-1) := fun z => by unfold fy_cp at h; rw [if_pos z] at h; exact h
  have Gt : fy_ap (fy_sl sc pc 3) Q (fy_ap (fy_sl sc pc 2) Q (fy_ap (fy_sl sc pc 1) Q (fy_ap (fy_sl sc pc 0) Q 0 F * 4 + fy_n mo tb) F * 4 + fy_n cl tb) F * 16 + tb) F < fy_ap (fy_sl sc pc 3) P (fy_ap (fy_sl sc pc 2) P (fy_ap (fy_sl sc pc 1) P (fy_ap (fy_sl sc pc 0) P 0 F * 4 + fy_n mo ta) F * 4 + fy_n cl ta) F * 16 + ta) F → post 1 := fun z => by unfold fy_cp at h; rw [if_neg (by omega), if_pos z] at h; exact h
  have Eq : fy_ap (fy_sl sc pc 3) P (fy_ap (fy_sl sc pc 2) P (fy_ap (fy_sl sc pc 1) P (fy_ap (fy_sl sc pc 0) P 0 F * 4 + fy_n mo ta) F * 4 + fy_n cl ta) F * 16 + ta) F = fy_ap (fy_sl sc pc 3) Q (fy_ap (fy_sl sc pc 2) Q (fy_ap (fy_sl sc pc 1) Q (fy_ap (fy_sl sc pc 0) Q 0 F * 4 + fy_n mo tb) F * 4 + fy_n cl tb) F * 16 + tb) F → post 0 := fun z => by unfold fy_cp at h; rw [if_neg (by omega), if_neg (by omega)] at h; exact h
  clear h
  generalize e0 : fy_ap (fy_sl sc pc 0) P 0 F = A0 at *
  generalize f0 : fy_ap (fy_sl sc pc 0) Q 0 F = B0 at *
  generalize e1 : fy_ap (fy_sl sc pc 1) P (A0 * 4 + fy_n mo ta) F = A1 at *
  generalize f1 : fy_ap (fy_sl sc pc 1) Q (B0 * 4 + fy_n mo tb) F = B1 at *
  generalize e2 : fy_ap (fy_sl sc pc 2) P (A1 * 4 + fy_n cl ta) F = A2 at *
  generalize f2 : fy_ap (fy_sl sc pc 2) Q (B1 * 4 + fy_n cl tb) F = B2 at *
  have l5 : A2 * 16 + ta < B2 * 16 + tb → post (-1) := fun z => Lt (fy_ap_st hP z F)
  have g5 : B2 * 16 + tb < A2 * 16 + ta → post 1 := fun z => Gt (fy_ap_st hQ z F)
  have l3 : A1 * 4 + fy_n cl ta < B1 * 4 + fy_n cl tb → post (-1) := fun z => l5 (by have := fy_ap_st (sel := fy_sl sc pc 2) (Q := Q) hP z F; omega)
  have g3 : B1 * 4 + fy_n cl tb < A1 * 4 + fy_n cl ta → post 1 := fun z => g5 (by have := fy_ap_st (sel := fy_sl sc pc 2) (Q := P) hQ z F; omega)
  have l1 : A0 * 4 + fy_n mo ta < B0 * 4 + fy_n mo tb → post (-1) := fun z => l3 (by have := fy_ap_st (sel := fy_sl sc pc 1) (Q := Q) hP z F; omega)
  have g1 : B0 * 4 + fy_n mo tb < A0 * 4 + fy_n mo ta → post 1 := fun z => g3 (by have := fy_ap_st (sel := fy_sl sc pc 1) (Q := P) hQ z F; omega)
  unfold wpY_compare
  refine ⟨5, br_f (by decide) ⟨F + 1, fz_c10 (ka := 0) (kb := 0) hF ha hb hta htb (by omega) (by omega) hPa hPb hP hQ (fun z => l1 (by omega)) (fun z => g1 (by omega)) (fun z => ?_) F 0 (F + 1) (by omega) (by omega) rfl⟩⟩
  have z0 : A0 = B0 := by omega
  rw [show fz_x mo cl 0 ta = nI (fy_n mo ta) from ma, show fz_x mo cl 0 tb = nI (fy_n mo tb) from mb]
  refine fz_172 1 (by decide) (by decide) (by omega) (by omega) (fun y => l1 (by omega)) (fun y => g1 (by omega)) (fun m1 => ?_)
  refine br_f (by decide) ⟨F + 1, fz_c10 (ka := A0 * 4 + fy_n mo ta) (kb := B0 * 4 + fy_n mo tb) hF ha hb hta htb (by omega) (by omega) hPa hPb hP hQ (fun z => l3 (by omega)) (fun z => g3 (by omega)) (fun z => ?_) F 0 (F + 1) (by omega) (by omega) (show A0 * 4 + fy_n mo ta = B0 * 4 + fy_n mo tb by omega)⟩
  have z1 : A1 = B1 := by omega
  rw [show fz_x mo cl 1 ta = nI (fy_n cl ta) from ca, show fz_x mo cl 1 tb = nI (fy_n cl tb) from cb]
  refine fz_172 2 (by decide) (by decide) (by omega) (by omega) (fun y => l3 (by omega)) (fun y => g3 (by omega)) (fun m2 => ?_)
  refine br_f (by decide) ⟨F + 1, fz_c10 (ka := A1 * 4 + fy_n cl ta) (kb := B1 * 4 + fy_n cl tb) hF ha hb hta htb (by omega) (by omega) hPa hPb hP hQ (fun z => l5 (by omega)) (fun z => g5 (by omega)) (fun z => ?_) F 0 (F + 1) (by omega) (by omega) (show A1 * 4 + fy_n cl ta = B1 * 4 + fy_n cl tb by omega)⟩
  have z2 : A2 = B2 := by omega
  rw [show fz_x mo cl 2 ta = nI ta from rfl, show fz_x mo cl 2 tb = nI tb from rfl]
  refine fz_172 3 (by decide) (by decide) (by omega) (by omega) (fun y => l5 (by omega)) (fun y => g5 (by omega)) (fun m3 => ?_)
  refine br_f (by decide) ⟨F + 1, fz_c10 (ka := A2 * 16 + ta) (kb := B2 * 16 + tb) hF ha hb hta htb (by omega) (by omega) hPa hPb hP hQ Lt Gt (fun z => ?_) F 0 (F + 1) (by omega) (by omega) (show A2 * 16 + ta = B2 * 16 + tb by omega)⟩
  unfold wY_compare_172
  exact br_t (by decide) (nm_e (br_t (by decide) (Eq z)))
end
