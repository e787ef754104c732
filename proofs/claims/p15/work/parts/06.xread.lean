/-! X: methods that only read, each against its pure picture -/
section
variable {xfc xtc xF xT xn xev xst : Int32} {sc pc dp fl mo cl rq te pa oc lg att al so : Nat → Int32} {ke : Nat → Int64}
theorem fx_has {post : Int32 → Prop} {x : Int32} {f : Nat} (hf : f < 32) (h : post (fy_bi (bt x f))) : wpX_contains post () x (nI f) := by
  unfold wpX_contains
  cases hb : bt x f
  · rw [hb] at h
    exact br_t ((fy_has x hf).mpr hb) h
  · rw [hb] at h
    exact br_f (fun z => by rw [(fy_has x hf).mp z] at hb; exact absurd hb (by decide)) h
theorem fx_slot {post : Int32 → Prop} {f p : Nat} (h : post (nI (f * 3 + p))) : wpX_slotOf post () (nI f) (nI p) := by
  unfold wpX_slotOf
  rw [← nI_add, ← pk_mul] at h
  exact h
theorem fx_pin {post : Int32 → Prop} {D : Nat → Nat} {f : Nat} (hD : ∀ f, D f < 4) (hf : f < 12) (h : post (nI (D f) - 1)) : wpX_paramIn post () (nI (fy_en D 12)) (nI f) := by
  unfold wpX_paramIn
  have h1 := fy_en_lt (P := D) (n := 12) (fun f _ => hD f)
  have h2 : (4 : Nat) ^ 12 = 16777216 := by decide
  rw [fy_pin (by omega) hf, fy_en_dg (fun f _ => hD f) hf]
  exact h
theorem fx_isF {post : Int32 → Prop} {x : Int32} {F : Nat} (hF : F ≤ 12) (h0 : (x < 0 ∨ nI F ≤ x) → post 0) (h1 : ∀ f, f < F → x = nI f → post 1) : wpX_isFixture post (xfc, xtc, nI F, xT, xn, xev, xst, sc, pc, dp, fl, mo, cl, rq, te, pa, ke, oc, lg, att, al, so) x := by
  unfold wpX_isFixture
  rcases pk_ix x (n := F) (by omega) with z | z | ⟨f, hf, rfl⟩
  · exact br_t z (h0 (Or.inl z))
  · by_cases z0 : x < 0
    · exact br_t z0 (h0 (Or.inl z0))
    · exact br_f z0 (br_t z (h0 (Or.inr z)))
  · exact br_f (nI_pos (by omega)) (br_f (nI_ge hf (by omega)) (h1 f hf rfl))
theorem fx_isI {post : Int32 → Prop} {x : Int32} {n : Nat} (hn : n ≤ 64) (h0 : (x < 0 ∨ nI n ≤ x) → post 0) (h1 : ∀ f, f < n → x = nI f → post 1) : wpX_isItem post (xfc, xtc, xF, xT, nI n, xev, xst, sc, pc, dp, fl, mo, cl, rq, te, pa, ke, oc, lg, att, al, so) x := by
  unfold wpX_isItem
  rcases pk_ix x (n := n) (by omega) with z | z | ⟨f, hf, rfl⟩
  · exact br_t z (h0 (Or.inl z))
  · by_cases z0 : x < 0
    · exact br_t z0 (h0 (Or.inl z0))
    · exact br_f z0 (br_t z (h0 (Or.inr z)))
  · exact br_f (nI_pos (by omega)) (br_f (nI_ge hf (by omega)) (h1 f hf rfl))
theorem fx_vc {post : Int32 → Prop} {F f : Nat} (hF : F ≤ 12) (hp : fy_nb pc F 3) (hf : f < F) (h : post (nI (fy_vl pc f))) : wpX_valueCount post (xfc, xtc, xF, xT, xn, xev, xst, sc, pc, dp, fl, mo, cl, rq, te, pa, ke, oc, lg, att, al, so) (nI f) := by
  unfold wpX_valueCount
  obtain ⟨e, hb⟩ := hp f hf
  have hi : vp_in (nI f) 12 := vp_in_nI (by omega) (by decide)
  have hc : (nI f).toNatClampNeg = f := nI_clamp (by omega)
  unfold fy_vl at h
  by_cases z : fy_n pc f = 0
  · rw [if_pos z] at h
    refine ⟨hi, ?_⟩
    rw [hc]
    refine br_t ?_ h
    rw [e, z]
    decide
  · rw [if_neg z] at h
    refine ⟨hi, ?_⟩
    rw [hc]
    refine br_f ?_ ⟨hi, ?_⟩
    · rw [e]
      exact nI_nlt (b := 1) (by omega) (by omega)
    · rw [e]
      exact h
theorem fx_cl1 {post : Int32 → Prop} {F : Nat} (hF : F ≤ 12) : ∀ (m n : Nat) (x : Int32), m ≤ F → m < n → post (fy_go dp m x) → wX_closureOf_14 post xfc xtc (nI F) xT xn xev xst sc pc dp fl mo cl rq te pa ke oc lg att al so n x (nI m + (-1)) := by
  intro m
  induction m with
  | zero =>
    intro n x _ hn h
    obtain ⟨n, rfl⟩ : ∃ q, n = q + 1 := ⟨n - 1, by omega⟩
    exact br_t (by decide) h
  | succ m ih =>
    intro n x hm hn h
    obtain ⟨n, rfl⟩ : ∃ q, n = q + 1 := ⟨n - 1, by omega⟩
    rw [pk_m1]
    refine br_f (nI_pos (by omega)) (fx_has (by omega) ?_)
    rw [fy_go] at h
    refine fy_bi_z (fun hb => nm_e ?_) (fun hb => ⟨vp_in_nI (by omega) (by decide), nm_e (nm_e ?_)⟩)
    · rw [if_neg (by rw [hb]; decide)] at h
      exact ih n x (by omega) (by omega) h
    · rw [if_pos hb] at h
      rw [nI_clamp (by omega)]
      exact ih n _ (by omega) (by omega) h
theorem fx_m1 (x : Int32) : x - 1 = x + (-1) := Int32.sub_eq_add_neg x 1
theorem fx_clo {post : Int32 → Prop} {F t : Nat} (hF : F ≤ 12) (ht : t < 16) (h : post (fy_go dp F (rq t))) : wpX_closureOf post (xfc, xtc, nI F, xT, xn, xev, xst, sc, pc, dp, fl, mo, cl, rq, te, pa, ke, oc, lg, att, al, so) (nI t) := by
  unfold wpX_closureOf
  refine ⟨vp_in_nI ht (by decide), nm_e (nm_e ⟨F + 1, ?_⟩)⟩
  rw [nI_clamp (by omega), fx_m1]
  exact fx_cl1 hF F (F + 1) _ (Nat.le_refl F) (by omega) h
theorem fx_ct1 {post : Int32 → Prop} {F : Nat} {C : Int32} (hF : F ≤ 12) (hp : fy_nb pc F 3) : ∀ (k f n : Nat), f + k = F → k < n → post (nI (fy_ct C pc F)) → wX_countItems_4 post C xfc xtc (nI F) xT xn xev xst sc pc dp fl mo cl rq te pa ke oc lg att al so n (nI (fy_ct C pc f)) (nI f) := by
  intro k
  induction k with
  | zero =>
    intro f n hk hn h
    obtain ⟨n, rfl⟩ : ∃ q, n = q + 1 := ⟨n - 1, by omega⟩
    have e : f = F := by omega
    subst e
    exact br_t (nI_le (Nat.le_refl _) (by omega)) h
  | succ k ih =>
    intro f n hk hn h
    obtain ⟨n, rfl⟩ : ∃ q, n = q + 1 := ⟨n - 1, by omega⟩
    have hi := ih (f + 1) n (by omega) (by omega) h
    rw [fy_ct] at hi
    refine br_f (nI_ge (by omega) (by omega)) (fx_has (by omega) ?_)
    refine fy_bi_z (fun hb => nm_e ?_) (fun hb => fx_vc hF hp (by omega) (nm_e (nm_e ?_)))
    · rw [if_neg (by rw [hb]; decide)] at hi
      rw [nI_1]
      exact hi
    · rw [if_pos hb] at hi
      rw [nI_1, pk_mul]
      exact hi
theorem fx_ct {post : Int32 → Prop} {F : Nat} {C : Int32} (hF : F ≤ 12) (hp : fy_nb pc F 3) (h : post (nI (fy_ct C pc F))) : wpX_countItems post (xfc, xtc, nI F, xT, xn, xev, xst, sc, pc, dp, fl, mo, cl, rq, te, pa, ke, oc, lg, att, al, so) C := by
  unfold wpX_countItems
  exact ⟨F + 1, fx_ct1 hF hp F 0 (F + 1) (by omega) (by omega) h⟩
def fx_g (dp rq pc : Nat → Int32) (F t : Nat) : Nat := fy_ct (fy_go dp F (rq t)) pc F
theorem fx_ca1 {post : Int32 → Prop} {F T : Nat} (hF : F ≤ 12) (hT : T ≤ 16) (hp : fy_nb pc F 3) : ∀ (k t n : Nat), t + k = T → k < n → post (nI (fy_tt (fx_g dp rq pc F) T)) → wX_countAllItems_4 post xfc xtc (nI F) (nI T) xn xev xst sc pc dp fl mo cl rq te pa ke oc lg att al so n (nI (fy_tt (fx_g dp rq pc F) t)) (nI t) := by
  intro k
  induction k with
  | zero =>
    intro t n hk hn h
    obtain ⟨n, rfl⟩ : ∃ q, n = q + 1 := ⟨n - 1, by omega⟩
    have e : t = T := by omega
    subst e
    exact br_t (nI_le (Nat.le_refl _) (by omega)) h
  | succ k ih =>
    intro t n hk hn h
    obtain ⟨n, rfl⟩ : ∃ q, n = q + 1 := ⟨n - 1, by omega⟩
    have hi := ih (t + 1) n (by omega) (by omega) h
    rw [fy_tt] at hi
    refine br_f (nI_ge (by omega) (by omega)) (fx_clo hF (by omega) (fx_ct hF hp (nm_e (nm_e ?_))))
    rw [nI_1, nI_add]
    exact hi
theorem fx_ca {post : Int32 → Prop} {F T : Nat} (hF : F ≤ 12) (hT : T ≤ 16) (hp : fy_nb pc F 3) (h : post (nI (fy_tt (fx_g dp rq pc F) T))) : wpX_countAllItems post (xfc, xtc, nI F, nI T, xn, xev, xst, sc, pc, dp, fl, mo, cl, rq, te, pa, ke, oc, lg, att, al, so) := by
  unfold wpX_countAllItems
  exact ⟨T + 1, fx_ca1 hF hT hp T 0 (T + 1) (by omega) (by omega) h⟩
theorem fx_as1 {post : Int32 → Prop} {F m : Nat} {C : Int32} (hF : F ≤ 12) (hm : m < 2 ^ 31) (hp : fy_nb pc F 3) : ∀ (k f n : Nat), f + k = F → k < n → post (nI (fy_en (fy_dg C pc F m) F)) → wX_assignment_8 post C xfc xtc (nI F) xT xn xev xst sc pc dp fl mo cl rq te pa ke oc lg att al so n (nI (fy_en (fy_dg C pc F m) f)) (nI (fy_rs C pc m f)) (nI f) := by
  intro k
  induction k with
  | zero =>
    intro f n hk hn h
    obtain ⟨n, rfl⟩ : ∃ q, n = q + 1 := ⟨n - 1, by omega⟩
    have e : f = F := by omega
    subst e
    exact br_t (nI_le (Nat.le_refl _) (by omega)) h
  | succ k ih =>
    intro f n hk hn h
    obtain ⟨n, rfl⟩ : ∃ q, n = q + 1 := ⟨n - 1, by omega⟩
    have hi := ih (f + 1) n (by omega) (by omega) h
    rw [fy_rs, fy_en] at hi
    have hl := fy_en_lt (P := fy_dg C pc F m) (n := f) (fun g _ => fy_dg_4 hp m g)
    have hr := fy_rs_le C pc m f
    obtain ⟨v1, v2⟩ := fy_vl_b hp (show f < F by omega)
    refine br_f (nI_ge (by omega) (by omega)) (fx_has (by omega) ?_)
    refine fy_bi_z (fun hb => nm_e ?_) (fun hb => fx_vc hF hp (by omega) ?_)
    · have e : fy_dg C pc F m f = 0 := by unfold fy_dg; rw [if_neg (by rw [hb]; simp)]
      rw [if_neg (by rw [hb]; decide), e, Nat.zero_mul, Nat.add_zero] at hi
      rw [nI_1]
      exact hi
    · have e : fy_dg C pc F m f = fy_rs C pc m f % fy_vl pc f + 1 := if_pos ⟨by omega, hb⟩
      have e2 := fy_dg_4 (C := C) hp m f
      rw [if_pos hb] at hi
      refine ⟨nI_ne0 v1 (by omega), nm_e ⟨nI_ne0 v1 (by omega), nm_e (nm_e ?_)⟩⟩
      rw [pk_rem (by omega) v1 (by omega), pk_div (by omega) v1 (by omega), nI_1, nI_1, ← e, fy_put hl e2 (by omega)]
      exact hi
theorem fx_as {post : Int32 → Prop} {F m : Nat} {C : Int32} (hF : F ≤ 12) (hm : m < 2 ^ 31) (hp : fy_nb pc F 3) (h : post (nI (fy_en (fy_dg C pc F m) 12))) : wpX_assignment post (xfc, xtc, nI F, xT, xn, xev, xst, sc, pc, dp, fl, mo, cl, rq, te, pa, ke, oc, lg, att, al, so) C (nI m) := by
  unfold wpX_assignment
  rw [fy_en_ext (fun f hf => fy_dg_0 hf) hF] at h
  exact ⟨F + 1, fx_as1 hF hm hp F 0 (F + 1) (by omega) (by omega) h⟩
theorem fx_ap1 {post : Int64 → Prop} {F k0 : Nat} {s : Int32} {D : Nat → Nat} (hF : F ≤ 12) (hD : ∀ f, D f < 4) : ∀ (k f n : Nat), f + k = F → k < n → post (lN (fy_ap (fy_sl sc pc s) D k0 F)) → wX_appendParams_6 post s (nI (fy_en D 12)) xfc xtc (nI F) xT xn xev xst sc pc dp fl mo cl rq te pa ke oc lg att al so n (lN (fy_ap (fy_sl sc pc s) D k0 f)) (nI f) := by
  intro k
  induction k with
  | zero =>
    intro f n hk hn h
    obtain ⟨n, rfl⟩ : ∃ q, n = q + 1 := ⟨n - 1, by omega⟩
    have e : f = F := by omega
    subst e
    exact br_t (nI_le (Nat.le_refl _) (by omega)) h
  | succ k ih =>
    intro f n hk hn h
    obtain ⟨n, rfl⟩ : ∃ q, n = q + 1 := ⟨n - 1, by omega⟩
    have hi := ih (f + 1) n (by omega) (by omega) h
    rw [fy_ap] at hi
    have hv : vp_in (nI f) 12 := vp_in_nI (by omega) (by decide)
    have hc : (nI f).toNatClampNeg = f := nI_clamp (by omega)
    refine br_f (nI_ge (by omega) (by omega)) ⟨hv, ?_⟩
    rw [hc]
    by_cases z1 : sc f = s
    · refine br_t z1 ⟨hv, ?_⟩
      by_cases z2 : pc f < 1
      · have e : fy_sl sc pc s f = false := by unfold fy_sl; rw [decide_eq_false (p := 1 ≤ pc f) (by rw [Int32.not_le]; exact z2), Bool.and_false]
        rw [if_neg (by rw [e]; decide)] at hi
        refine br_t z2 (nm_e ?_)
        rw [nI_1]
        exact hi
      · have e : fy_sl sc pc s f = true := by unfold fy_sl; rw [decide_eq_true z1, decide_eq_true (p := 1 ≤ pc f) (Int32.not_lt.mp z2)]; rfl
        rw [if_pos e] at hi
        refine br_f z2 (fx_pin hD (by omega) (nm_e (nm_e ?_)))
        rw [nI_1, show nI (D f) - 1 + 1 = nI (D f) by grind, nI_l (by have := hD f; omega), fy_shL2, fy_orL _ _ (hD f)]
        exact hi
    · have e : fy_sl sc pc s f = false := by unfold fy_sl; rw [decide_eq_false z1, Bool.false_and]
      rw [if_neg (by rw [e]; decide)] at hi
      refine br_f z1 (nm_e ?_)
      rw [nI_1]
      exact hi
theorem fx_ap {post : Int64 → Prop} {F k0 : Nat} {s : Int32} {D : Nat → Nat} (hF : F ≤ 12) (hD : ∀ f, D f < 4) (h : post (lN (fy_ap (fy_sl sc pc s) D k0 F))) : wpX_appendParams post (xfc, xtc, nI F, xT, xn, xev, xst, sc, pc, dp, fl, mo, cl, rq, te, pa, ke, oc, lg, att, al, so) (lN k0) s (nI (fy_en D 12)) := by
  unfold wpX_appendParams
  exact ⟨F + 1, fx_ap1 hF hD F 0 (F + 1) (by omega) (by omega) h⟩
theorem fx_key {post : Int64 → Prop} {F T t : Nat} {D : Nat → Nat} (hF : F ≤ 12) (hT : T ≤ 16) (ht : t < T) (hm : fy_nb mo T 3) (hc : fy_nb cl T 3) (hD : ∀ f, D f < 4) (h : post (lN (fy_ky sc pc F (fy_n mo t) (fy_n cl t) t D))) : wpX_sortKey post (xfc, xtc, nI F, xT, xn, xev, xst, sc, pc, dp, fl, mo, cl, rq, te, pa, ke, oc, lg, att, al, so) (nI t) (nI (fy_en D 12)) := by
  unfold wpX_sortKey
  obtain ⟨e1, b1⟩ := hm t ht
  obtain ⟨e2, b2⟩ := hc t ht
  have hv : vp_in (nI t) 16 := vp_in_nI (by omega) (by decide)
  have hcl : (nI t).toNatClampNeg = t := nI_clamp (by omega)
  refine fx_ap (k0 := 0) hF hD ⟨hv, nm_e ?_⟩
  rw [hcl, e1, nI_l (n := fy_n mo t) (by omega), fy_shL2, fy_orL _ _ (by omega)]
  refine fx_ap hF hD ⟨hv, nm_e ?_⟩
  rw [e2, nI_l (n := fy_n cl t) (by omega), fy_shL2, fy_orL _ _ (by omega)]
  refine fx_ap hF hD (nm_e ?_)
  rw [nI_l (n := t) (by omega), fy_shL4, fy_orL4 _ _ (by omega)]
  exact fx_ap hF hD h
end
