/-! X: collecting and sorting -/
section
variable {xfc xtc xF xT xn xev xst : Int32} {sc pc dp fl mo cl rq te pa oc lg att al so : Nat → Int32} {ke : Nat → Int64}
/-- the test, the digits and the key of slot j -/
def fx_tj (dp rq pc : Nat → Int32) (F T j : Nat) : Nat := fy_tf (fx_g dp rq pc F) T j
def fx_dj (dp rq pc : Nat → Int32) (F T j : Nat) : Nat → Nat := fy_dg (fy_go dp F (rq (fx_tj dp rq pc F T j))) pc F (j - fy_tt (fx_g dp rq pc F) (fx_tj dp rq pc F T j))
def fx_kj (sc pc dp mo cl rq : Nat → Int32) (F T j : Nat) : Nat := fy_ky sc pc F (fy_n mo (fx_tj dp rq pc F T j)) (fy_n cl (fx_tj dp rq pc F T j)) (fx_tj dp rq pc F T j) (fx_dj dp rq pc F T j)
theorem fx_tj_e {dp rq pc : Nat → Int32} {F T t q : Nat} (ht : t < T) (hq : q < fx_g dp rq pc F t) : fx_tj dp rq pc F T (fy_tt (fx_g dp rq pc F) t + q) = t := fy_tf_e T ht hq
theorem fx_dj_e {dp rq pc : Nat → Int32} {F T t q : Nat} (ht : t < T) (hq : q < fx_g dp rq pc F t) : fx_dj dp rq pc F T (fy_tt (fx_g dp rq pc F) t + q) = fy_dg (fy_go dp F (rq t)) pc F q := by
  unfold fx_dj
  rw [fx_tj_e ht hq, Nat.add_sub_cancel_left]
theorem fx_kj_e {sc pc dp mo cl rq : Nat → Int32} {F T t q : Nat} (ht : t < T) (hq : q < fx_g dp rq pc F t) : fx_kj sc pc dp mo cl rq F T (fy_tt (fx_g dp rq pc F) t + q) = fy_ky sc pc F (fy_n mo t) (fy_n cl t) t (fy_dg (fy_go dp F (rq t)) pc F q) := by
  unfold fx_kj
  rw [fx_tj_e ht hq, fx_dj_e ht hq]
theorem fx_dj_4 {dp rq pc : Nat → Int32} {F T : Nat} (hp : fy_nb pc F 3) (j f : Nat) : fx_dj dp rq pc F T j f < 4 := fy_dg_4 hp _ f
theorem fx_dj_0 {dp rq pc : Nat → Int32} {F T j f : Nat} (h : F ≤ f) : fx_dj dp rq pc F T j f = 0 := fy_dg_0 h
/-- the first m slots hold what they ought to -/
def fx_col (sc pc dp mo cl rq : Nat → Int32) (F T m : Nat) (te pa : Nat → Int32) (ke : Nat → Int64) : Prop := ∀ j, j < m → te j = nI (fx_tj dp rq pc F T j) ∧ pa j = nI (fy_en (fx_dj dp rq pc F T j) 12) ∧ ke j = lN (fx_kj sc pc dp mo cl rq F T j)
theorem fx_col_s {F T m : Nat} (h : fx_col sc pc dp mo cl rq F T m te pa ke) {x y : Int32} {z : Int64} (h1 : x = nI (fx_tj dp rq pc F T m)) (h2 : y = nI (fy_en (fx_dj dp rq pc F T m) 12)) (h3 : z = lN (fx_kj sc pc dp mo cl rq F T m)) : fx_col sc pc dp mo cl rq F T (m + 1) (upd te m x) (upd pa m y) (vp_updL ke m z) := by
  intro j hj
  by_cases e : j = m
  · subst e
    rw [pk_us, pk_us, pk_uLs]
    exact ⟨h1, h2, h3⟩
  · rw [pk_un e, pk_un e, pk_uLn e]
    exact h j (by omega)
theorem fx_co2 {post : St2 → Prop} {J : Int32 → Int32 → (Nat → Int32) → (Nat → Int32) → (Nat → Int32) → (Nat → Int32) → (Nat → Int32) → (Nat → Int32) → (Nat → Int32) → (Nat → Int32) → (Nat → Int32) → (Nat → Int64) → (Nat → Int32) → (Nat → Int32) → (Nat → Int32) → (Nat → Int32) → (Nat → Int32) → Prop} {F T t : Nat} (hF : F ≤ 12) (hT : T ≤ 16) (ht : t < T) (hp : fy_nb pc F 3) (hm : fy_nb mo T 3) (hc : fy_nb cl T 3) (hN : fy_tt (fx_g dp rq pc F) (t + 1) ≤ 64)
    (hJ : ∀ (te pa : Nat → Int32) (ke : Nat → Int64), fx_col sc pc dp mo cl rq F T (fy_tt (fx_g dp rq pc F) (t + 1)) te pa ke → J (nI (t + 1)) (nI (fy_tt (fx_g dp rq pc F) (t + 1))) sc pc dp fl mo cl rq te pa ke oc lg att al so) :
    ∀ (k q n : Nat) (te pa : Nat → Int32) (ke : Nat → Int64), q + k = fx_g dp rq pc F t → k < n → fx_col sc pc dp mo cl rq F T (fy_tt (fx_g dp rq pc F) t + q) te pa ke →
    wX_collectItems_30 post J (nI t) (fy_go dp F (rq t)) (nI (fx_g dp rq pc F t)) xfc xtc (nI F) (nI T) xev xst n (nI q) (nI (fy_tt (fx_g dp rq pc F) t + q)) sc pc dp fl mo cl rq te pa ke oc lg att al so := by
  intro k
  induction k with
  | zero =>
    intro q n te pa ke hk hn h
    obtain ⟨n, rfl⟩ : ∃ r, n = r + 1 := ⟨n - 1, by omega⟩
    have e : q = fx_g dp rq pc F t := by omega
    subst e
    have hg : fx_g dp rq pc F t ≤ 531441 := Nat.le_trans (fy_ct_b hp F (Nat.le_refl F)).2 (fy_3p hF)
    refine br_t (nI_le (Nat.le_refl _) (by omega)) (nm_e ?_)
    rw [nI_1]
    exact hJ te pa ke h
  | succ k ih =>
    intro q n te pa ke hk hn h
    obtain ⟨n, rfl⟩ : ∃ r, n = r + 1 := ⟨n - 1, by omega⟩
    have hg : fx_g dp rq pc F t ≤ 531441 := Nat.le_trans (fy_ct_b hp F (Nat.le_refl F)).2 (fy_3p hF)
    have hq : q < fx_g dp rq pc F t := by omega
    have hN2 : fy_tt (fx_g dp rq pc F) (t + 1) = fy_tt (fx_g dp rq pc F) t + fx_g dp rq pc F t := rfl
    have hv : vp_in (nI (fy_tt (fx_g dp rq pc F) t + q)) 64 := vp_in_nI (by omega) (by decide)
    have hcl : (nI (fy_tt (fx_g dp rq pc F) t + q)).toNatClampNeg = fy_tt (fx_g dp rq pc F) t + q := nI_clamp (by omega)
    refine br_f (nI_ge hq (by omega)) (fx_as hF (by omega) hp ⟨hv, nm_e ⟨hv, nm_e ?_⟩⟩)
    refine fx_key hF hT ht hm hc (fun f => fy_dg_4 hp q f) ⟨hv, nm_e (nm_e (nm_e ?_))⟩
    rw [hcl, nI_1, nI_1]
    refine ih (q + 1) n _ _ _ (by omega) (by omega) (fx_col_s h ?_ ?_ ?_)
    · rw [fx_tj_e ht hq]
    · rw [fx_dj_e ht hq]
    · rw [fx_kj_e ht hq]
theorem fx_co1 {post : St2 → Prop} {F T : Nat} (hF : F ≤ 12) (hT : T ≤ 16) (hp : fy_nb pc F 3) (hm : fy_nb mo T 3) (hc : fy_nb cl T 3) (hN : fy_tt (fx_g dp rq pc F) T ≤ 64)
    (hJ : ∀ (te pa : Nat → Int32) (ke : Nat → Int64), fx_col sc pc dp mo cl rq F T (fy_tt (fx_g dp rq pc F) T) te pa ke → post (xfc, xtc, nI F, nI T, nI (fy_tt (fx_g dp rq pc F) T), xev, xst, sc, pc, dp, fl, mo, cl, rq, te, pa, ke, oc, lg, att, al, so)) :
    ∀ (k t n : Nat) (te pa : Nat → Int32) (ke : Nat → Int64), t + k = T → k < n → fx_col sc pc dp mo cl rq F T (fy_tt (fx_g dp rq pc F) t) te pa ke →
    wX_collectItems_7 post xfc xtc (nI F) (nI T) xev xst n (nI t) (nI (fy_tt (fx_g dp rq pc F) t)) sc pc dp fl mo cl rq te pa ke oc lg att al so := by
  intro k
  induction k with
  | zero =>
    intro t n te pa ke hk hn h
    obtain ⟨n, rfl⟩ : ∃ r, n = r + 1 := ⟨n - 1, by omega⟩
    have e : t = T := by omega
    subst e
    exact br_t (nI_le (Nat.le_refl _) (by omega)) (hJ te pa ke h)
  | succ k ih =>
    intro t n te pa ke hk hn h
    obtain ⟨n, rfl⟩ : ∃ r, n = r + 1 := ⟨n - 1, by omega⟩
    have hN2 := fy_tt_m (g := fx_g dp rq pc F) (show t + 1 ≤ T by omega)
    refine br_f (nI_ge (by omega) (by omega)) (fx_clo hF (by omega) (fx_ct hF hp ⟨fx_g dp rq pc F t + 1, ?_⟩))
    exact fx_co2 hF hT (by omega) hp hm hc (by omega) (fun te pa ke h2 => ih (t + 1) n te pa ke (by omega) (by omega) h2) (fx_g dp rq pc F t) 0 _ te pa ke (by omega) (by omega) h
theorem fx_co {post : St2 → Prop} {F T : Nat} (hF : F ≤ 12) (hT : T ≤ 16) (hp : fy_nb pc F 3) (hm : fy_nb mo T 3) (hc : fy_nb cl T 3) (hN : fy_tt (fx_g dp rq pc F) T ≤ 64)
    (hJ : ∀ (te pa : Nat → Int32) (ke : Nat → Int64), fx_col sc pc dp mo cl rq F T (fy_tt (fx_g dp rq pc F) T) te pa ke → post (xfc, xtc, nI F, nI T, nI (fy_tt (fx_g dp rq pc F) T), xev, xst, sc, pc, dp, fl, mo, cl, rq, te, pa, ke, oc, lg, att, al, so)) :
    wpX_collectItems post (xfc, xtc, nI F, nI T, xn, xev, xst, sc, pc, dp, fl, mo, cl, rq, te, pa, ke, oc, lg, att, al, so) := by
  unfold wpX_collectItems
  exact ⟨T + 1, fx_co1 hF hT hp hm hc hN hJ T 0 (T + 1) te pa ke (by omega) (by omega) (fun j hj => absurd hj (Nat.not_lt_zero j))⟩
end
