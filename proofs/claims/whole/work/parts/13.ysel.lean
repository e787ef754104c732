/-! Y: choosing the least that is left, copying -/
section
variable {yfc ytc yF yT yrf yn yev yst : Int32} {sc pc yd fl mo cl yr c tt tp us od it ip io lg att av ap so nt : Nat → Int32}
/-- what the slots hold: test and digits of each below m -/
def fz_sl (T m : Nat) (tj : Nat → Nat) (dj : Nat → Nat → Nat) (tt tp : Nat → Int32) : Prop := ∀ j, j < m → tj j < T ∧ tt j = nI (tj j) ∧ (∀ f, dj j f < 4) ∧ ∀ f, f < 12 → tp (j * 12 + f) = nI (dj j f) - 1
/-- used are those that stand in the first pos places -/
def fz_us (m pos : Nat) (s : Nat → Nat) (us : Nat → Int32) : Prop := ∀ j, j < m → (us j = 0 ∧ ∀ q, q < pos → s q ≠ j) ∨ (¬ us j = 0 ∧ ∃ q, q < pos ∧ s q = j)
theorem fz_se2 {post : Int32 → SY → Prop} {J : Int32 → (Nat → Int32) → (Nat → Int32) → (Nat → Int32) → (Nat → Int32) → (Nat → Int32) → (Nat → Int32) → (Nat → Int32) → (Nat → Int32) → (Nat → Int32) → (Nat → Int32) → (Nat → Int32) → (Nat → Int32) → (Nat → Int32) → (Nat → Int32) → (Nat → Int32) → (Nat → Int32) → (Nat → Int32) → (Nat → Int32) → (Nat → Int32) → (Nat → Int32) → (Nat → Int32) → Prop} {F T m pos : Nat} {tj s : Nat → Nat} {dj : Nat → Nat → Nat} (hF : F ≤ 12) (hT : T ≤ 16) (hm : m ≤ 64) (hp : pos < m) (hmo : fy_nb mo T 3) (hcl : fy_nb cl T 3) (hsl : fz_sl T m tj dj tt tp)
    (hs : fy_So (fun j => fy_ky sc pc F (fy_n mo (tj j)) (fy_n cl (tj j)) (tj j) (dj j)) m s) (hu : fz_us m pos s us)
    (hJ : J (nI (pos + 1)) sc pc yd fl mo cl yr c tt tp (upd us (s pos) 1) (upd od pos (nI (s pos))) it ip io lg att av ap so nt) :
    ∀ (k j n : Nat) (best : Int32), j + k = m → k < n → ((best = -1 ∧ ∀ i, i < j → ∃ q, q < pos ∧ s q = i) ∨ (∃ b, best = nI b ∧ b < j ∧ (∀ q, q < pos → s q ≠ b) ∧ ∀ i, i < j → (∀ q, q < pos → s q ≠ i) → i = b ∨ fy_L (fun j => fy_ky sc pc F (fy_n mo (tj j)) (fy_n cl (tj j)) (tj j) (dj j)) b i)) →
    wY_run_134 post J (nI m) (nI pos) yfc ytc (nI F) yT yrf yn yev yst sc pc yd fl mo cl yr c tt tp us od it ip io lg att av ap so nt n best (nI j) := by
  intro k
  induction k with
  | zero =>
    intro j n best hk hn h
    obtain ⟨n, rfl⟩ : ∃ r, n = r + 1 := ⟨n - 1, by omega⟩
    have e : j = m := by omega
    subst e
    refine br_t (nI_le (Nat.le_refl _) (by omega)) ?_
    have hsp := hs.1 pos hp
    rcases h with ⟨h1, h2⟩ | ⟨b, h1, h2, h3, h4⟩
    · obtain ⟨q, hq, eq⟩ := h2 (s pos) hsp
      have := fy_inj hs (by omega) hp eq
      omega
    · have eb : b = s pos := fy_sel hs hp h2 h3 h4
      subst h1
      refine br_t (nI_pos' (by omega)) ?_
      unfold wY_run_184
      refine ⟨vp_in_nI (by omega) (by decide), nm_e ⟨vp_in_nI (by omega) (by decide), nm_e (nm_e ?_)⟩⟩
      rw [nI_clamp (by omega), nI_clamp (by omega), nI_1, eb, fy_nr1]
      exact hJ
  | succ k ih =>
    intro j n best hk hn h
    obtain ⟨n, rfl⟩ : ∃ r, n = r + 1 := ⟨n - 1, by omega⟩
    have hc2 : (nI j).toNatClampNeg = j := nI_clamp (by omega)
    refine br_f (nI_ge (by omega) (by omega)) ⟨vp_in_nI (by omega) (by decide), ?_⟩
    rw [hc2]
    rcases hu j (by omega) with ⟨u1, u2⟩ | ⟨u1, u2⟩
    · refine br_t u1 ?_
      rcases h with ⟨h1, h2⟩ | ⟨b, h1, h2, h3, h4⟩
      · subst h1
        refine br_t (by decide) (nm_e ?_)
        rw [nI_1]
        refine ih (j + 1) n _ (by omega) (by omega) (Or.inr ⟨j, rfl, by omega, u2, fun i hi hq => ?_⟩)
        by_cases e : i = j
        · exact Or.inl e
        · obtain ⟨q, a1, a2⟩ := h2 i (by omega)
          exact absurd a2 (hq q a1)
      · subst h1
        obtain ⟨a1, a2, a3, a4⟩ := hsl j (by omega)
        obtain ⟨b1, b2, b3, b4⟩ := hsl b (by omega)
        refine br_f (nI_pos (by omega)) ?_
        refine fz_cmp hF hT (by omega) (by omega) a2 b2 a1 b1 a4 b4 a3 b3 hmo hcl ?_
        by_cases z : fy_ky sc pc F (fy_n mo (tj j)) (fy_n cl (tj j)) (tj j) (dj j) < fy_ky sc pc F (fy_n mo (tj b)) (fy_n cl (tj b)) (tj b) (dj b)
        · refine br_f (by rw [Int32.not_le]; exact (fy_cp_lt _ _).mpr z) (nm_e ?_)
          rw [nI_1]
          refine ih (j + 1) n _ (by omega) (by omega) (Or.inr ⟨j, rfl, by omega, u2, fun i hi hq => ?_⟩)
          by_cases e : i = j
          · exact Or.inl e
          · rcases h4 i (by omega) hq with y | y
            · subst y
              exact Or.inr (Or.inl z)
            · exact Or.inr (fy_L_t (Or.inl z) y)
        · refine br_t (by rw [← Int32.not_lt]; exact fun q => z ((fy_cp_lt _ _).mp q)) (nm_e ?_)
          rw [nI_1]
          refine ih (j + 1) n _ (by omega) (by omega) (Or.inr ⟨b, rfl, by omega, h3, fun i hi hq => ?_⟩)
          by_cases e : i = j
          · subst e
            refine Or.inr ?_
            unfold fy_L
            dsimp only
            omega
          · exact h4 i (by omega) hq
    · refine br_f u1 (nm_e ?_)
      rw [nI_1]
      refine ih (j + 1) n _ (by omega) (by omega) ?_
      rcases h with ⟨h1, h2⟩ | ⟨b, h1, h2, h3, h4⟩
      · refine Or.inl ⟨h1, fun i hi => ?_⟩
        by_cases e : i = j
        · subst e
          exact u2
        · exact h2 i (by omega)
      · refine Or.inr ⟨b, h1, by omega, h3, fun i hi hq => ?_⟩
        by_cases e : i = j
        · subst e
          obtain ⟨q, a1, a2⟩ := u2
          exact absurd a2 (hq q a1)
        · exact h4 i (by omega) hq
theorem fz_us_s {m pos : Nat} {s : Nat → Nat} {us : Nat → Int32} (h : fz_us m pos s us) : fz_us m (pos + 1) s (upd us (s pos) 1) := by
  intro j hj
  by_cases e : j = s pos
  · subst e
    rw [pk_us]
    exact Or.inr ⟨by decide, pos, by omega, rfl⟩
  · rw [pk_un e]
    rcases h j hj with ⟨h1, h2⟩ | ⟨h1, q, h2, h3⟩
    · refine Or.inl ⟨h1, fun q hq eq => ?_⟩
      by_cases e2 : q = pos
      · subst e2
        exact e eq.symm
      · exact h2 q (by omega) eq
    · exact Or.inr ⟨h1, q, by omega, h3⟩
theorem fz_se1 {post : Int32 → SY → Prop} {F T m : Nat} {tj s : Nat → Nat} {dj : Nat → Nat → Nat} (hF : F ≤ 12) (hT : T ≤ 16) (hm : m ≤ 64) (hmo : fy_nb mo T 3) (hcl : fy_nb cl T 3) (hsl : fz_sl T m tj dj tt tp)
    (hs : fy_So (fun j => fy_ky sc pc F (fy_n mo (tj j)) (fy_n cl (tj j)) (tj j) (dj j)) m s)
    (h : ∀ us od : Nat → Int32, (∀ p, p < m → od p = nI (s p)) → ∃ n, wY_run_208 post (nI m) n 0 yfc ytc (nI F) yT yrf yn yev yst sc pc yd fl mo cl yr c tt tp us od it ip io lg att av ap so nt) :
    ∀ (k pos n : Nat) (us od : Nat → Int32), pos + k = m → k < n → fz_us m pos s us → (∀ p, p < pos → od p = nI (s p)) →
    wY_run_123 post (nI m) yfc ytc (nI F) yT yrf yn yev yst n (nI pos) sc pc yd fl mo cl yr c tt tp us od it ip io lg att av ap so nt := by
  intro k
  induction k with
  | zero =>
    intro pos n us od hk hn h1 h2
    obtain ⟨n, rfl⟩ : ∃ r, n = r + 1 := ⟨n - 1, by omega⟩
    have e : pos = m := by omega
    subst e
    exact br_t (nI_le (Nat.le_refl _) (by omega)) (h us od h2)
  | succ k ih =>
    intro pos n us od hk hn h1 h2
    obtain ⟨n, rfl⟩ : ∃ r, n = r + 1 := ⟨n - 1, by omega⟩
    refine br_f (nI_ge (by omega) (by omega)) ⟨m + 1, ?_⟩
    refine fz_se2 hF hT hm (by omega) hmo hcl hsl hs h1 ?_ m 0 (m + 1) (-1) (by omega) (by omega) (Or.inl ⟨rfl, fun i hi => absurd hi (Nat.not_lt_zero i)⟩)
    refine ih (pos + 1) n _ _ (by omega) (by omega) (fz_us_s h1) (fun p hp => ?_)
    by_cases e : p = pos
    · subst e
      exact pk_us
    · rw [pk_un e]
      exact h2 p (by omega)
theorem fz_use {post : Int32 → SY → Prop} {m : Nat} (h : ∀ us : Nat → Int32, (∀ j, j < 64 → us j = 0) → ∃ n, wY_run_123 post (nI m) yfc ytc yF yT yrf yn yev yst n 0 sc pc yd fl mo cl yr c tt tp us od it ip io lg att av ap so nt) :
    ∀ (k j n : Nat) (us : Nat → Int32), j + k = 64 → k < n → (∀ i, i < j → us i = 0) → wY_run_102 post (nI m) yfc ytc yF yT yrf yn yev yst n (nI j) sc pc yd fl mo cl yr c tt tp us od it ip io lg att av ap so nt := by
  intro k
  induction k with
  | zero =>
    intro j n us hk hn h1
    obtain ⟨n, rfl⟩ : ∃ r, n = r + 1 := ⟨n - 1, by omega⟩
    have e : j = 64 := by omega
    subst e
    exact br_t (by decide) (h us h1)
  | succ k ih =>
    intro j n us hk hn h1
    obtain ⟨n, rfl⟩ : ∃ r, n = r + 1 := ⟨n - 1, by omega⟩
    refine br_f (nI_ge (b := 64) (by omega) (by decide)) ⟨vp_in_nI (by omega) (by decide), nm_e (nm_e ?_)⟩
    rw [nI_clamp (by omega), nI_1, fy_nr0]
    refine ih (j + 1) n _ (by omega) (by omega) (fun i hi => ?_)
    by_cases e : i = j
    · subst e
      exact pk_us
    · rw [pk_un e]
      exact h1 i (by omega)
/-- one item copied -/
theorem fz_cy1 {post : SY → Prop} {a p : Nat} {ip0 : Nat → Int32} (ha : a < 64) (hp : p < 64) (h : ∀ ip : Nat → Int32, (∀ f, f < 12 → ip (p * 12 + f) = tp (a * 12 + f)) → (∀ j, j < p * 12 → ip j = ip0 j) → post (yfc, ytc, yF, yT, yrf, yn, yev, yst, sc, pc, yd, fl, mo, cl, yr, c, tt, tp, us, od, it, ip, io, lg, att, av, ap, so, nt)) :
    ∀ (k f n : Nat) (ip : Nat → Int32), f + k = 12 → k < n → (∀ g, g < f → ip (p * 12 + g) = tp (a * 12 + g)) → (∀ j, j < p * 12 → ip j = ip0 j) → wY_copyItem_21 post (nI a) (nI p) yfc ytc yF yT yrf yn yev yst n (nI f) sc pc yd fl mo cl yr c tt tp us od it ip io lg att av ap so nt := by
  intro k
  induction k with
  | zero =>
    intro f n ip hk hn h1 h2
    obtain ⟨n, rfl⟩ : ∃ r, n = r + 1 := ⟨n - 1, by omega⟩
    have e : f = 12 := by omega
    subst e
    exact br_t (by decide) (h ip h1 h2)
  | succ k ih =>
    intro f n ip hk hn h1 h2
    obtain ⟨n, rfl⟩ : ∃ r, n = r + 1 := ⟨n - 1, by omega⟩
    have xa : nI a * 12 + nI f = nI (a * 12 + f) := by rw [← nI_add, ← pk_mul]; rfl
    have xb : nI p * 12 + nI f = nI (p * 12 + f) := by rw [← nI_add, ← pk_mul]; rfl
    refine br_f (nI_ge (b := 12) (by omega) (by decide)) ?_
    rw [xa, xb]
    refine ⟨vp_in_nI (by omega) (by decide), vp_in_nI (by omega) (by decide), nm_e (nm_e ?_)⟩
    rw [nI_clamp (by omega), nI_clamp (by omega), nI_1]
    refine ih (f + 1) n _ (by omega) (by omega) (fun g hg => ?_) (fun j hj => ?_)
    · by_cases e : g = f
      · subst e
        exact pk_us
      · rw [pk_un (by omega)]
        exact h1 g (by omega)
    · rw [pk_un (by omega)]
      exact h2 j hj
theorem fz_cy {post : SY → Prop} {a p : Nat} (ha : a < 64) (hp : p < 64) (h : ∀ ip1 : Nat → Int32, (∀ f, f < 12 → ip1 (p * 12 + f) = tp (a * 12 + f)) → (∀ j, j < p * 12 → ip1 j = ip j) → post (yfc, ytc, yF, yT, yrf, yn, yev, yst, sc, pc, yd, fl, mo, cl, yr, c, tt, tp, us, od, upd it p (tt a), ip1, upd io p 0, lg, att, av, ap, so, nt)) : wpY_copyItem post (yfc, ytc, yF, yT, yrf, yn, yev, yst, sc, pc, yd, fl, mo, cl, yr, c, tt, tp, us, od, it, ip, io, lg, att, av, ap, so, nt) (nI a) (nI p) := by
  unfold wpY_copyItem
  refine ⟨vp_in_nI ha (by decide), vp_in_nI hp (by decide), nm_e ⟨vp_in_nI hp (by decide), nm_e ⟨13, ?_⟩⟩⟩
  rw [nI_clamp (by omega), nI_clamp (by omega)]
  exact fz_cy1 ha hp h 12 0 13 ip (by omega) (by omega) (fun g hg => absurd hg (Nat.not_lt_zero g)) (fun j hj => rfl)
end
