/-! Y: closure, product, one item -/
theorem fy_nr1 : vp_nar .boolean 1 = 1 := rfl
theorem fy_nr0 : vp_nar .boolean 0 = 0 := rfl
theorem fy_nrb (b : Bool) : vp_nar .boolean (fy_bi b) = fy_bi b := by cases b <;> rfl
section
variable {yfc ytc yF yT yrf yn yev yst : Int32} {sc pc yd fl mo cl yr c tt tp us od it ip io lg att av ap so nt : Nat → Int32}
theorem fz_md1 {post : Int32 → SY → Prop} {dp : Nat → Int32} {S : Nat → Bool} {f : Nat} (hf : f < 12) (hyd : ∀ f g, f < 12 → g < 12 → yd (f * 12 + g) = fy_bi (bt (dp f) g)) (hd : ∀ g, bt (dp f) g = true → g < f)
    (h : ∀ (c : Nat → Int32) (ch : Int32), (∀ g, g < 12 → c g = fy_bi (S g || bt (dp f) g)) → (ch = 0 ∨ ch = 1) → (ch = 0 → ∀ g, g < 12 → (S g || bt (dp f) g) = S g) → post ch (yfc, ytc, yF, yT, yrf, yn, yev, yst, sc, pc, yd, fl, mo, cl, yr, c, tt, tp, us, od, it, ip, io, lg, att, av, ap, so, nt)) :
    ∀ (k d n : Nat) (c : Nat → Int32) (ch : Int32), d + k = f → k < n → (∀ g, g < 12 → c g = fy_bi (S g || (decide (g < d) && bt (dp f) g))) → (ch = 0 ∨ ch = 1) → (ch = 0 → ∀ g, g < d → (S g || bt (dp f) g) = S g) →
    wY_markDeps_4 post (nI f) yfc ytc yF yT yrf yn yev yst n ch (nI d) sc pc yd fl mo cl yr c tt tp us od it ip io lg att av ap so nt := by
  intro k
  induction k with
  | zero =>
    intro d n c ch hk hn h1 h2 h3
    obtain ⟨n, rfl⟩ : ∃ r, n = r + 1 := ⟨n - 1, by omega⟩
    have e : d = f := by omega
    subst e
    have e2 : ∀ g, (decide (g < d) && bt (dp d) g) = bt (dp d) g := by
      intro g
      cases hb : bt (dp d) g
      · rw [Bool.and_false]
      · rw [decide_eq_true (hd g hb), Bool.and_true]
    have H := h c ch (fun g hg => by rw [h1 g hg, e2]) h2 (fun z g hg => by
      rcases Nat.lt_or_ge g d with y | y
      · exact h3 z g y
      · cases hb : bt (dp d) g
        · rw [Bool.or_false]
        · have := hd g hb; omega)
    refine br_t (nI_le (Nat.le_refl _) (by omega)) ⟨?_, H⟩
    rcases h2 with z | z <;> rw [z] <;> rfl
  | succ k ih =>
    intro d n c ch hk hn h1 h2 h3
    obtain ⟨n, rfl⟩ : ∃ r, n = r + 1 := ⟨n - 1, by omega⟩
    have hv : vp_in (nI (f * 12 + d)) 144 := vp_in_nI (by omega) (by decide)
    have hc : (nI (f * 12 + d)).toNatClampNeg = f * 12 + d := nI_clamp (by omega)
    have hv2 : vp_in (nI d) 12 := vp_in_nI (by omega) (by decide)
    have hc2 : (nI d).toNatClampNeg = d := nI_clamp (by omega)
    have hx : nI f * 12 + nI d = nI (f * 12 + d) := by rw [← nI_add, ← pk_mul]; rfl
    refine br_f (nI_ge (by omega) (by omega)) (br_f (nI_ge (b := 12) (by omega) (by decide)) ?_)
    rw [hx, hc, hyd f d hf (by omega), hc2]
    have hS : ∀ g, g < 12 → g ≠ d → (decide (g < d + 1) && bt (dp f) g) = (decide (g < d) && bt (dp f) g) := by
      intro g _ hg
      rw [show decide (g < d + 1) = decide (g < d) from decide_eq_decide.mpr ⟨fun h => by omega, fun h => by omega⟩]
    refine ⟨hv, fy_bi_z (fun y => nm_e ?_) (fun y => ⟨hv2, ?_⟩)⟩
    · rw [nI_1]
      refine ih (d + 1) n c ch (by omega) (by omega) (fun g hg => ?_) h2 (fun z g hg => ?_)
      · by_cases e : g = d
        · subst e; rw [h1 g hg, y, Bool.and_false, Bool.and_false]
        · rw [h1 g hg, hS g hg e]
      · by_cases e : g = d
        · subst e; rw [y, Bool.or_false]
        · exact h3 z g (by omega)
    · rw [h1 d (by omega), decide_eq_false (Nat.lt_irrefl d), Bool.false_and, Bool.or_false]
      cases hs : S d
      · refine br_t rfl ⟨hv2, nm_e (nm_e ?_)⟩
        rw [nI_1, fy_nr1]
        refine ih (d + 1) n _ 1 (by omega) (by omega) (fun g hg => ?_) (Or.inr rfl) (fun z => absurd z (by decide))
        by_cases e : g = d
        · subst e; rw [pk_us, y, hs, decide_eq_true (Nat.lt_succ_self g)]; rfl
        · rw [pk_un e, h1 g hg, hS g hg e]
      · refine br_f (by decide) (nm_e ?_)
        rw [nI_1]
        refine ih (d + 1) n c ch (by omega) (by omega) (fun g hg => ?_) h2 (fun z g hg => ?_)
        · by_cases e : g = d
          · subst e; rw [h1 g hg, hs, Bool.true_or, Bool.true_or]
          · rw [h1 g hg, hS g hg e]
        · by_cases e : g = d
          · subst e; rw [hs, Bool.true_or]
          · exact h3 z g (by omega)
theorem fz_md {post : Int32 → SY → Prop} {dp : Nat → Int32} {S : Nat → Bool} {f : Nat} (hf : f < 12) (hyd : ∀ f g, f < 12 → g < 12 → yd (f * 12 + g) = fy_bi (bt (dp f) g)) (hd : ∀ g, bt (dp f) g = true → g < f) (hc : ∀ g, g < 12 → c g = fy_bi (S g))
    (h : ∀ (c : Nat → Int32) (ch : Int32), (∀ g, g < 12 → c g = fy_bi (S g || bt (dp f) g)) → (ch = 0 ∨ ch = 1) → (ch = 0 → ∀ g, g < 12 → (S g || bt (dp f) g) = S g) → post ch (yfc, ytc, yF, yT, yrf, yn, yev, yst, sc, pc, yd, fl, mo, cl, yr, c, tt, tp, us, od, it, ip, io, lg, att, av, ap, so, nt)) : wpY_markDeps post (yfc, ytc, yF, yT, yrf, yn, yev, yst, sc, pc, yd, fl, mo, cl, yr, c, tt, tp, us, od, it, ip, io, lg, att, av, ap, so, nt) (nI f) := by
  unfold wpY_markDeps
  exact ⟨f + 1, fz_md1 hf hyd hd h f 0 (f + 1) c 0 (by omega) (by omega) (fun g hg => by rw [hc g hg, decide_eq_false (Nat.not_lt_zero g), Bool.false_and, Bool.or_false]) (Or.inl rfl) (fun _ g hg => absurd hg (Nat.not_lt_zero g))⟩
/-- what a round leaves: the set at its start, the set now, below f all marked -/
def fz_rd (dp : Nat → Int32) (K : Nat → Prop) (S0 S : Nat → Bool) (f : Nat) (ch : Int32) : Prop :=
  (∀ g, S0 g = true → S g = true) ∧ (∀ g, S g = true → K g) ∧ (∀ e, e < f → S0 e = true → ∀ g, bt (dp e) g = true → S g = true) ∧ (ch = 0 ∨ ch = 1) ∧ (ch = 0 → ∀ g, g < 12 → S g = S0 g)
theorem fz_cc3 {post : SY → Prop} {dp : Nat → Int32} {q : Int32} {K : Nat → Prop} {F : Nat} {S0 : Nat → Bool} {x2 : Int32} {J : Int32 → Int32 → Int32 → Int32 → Int32 → Int32 → Int32 → Int32 → Int32 → (Nat → Int32) → (Nat → Int32) → (Nat → Int32) → (Nat → Int32) → (Nat → Int32) → (Nat → Int32) → (Nat → Int32) → (Nat → Int32) → (Nat → Int32) → (Nat → Int32) → (Nat → Int32) → (Nat → Int32) → (Nat → Int32) → (Nat → Int32) → (Nat → Int32) → (Nat → Int32) → (Nat → Int32) → (Nat → Int32) → (Nat → Int32) → (Nat → Int32) → (Nat → Int32) → Prop}
    (hF : F ≤ 12) (hyd : ∀ f g, f < 12 → g < 12 → yd (f * 12 + g) = fy_bi (bt (dp f) g)) (hd : ∀ f, f < F → ∀ g, bt (dp f) g = true → g < f) (hK : fy_K dp q F K)
    (hq : ∀ (S : Nat → Bool) (c : Nat → Int32), (∀ g, g < 12 → c g = fy_bi (S g)) → fz_rd dp K S0 S F 0 → post (yfc, ytc, nI F, yT, yrf, yn, yev, yst, sc, pc, yd, fl, mo, cl, yr, c, tt, tp, us, od, it, ip, io, lg, att, av, ap, so, nt))
    (hJ : ∀ (S : Nat → Bool) (c : Nat → Int32), (∀ g, g < 12 → c g = fy_bi (S g)) → fz_rd dp K S0 S F 1 → J (x2 + 1) yfc ytc (nI F) yT yrf yn yev yst sc pc yd fl mo cl yr c tt tp us od it ip io lg att av ap so nt) :
    ∀ (k f n : Nat) (S : Nat → Bool) (c : Nat → Int32) (ch : Int32), f + k = F → k < n → (∀ g, g < 12 → c g = fy_bi (S g)) → fz_rd dp K S0 S f ch →
    wY_computeClosure_60 post J x2 n ch (nI f) yfc ytc (nI F) yT yrf yn yev yst sc pc yd fl mo cl yr c tt tp us od it ip io lg att av ap so nt := by
  intro k
  induction k with
  | zero =>
    intro f n S c ch hk hn hc h
    obtain ⟨n, rfl⟩ : ∃ r, n = r + 1 := ⟨n - 1, by omega⟩
    have e : f = F := by omega
    subst e
    refine br_t (nI_le (Nat.le_refl _) (by omega)) ?_
    rcases h.2.2.2.1 with z | z
    · subst z
      exact br_t rfl (hq S c hc h)
    · subst z
      exact br_f (by decide) (nm_e (hJ S c hc h))
  | succ k ih =>
    intro f n S c ch hk hn hc h
    obtain ⟨n, rfl⟩ : ∃ r, n = r + 1 := ⟨n - 1, by omega⟩
    have hv2 : vp_in (nI f) 12 := vp_in_nI (by omega) (by decide)
    have hc2 : (nI f).toNatClampNeg = f := nI_clamp (by omega)
    obtain ⟨h1, h2, h3, h4, h5⟩ := h
    refine br_f (nI_ge (by omega) (by omega)) ⟨hv2, ?_⟩
    rw [hc2, hc f (by omega)]
    refine fy_bi_z (fun y => nm_e ?_) (fun y => fz_md (by omega) hyd (hd f (by omega)) hc (fun c' ch' a1 a2 a3 => ?_))
    · rw [nI_1]
      refine ih (f + 1) n S c ch (by omega) (by omega) hc ⟨h1, h2, fun e he hs g hg => ?_, h4, h5⟩
      by_cases ef : e = f
      · subst ef
        rw [h1 e hs] at y
        exact absurd y (by decide)
      · exact h3 e (by omega) hs g hg
    · have H : fz_rd dp K S0 (fun g => S g || bt (dp f) g) (f + 1) (if ch' = 0 then ch else 1) := by
        refine ⟨fun g hg => ?_, fun g hg => ?_, fun e he hs g hg => ?_, ?_, fun z g hg => ?_⟩
        · show (S g || bt (dp f) g) = true
          rw [h1 g hg, Bool.true_or]
        · rw [Bool.or_eq_true] at hg
          rcases hg with hg | hg
          · exact h2 g hg
          · exact (hK g).mpr (Or.inr ⟨f, by omega, h2 f y, hg⟩)
        · by_cases ef : e = f
          · subst ef
            show (S g || bt (dp e) g) = true
            rw [hg, Bool.or_true]
          · show (S g || bt (dp f) g) = true
            rw [h3 e (by omega) hs g hg, Bool.true_or]
        · split
          · exact h4
          · exact Or.inr rfl
        · by_cases z2 : ch' = 0
          · rw [if_pos z2] at z
            show (S g || bt (dp f) g) = S0 g
            rw [a3 z2 g hg, h5 z g hg]
          · rw [if_neg z2] at z
            exact absurd z (by decide)
      by_cases z2 : ch' = 0
      · rw [if_pos z2] at H
        refine br_t z2 (nm_e ?_)
        rw [nI_1]
        exact ih (f + 1) n _ c' ch (by omega) (by omega) a1 H
      · rw [if_neg z2] at H
        refine br_f z2 (nm_e ?_)
        rw [nI_1]
        exact ih (f + 1) n _ c' 1 (by omega) (by omega) a1 H
theorem fz_cc2 {post : SY → Prop} {dp : Nat → Int32} {q : Int32} {K : Nat → Prop} {F : Nat}
    (hF : F ≤ 12) (hyd : ∀ f g, f < 12 → g < 12 → yd (f * 12 + g) = fy_bi (bt (dp f) g)) (hd : ∀ f, f < F → ∀ g, bt (dp f) g = true → g < f) (hK : fy_K dp q F K) (hqF : ∀ g, bt q g = true → g < F)
    (h : ∀ (S : Nat → Bool) (c : Nat → Int32), (∀ g, g < 12 → c g = fy_bi (S g)) → (∀ g, S g = true ↔ K g) → post (yfc, ytc, nI F, yT, yrf, yn, yev, yst, sc, pc, yd, fl, mo, cl, yr, c, tt, tp, us, od, it, ip, io, lg, att, av, ap, so, nt)) :
    ∀ (k r n : Nat) (S : Nat → Bool) (c : Nat → Int32), r + k = 13 → k < n → (∀ g, g < 12 → c g = fy_bi (S g)) → fy_R q F K r S →
    wY_computeClosure_49 post n (nI r) yfc ytc (nI F) yT yrf yn yev yst sc pc yd fl mo cl yr c tt tp us od it ip io lg att av ap so nt := by
  intro k
  induction k with
  | zero =>
    intro r n S c hk hn hc hR
    obtain ⟨n, rfl⟩ : ∃ r, n = r + 1 := ⟨n - 1, by omega⟩
    have e : r = 13 := by omega
    subst e
    exact br_t (by decide) (h S c hc (fy_Re hK hd hqF hR (Or.inl (by omega))))
  | succ k ih =>
    intro r n S c hk hn hc hR
    obtain ⟨n, rfl⟩ : ∃ r, n = r + 1 := ⟨n - 1, by omega⟩
    refine br_f (nI_nlt (a := 12) (b := r) (by omega) (by decide)) ⟨F + 1, ?_⟩
    refine fz_cc3 (S0 := S) hF hyd hd hK (fun S1 c1 a1 a2 => ?_) (fun S1 c1 a1 a2 => ?_) F 0 (F + 1) S c 0 (by omega) (by omega) hc ⟨fun g hg => hg, hR.2.1, fun e he => absurd he (Nat.not_lt_zero e), Or.inl rfl, fun _ _ _ => rfl⟩
    · obtain ⟨h1, h2, h3, h4, h5⟩ := a2
      refine h S c1 (fun g hg => by rw [a1 g hg, h5 rfl g hg]) (fy_Re hK hd hqF hR (Or.inr (fun f hf hs g hg => ?_)))
      have := hd f hf g hg
      rw [← h5 rfl g (by omega)]
      exact h3 f hf hs g hg
    · obtain ⟨h1, h2, h3, h4, h5⟩ := a2
      rw [nI_1]
      exact ih (r + 1) n S1 c1 (by omega) (by omega) a1 (fy_Rs hK hd hR h1 h2 h3)
theorem fz_cp1 {post : Int32 → Prop} {F : Nat} {C : Int32} (hF : F ≤ 12) (hp : fy_nb pc F 3) (hc : ∀ g, g < 12 → c g = fy_bi (bt C g)) : ∀ (k f n : Nat), f + k = F → k < n → post (nI (fy_ct C pc F)) → wY_closureProduct_4 post yfc ytc (nI F) yT yrf yn yev yst sc pc yd fl mo cl yr c tt tp us od it ip io lg att av ap so nt n (nI (fy_ct C pc f)) (nI f) := by
  intro k
  induction k with
  | zero =>
    intro f n hk hn h
    obtain ⟨n, rfl⟩ : ∃ q, n = q + 1 := ⟨n - 1, by omega⟩
    have e : f = F := by omega
    subst e
    exact br_t (nI_le (Nat.le_refl _) (by omega)) h
  | succ k ih =>
    intro f n hk hn h
    obtain ⟨n, rfl⟩ : ∃ q, n = q + 1 := ⟨n - 1, by omega⟩
    have hi := ih (f + 1) n (by omega) (by omega) h
    rw [fy_ct] at hi
    obtain ⟨pe, pb⟩ := hp f (by omega)
    have hv2 : vp_in (nI f) 12 := vp_in_nI (by omega) (by decide)
    have hc2 : (nI f).toNatClampNeg = f := nI_clamp (by omega)
    refine br_f (nI_ge (by omega) (by omega)) ⟨hv2, ?_⟩
    rw [hc2, hc f (by omega)]
    refine fy_bi_z (fun hb => nm_e ?_) (fun hb => ⟨hv2, ?_⟩)
    · rw [if_neg (by rw [hb]; decide)] at hi
      rw [nI_1]
      exact hi
    · rw [if_pos hb] at hi
      rw [pe]
      unfold fy_vl at hi
      refine pk_lt (fy_n pc f) 1 (fun z => nm_e ?_) (fun z => ⟨hv2, nm_e (nm_e ?_)⟩)
      · rw [if_pos (by omega), Nat.mul_one] at hi
        rw [nI_1]
        exact hi
      · rw [if_neg (by omega)] at hi
        rw [pk_mul, nI_1]
        exact hi
theorem fz_cp {post : Int32 → Prop} {F : Nat} {C : Int32} (hF : F ≤ 12) (hp : fy_nb pc F 3) (hc : ∀ g, g < 12 → c g = fy_bi (bt C g)) (h : post (nI (fy_ct C pc F))) : wpY_closureProduct post (yfc, ytc, nI F, yT, yrf, yn, yev, yst, sc, pc, yd, fl, mo, cl, yr, c, tt, tp, us, od, it, ip, io, lg, att, av, ap, so, nt) := by
  unfold wpY_closureProduct
  exact ⟨F + 1, fz_cp1 hF hp hc F 0 (F + 1) (by omega) (by omega) h⟩
theorem fz_cc1 {post : SY → Prop} {F t : Nat} {q : Int32} (hF : F ≤ 12) (ht : t < 16) (hyr : ∀ g, g < 12 → yr (t * 12 + g) = fy_bi (bt q g)) (hq : ∀ g, bt q g = true → g < F)
    (h : ∀ c : Nat → Int32, (∀ g, g < 12 → c g = fy_bi (bt q g)) → ∃ n, wY_computeClosure_49 post n 0 yfc ytc (nI F) yT yrf yn yev yst sc pc yd fl mo cl yr c tt tp us od it ip io lg att av ap so nt) :
    ∀ (k f n : Nat) (c : Nat → Int32), f + k = 12 → k < n → (∀ g, g < f → c g = fy_bi (bt q g)) → wY_computeClosure_2 post (nI t) yfc ytc (nI F) yT yrf yn yev yst n (nI f) sc pc yd fl mo cl yr c tt tp us od it ip io lg att av ap so nt := by
  intro k
  induction k with
  | zero =>
    intro f n c hk hn h1
    obtain ⟨n, rfl⟩ : ∃ r, n = r + 1 := ⟨n - 1, by omega⟩
    have e : f = 12 := by omega
    subst e
    exact br_t (by decide) (h c h1)
  | succ k ih =>
    intro f n c hk hn h1
    obtain ⟨n, rfl⟩ : ∃ r, n = r + 1 := ⟨n - 1, by omega⟩
    have hv : vp_in (nI (t * 12 + f)) 192 := vp_in_nI (by omega) (by decide)
    have hc : (nI (t * 12 + f)).toNatClampNeg = t * 12 + f := nI_clamp (by omega)
    have hv2 : vp_in (nI f) 12 := vp_in_nI (by omega) (by decide)
    have hc2 : (nI f).toNatClampNeg = f := nI_clamp (by omega)
    have hx : nI t * 12 + nI f = nI (t * 12 + f) := by rw [← nI_add, ← pk_mul]; rfl
    have st : ∀ b : Bool, bt q f = b → ∀ g, g < f + 1 → upd c f (fy_bi b) g = fy_bi (bt q g) := by
      intro b hb g hg
      by_cases e : g = f
      · subst e
        rw [pk_us, hb]
      · rw [pk_un e]
        exact h1 g (by omega)
    refine br_f (nI_ge (b := 12) (by omega) (by decide)) ?_
    rw [hx, hc, hyr f (by omega), hc2]
    refine pk_le F f (fun z => ⟨hv2, nm_e (nm_e ?_)⟩) (fun z => ⟨hv, fy_bi_z (fun y => ⟨hv2, nm_e (nm_e ?_)⟩) (fun y => ⟨hv2, nm_e (nm_e ?_)⟩)⟩)
    · rw [nI_1]
      refine ih (f + 1) n _ (by omega) (by omega) (st false ?_)
      cases hb : bt q f
      · rfl
      · have := hq f hb
        omega
    · rw [nI_1]
      exact ih (f + 1) n _ (by omega) (by omega) (st false y)
    · rw [nI_1]
      exact ih (f + 1) n _ (by omega) (by omega) (st true y)
theorem fz_cc {post : SY → Prop} {dp : Nat → Int32} {q : Int32} {F t : Nat} (hF : F ≤ 12) (ht : t < 16) (hyd : ∀ f g, f < 12 → g < 12 → yd (f * 12 + g) = fy_bi (bt (dp f) g)) (hd : ∀ f, f < F → ∀ g, bt (dp f) g = true → g < f) (hyr : ∀ g, g < 12 → yr (t * 12 + g) = fy_bi (bt q g)) (hq : ∀ g, bt q g = true → g < F)
    (h : ∀ c : Nat → Int32, (∀ g, g < 12 → c g = fy_bi (bt (fy_go dp F q) g)) → post (yfc, ytc, nI F, yT, yrf, yn, yev, yst, sc, pc, yd, fl, mo, cl, yr, c, tt, tp, us, od, it, ip, io, lg, att, av, ap, so, nt)) : wpY_computeClosure post (yfc, ytc, nI F, yT, yrf, yn, yev, yst, sc, pc, yd, fl, mo, cl, yr, c, tt, tp, us, od, it, ip, io, lg, att, av, ap, so, nt) (nI t) := by
  unfold wpY_computeClosure
  refine ⟨13, fz_cc1 hF ht hyr hq (fun c1 h1 => ⟨14, ?_⟩) 12 0 13 c (by omega) (by omega) (fun g hg => absurd hg (Nat.not_lt_zero g))⟩
  have hK := fy_go_K (d := dp) (q := q) hd
  refine fz_cc2 hF hyd hd hK hq (fun S c2 a1 a2 => h c2 (fun g hg => ?_)) 13 0 14 (fun g => bt q g) c1 (by omega) (by omega) h1 (fy_R0 hK hd)
  rw [a1 g hg]
  exact congrArg fy_bi (Bool.eq_iff_iff.mpr (a2 g))
theorem fz_em1 {post : SY → Prop} {F m sl : Nat} {C : Int32} {tp0 : Nat → Int32} (hF : F ≤ 12) (hm : m < 2 ^ 31) (hsl : sl < 64) (hp : fy_nb pc F 3) (hc : ∀ g, g < 12 → c g = fy_bi (bt C g)) (hC : ∀ g, F ≤ g → bt C g = false)
    (h : ∀ tp : Nat → Int32, (∀ f, f < 12 → tp (sl * 12 + f) = nI (fy_dg C pc F m f) - 1) → (∀ j, j < sl * 12 → tp j = tp0 j) → post (yfc, ytc, nI F, yT, yrf, yn, yev, yst, sc, pc, yd, fl, mo, cl, yr, c, tt, tp, us, od, it, ip, io, lg, att, av, ap, so, nt)) :
    ∀ (k f n : Nat) (tp : Nat → Int32), f + k = 12 → k < n → (∀ g, g < f → tp (sl * 12 + g) = nI (fy_dg C pc F m g) - 1) → (∀ j, j < sl * 12 → tp j = tp0 j) →
    wY_emitItem_13 post (nI sl) yfc ytc (nI F) yT yrf yn yev yst n (nI (fy_rs C pc m f)) (nI f) sc pc yd fl mo cl yr c tt tp us od it ip io lg att av ap so nt := by
  intro k
  induction k with
  | zero =>
    intro f n tp hk hn h1 h2
    obtain ⟨n, rfl⟩ : ∃ r, n = r + 1 := ⟨n - 1, by omega⟩
    have e : f = 12 := by omega
    subst e
    exact br_t (by decide) (h tp h1 h2)
  | succ k ih =>
    intro f n tp hk hn h1 h2
    obtain ⟨n, rfl⟩ : ∃ r, n = r + 1 := ⟨n - 1, by omega⟩
    have hv : vp_in (nI (sl * 12 + f)) 768 := vp_in_nI (by omega) (by decide)
    have hcl : (nI (sl * 12 + f)).toNatClampNeg = sl * 12 + f := nI_clamp (by omega)
    have hv2 : vp_in (nI f) 12 := vp_in_nI (by omega) (by decide)
    have hc2 : (nI f).toNatClampNeg = f := nI_clamp (by omega)
    have hx : nI sl * 12 + nI f = nI (sl * 12 + f) := by rw [← nI_add, ← pk_mul]; rfl
    have hr := fy_rs_le C pc m f
    have st : ∀ x y : Int32, y = nI (fy_rs C pc m (f + 1)) → x = nI (fy_dg C pc F m f) - 1 → wY_emitItem_82 post (wY_emitItem_13 post (nI sl) yfc ytc (nI F) yT yrf yn yev yst n) (nI sl) y (nI f) x yfc ytc (nI F) yT yrf yn yev yst sc pc yd fl mo cl yr c tt tp us od it ip io lg att av ap so nt := by
      intro x y hy hx2
      unfold wY_emitItem_82
      rw [hx]
      refine ⟨hv, nm_e (nm_e ?_)⟩
      rw [hcl, nI_1, hy]
      refine ih (f + 1) n _ (by omega) (by omega) (fun g hg => ?_) (fun j hj => ?_)
      · by_cases e : g = f
        · subst e
          rw [pk_us, hx2]
        · rw [pk_un (by omega)]
          exact h1 g (by omega)
      · rw [pk_un (by omega)]
        exact h2 j hj
    refine br_f (nI_ge (b := 12) (by omega) (by decide)) (pk_le F f (fun z => ?_) (fun z => ⟨hv2, ?_⟩))
    · have hb := hC f z
      refine st _ _ ?_ ?_
      · rw [fy_rs, if_neg (by rw [hb]; decide)]
      · rw [fy_dg_0 z, fy_m0]
    · rw [hc2, hc f (by omega)]
      obtain ⟨pe, pb⟩ := hp f z
      refine fy_bi_z (fun y => ?_) (fun y => ⟨hv2, ?_⟩)
      · refine st _ _ ?_ ?_
        · rw [fy_rs, if_neg (by rw [y]; decide)]
        · have e : fy_dg C pc F m f = 0 := by unfold fy_dg; rw [if_neg (by rw [y]; simp)]
          rw [e, fy_m0]
      · rw [pe]
        have e : fy_dg C pc F m f = fy_rs C pc m f % fy_vl pc f + 1 := if_pos ⟨z, y⟩
        refine pk_eq (fy_n pc f) 0 (fun w => ?_) (fun w => ⟨hv2, nI_ne0 (by omega) (by omega), nm_e ⟨hv2, nI_ne0 (by omega) (by omega), nm_e ?_⟩⟩)
        · have ev : fy_vl pc f = 1 := if_pos w
          refine st _ _ ?_ ?_
          · rw [fy_rs, if_pos y, ev, Nat.div_one]
          · rw [e, ev, Nat.mod_one, fy_ms]; rfl
        · have ev : fy_vl pc f = fy_n pc f := if_neg w
          refine st _ _ ?_ ?_
          · rw [fy_rs, if_pos y, ev, pk_div (by omega) (by omega) (by omega)]
          · rw [e, ev, fy_ms, pk_rem (by omega) (by omega) (by omega)]
theorem fz_em {post : SY → Prop} {F m sl t : Nat} {C : Int32} (hF : F ≤ 12) (hm : m < 2 ^ 31) (hsl : sl < 64) (hp : fy_nb pc F 3) (hc : ∀ g, g < 12 → c g = fy_bi (bt C g)) (hC : ∀ g, F ≤ g → bt C g = false)
    (h : ∀ tp1 : Nat → Int32, (∀ f, f < 12 → tp1 (sl * 12 + f) = nI (fy_dg C pc F m f) - 1) → (∀ j, j < sl * 12 → tp1 j = tp j) → post (yfc, ytc, nI F, yT, yrf, yn, yev, yst, sc, pc, yd, fl, mo, cl, yr, c, upd tt sl (nI t), tp1, us, od, it, ip, io, lg, att, av, ap, so, nt)) : wpY_emitItem post (yfc, ytc, nI F, yT, yrf, yn, yev, yst, sc, pc, yd, fl, mo, cl, yr, c, tt, tp, us, od, it, ip, io, lg, att, av, ap, so, nt) (nI t) (nI m) (nI sl) := by
  unfold wpY_emitItem
  refine ⟨vp_in_nI hsl (by decide), nm_e ⟨13, ?_⟩⟩
  rw [nI_clamp (by omega)]
  exact fz_em1 hF hm hsl hp hc hC h 12 0 13 tp (by omega) (by omega) (fun g hg => absurd hg (Nat.not_lt_zero g)) (fun j hj => rfl)
end
