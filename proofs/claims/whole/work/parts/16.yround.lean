/-! Y: teardown: who must join, who goes first -/
section
variable {yfc ytc yF yT yrf yn yev yst : Int32} {sc pc yd fl mo cl yr c tt tp us od it ip io lg att av ap so nt : Nat → Int32}
theorem fz_243 {post : SY → Prop} {J : Int32 → (Nat → Int32) → (Nat → Int32) → (Nat → Int32) → (Nat → Int32) → (Nat → Int32) → (Nat → Int32) → (Nat → Int32) → (Nat → Int32) → (Nat → Int32) → (Nat → Int32) → (Nat → Int32) → (Nat → Int32) → (Nat → Int32) → (Nat → Int32) → (Nat → Int32) → (Nat → Int32) → (Nat → Int32) → (Nat → Int32) → (Nat → Int32) → (Nat → Int32) → (Nat → Int32) → Prop} {F i : Nat} {x3 : Int32} {dp al : Nat → Int32} {eb S : Nat → Bool} (hF : F ≤ 12) (hyd : ∀ f g, f < 12 → g < 12 → yd (f * 12 + g) = fy_bi (bt (dp f) g)) (ha : fz_al F al av ap)
    (hS1 : ∀ g, g < F → S g = true → bt (fy_ed dp al eb F) g = true) (hS0 : ∀ g, g < F → ¬ al g = -1 → eb g = true → S g = true)
    (hq : ∀ nt : Nat → Int32, (∀ g, g < F → nt g = fy_bi (bt (fy_ed dp al eb F) g)) → ∃ n, wY_teardownAfter_314 post (nI i) n 0 yfc ytc yF yT (nI F) yn yev yst sc pc yd fl mo cl yr c tt tp us od it ip io lg att av ap so nt)
    (hJ : (¬ ∀ g, g < F → S g = bt (fy_ed dp al eb F) g) → ∀ nt : Nat → Int32, (∀ g, g < F → nt g = fy_bi (bt (fy_ed dp al eb F) g)) → J (x3 + 1) sc pc yd fl mo cl yr c tt tp us od it ip io lg att av ap so nt) :
    ∀ (k g n : Nat) (x4 : Int32) (nt : Nat → Int32), g + k = F → k < n → (∀ d, d < g → nt d = fy_bi (bt (fy_ed dp al eb F) d)) → (∀ d, g ≤ d → d < F → nt d = fy_bi (S d)) → (x4 = 0 ∨ (x4 = 1 ∧ ¬ ∀ g, g < F → S g = bt (fy_ed dp al eb F) g)) →
    wY_teardownAfter_243 post J (nI i) x3 yfc ytc yF yT (nI F) yn yev yst n x4 (nI g) sc pc yd fl mo cl yr c tt tp us od it ip io lg att av ap so nt := by
  intro k
  induction k with
  | zero =>
    intro g n x4 nt hk hn h1 h2 h3
    obtain ⟨n, rfl⟩ : ∃ r, n = r + 1 := ⟨n - 1, by omega⟩
    have e : g = F := by omega
    subst e
    refine br_t (nI_le (Nat.le_refl _) (by omega)) ?_
    rcases h3 with z | ⟨z, w⟩
    · exact br_t z (hq nt h1)
    · exact br_f (by rw [z]; decide) (nm_e (hJ w nt h1))
  | succ k ih =>
    intro g n x4 nt hk hn h1 h2 h3
    obtain ⟨n, rfl⟩ : ∃ r, n = r + 1 := ⟨n - 1, by omega⟩
    have vg : vp_in (nI g) 12 := vp_in_nI (by omega) (by decide)
    have cg : (nI g).toNatClampNeg = g := nI_clamp (by omega)
    have hE := fy_ed_p (dp := dp) (al := al) (eb := eb) (F := F) (i := g) (by omega) (by omega)
    have nx : S g = bt (fy_ed dp al eb F) g → wY_teardownAfter_243 post J (nI i) x3 yfc ytc yF yT (nI F) yn yev yst n x4 (nI (g + 1)) sc pc yd fl mo cl yr c tt tp us od it ip io lg att av ap so nt := by
      intro e
      refine ih (g + 1) n x4 nt (by omega) (by omega) (fun d hd => ?_) (fun d hd hd2 => h2 d (by omega) hd2) h3
      by_cases ed : d = g
      · subst ed
        rw [h2 d (Nat.le_refl d) (by omega), e]
      · exact h1 d (by omega)
    refine br_f (nI_ge (by omega) (by omega)) ⟨vg, ?_⟩
    rw [cg]
    rcases ha g (by omega) with ⟨a1, a2⟩ | ⟨a1, a2, a3⟩
    · refine br_t a1 (nm_e ?_)
      rw [nI_1]
      refine nx ?_
      have e1 : bt (fy_ed dp al eb F) g = false := by
        cases hb : bt (fy_ed dp al eb F) g
        · rfl
        · exact absurd a2 (hE.mp hb).1
      cases hs : S g
      · rw [e1]
      · rw [hS1 g (by omega) hs] at e1
        exact absurd e1 (by decide)
    · refine br_f (by rw [a1]; decide) ⟨vg, ?_⟩
      rw [h2 g (Nat.le_refl g) (by omega)]
      refine fy_bi_z (fun y => ?_) (fun y => nm_e ?_)
      · refine fz_hd (M := fun d => bt (fy_ed dp al eb F) d) (by omega) hyd h1 (fun hx => ?_) (fun hx => ?_)
        · have e1 : bt (fy_ed dp al eb F) g = true := hE.mpr ⟨a2, Or.inr hx⟩
          refine br_f (by decide) ⟨vg, nm_e (nm_e ?_)⟩
          rw [nI_1, fy_nr1]
          refine ih (g + 1) n 1 _ (by omega) (by omega) (fun d hd => ?_) (fun d hd hd2 => ?_) (Or.inr ⟨rfl, fun q => ?_⟩)
          · by_cases ed : d = g
            · subst ed
              rw [pk_us, e1]
              rfl
            · rw [pk_un ed]
              exact h1 d (by omega)
          · rw [pk_un (by omega)]
            exact h2 d (by omega) hd2
          · rw [q g (by omega), e1] at y
            exact absurd y (by decide)
        · refine br_t rfl (nm_e ?_)
          rw [nI_1]
          refine nx ?_
          rw [y]
          cases hb : bt (fy_ed dp al eb F) g
          · rfl
          · rcases (hE.mp hb).2 with w | ⟨d, d1, d2, d3⟩
            · rw [hS0 g (by omega) a2 w] at y
              exact absurd y (by decide)
            · exact absurd ⟨d2, d3⟩ (hx d d1)
      · rw [nI_1]
        exact nx (by rw [y, hS1 g (by omega) y])
theorem fz_231 {post : SY → Prop} {F i : Nat} {dp al : Nat → Int32} {eb : Nat → Bool} (hF : F ≤ 12) (hyd : ∀ f g, f < 12 → g < 12 → yd (f * 12 + g) = fy_bi (bt (dp f) g)) (ha : fz_al F al av ap)
    (hq : ∀ nt : Nat → Int32, (∀ g, g < F → nt g = fy_bi (bt (fy_ed dp al eb F) g)) → ∃ n, wY_teardownAfter_314 post (nI i) n 0 yfc ytc yF yT (nI F) yn yev yst sc pc yd fl mo cl yr c tt tp us od it ip io lg att av ap so nt)
    (hnt : ∀ g, g < F → nt g = fy_bi (decide (¬ al g = -1) && eb g)) : wY_teardownAfter_231 post (nI i) yfc ytc yF yT (nI F) yn yev yst 2 0 sc pc yd fl mo cl yr c tt tp us od it ip io lg att av ap so nt := by
  refine br_f (by decide) ⟨F + 1, ?_⟩
  refine fz_243 (S := fun g => decide (¬ al g = -1) && eb g) hF hyd ha (fun g hg h => ?_) (fun g hg h1 h2 => ?_) hq (fun _ nt1 h1 => ?_) F 0 (F + 1) 0 nt (by omega) (by omega) (fun d hd => absurd hd (Nat.not_lt_zero d)) (fun d _ hd => hnt d hd) (Or.inl rfl)
  · have h' : (decide (¬ al g = -1) && eb g) = true := h
    rw [Bool.and_eq_true, decide_eq_true_eq] at h'
    exact (fy_ed_p (by omega) hg).mpr ⟨h'.1, Or.inl h'.2⟩
  · show (decide (¬ al g = -1) && eb g) = true
    rw [decide_eq_true h1, h2]
    rfl
  · refine br_f (by decide) ⟨F + 1, ?_⟩
    exact fz_243 (S := fun g => bt (fy_ed dp al eb F) g) hF hyd ha (fun g hg h => h) (fun g hg h1 h2 => (fy_ed_p (by omega) hg).mpr ⟨h1, Or.inl h2⟩) hq (fun w => absurd (fun _ _ => rfl) w) F 0 (F + 1) 0 nt1 (by omega) (by omega) (fun d hd => absurd hd (Nat.not_lt_zero d)) (fun d _ hd => h1 d hd) (Or.inl rfl)
theorem fz_326 {post : SY → Prop} {J : Int32 → Int32 → Int32 → Int32 → Int32 → Int32 → Int32 → Int32 → Int32 → (Nat → Int32) → (Nat → Int32) → (Nat → Int32) → (Nat → Int32) → (Nat → Int32) → (Nat → Int32) → (Nat → Int32) → (Nat → Int32) → (Nat → Int32) → (Nat → Int32) → (Nat → Int32) → (Nat → Int32) → (Nat → Int32) → (Nat → Int32) → (Nat → Int32) → (Nat → Int32) → (Nat → Int32) → (Nat → Int32) → (Nat → Int32) → (Nat → Int32) → (Nat → Int32) → Prop} {F i b c0 : Nat} {x3 s : Int32} {e : fy_E} (hF : F ≤ 12) (ho : fy_ok F b c0 e) (hb : b < 100000) (hcc : c0 < 100000) (ha : fz_al F e.2.2.2.2.1 av ap) (hs : ∀ g, bt s g = true → g < F ∧ ¬ e.2.2.2.2.1 g = -1) (hnt : ∀ g, g < F → nt g = fy_bi (bt s g))
    (h0 : (∀ g, g < F → bt s g = false) → post (yfc, ytc, yF, yT, nI F, yn, nI e.1, nI e.2.2.2.1, sc, pc, yd, fl, mo, cl, yr, c, tt, tp, us, od, it, ip, io, e.2.1, e.2.2.1, av, ap, e.2.2.2.2.2, nt))
    (h1 : (fy_la s e.2.2.2.2.2 F).1 < F → bt s (fy_la s e.2.2.2.2.2 F).1 = true → J (x3 + 1) yfc ytc yF yT (nI F) yn (nI ((fy_of (fy_la s e.2.2.2.2.2 F).1 (fy_lo 2 i (fy_la s e.2.2.2.2.2 F).1 (e.2.2.2.2.1 (fy_la s e.2.2.2.2.2 F).1) e))).1) (nI ((fy_of (fy_la s e.2.2.2.2.2 F).1 (fy_lo 2 i (fy_la s e.2.2.2.2.2 F).1 (e.2.2.2.2.1 (fy_la s e.2.2.2.2.2 F).1) e))).2.2.2.1) sc pc yd fl mo cl yr c tt tp us od it ip io (((fy_of (fy_la s e.2.2.2.2.2 F).1 (fy_lo 2 i (fy_la s e.2.2.2.2.2 F).1 (e.2.2.2.2.1 (fy_la s e.2.2.2.2.2 F).1) e))).2.1) (((fy_of (fy_la s e.2.2.2.2.2 F).1 (fy_lo 2 i (fy_la s e.2.2.2.2.2 F).1 (e.2.2.2.2.1 (fy_la s e.2.2.2.2.2 F).1) e))).2.2.1) (upd av (fy_la s e.2.2.2.2.2 F).1 0) ap (((fy_of (fy_la s e.2.2.2.2.2 F).1 (fy_lo 2 i (fy_la s e.2.2.2.2.2 F).1 (e.2.2.2.2.1 (fy_la s e.2.2.2.2.2 F).1) e))).2.2.2.2.2) (upd nt (fy_la s e.2.2.2.2.2 F).1 0)) :
    ∀ (k g n : Nat), g + k = F → k < n → wY_teardownAfter_326 post J (nI i) x3 yfc ytc yF yT (nI F) yn (nI e.1) (nI e.2.2.2.1) sc pc yd fl mo cl yr c tt tp us od it ip io (e.2.1) (e.2.2.1) av ap (e.2.2.2.2.2) nt n (fy_B s e.2.2.2.2.2 g) (nI g) := by
  have hpos : ∀ g, g < F → bt s g = true → (0 : Int32) < e.2.2.2.2.2 g := by
    intro g hg hb2
    rcases ho.2.2 g hg with y | ⟨-, t, t1, t2, t3⟩
    · exact absurd y (hs g hb2).2
    · rw [t3]
      have := ho.2.1
      exact nI_lt (a := 0) (by omega) (by omega)
  intro k
  induction k with
  | zero =>
    intro g n hk hn
    obtain ⟨n, rfl⟩ : ∃ r, n = r + 1 := ⟨n - 1, by omega⟩
    have eg : g = F := by omega
    subst eg
    refine br_t (nI_le (Nat.le_refl _) (by omega)) ?_
    rcases fy_B_c hpos with ⟨a1, a2, a3⟩ | ⟨a1, a2, a3, a4⟩
    · rw [a2]
      exact br_f (by decide) (h0 a1)
    · rw [a4]
      have vg : vp_in (nI (fy_la s e.2.2.2.2.2 g).1) 12 := vp_in_nI (by omega) (by decide)
      have cg : (nI (fy_la s e.2.2.2.2.2 g).1).toNatClampNeg = (fy_la s e.2.2.2.2.2 g).1 := nI_clamp (by omega)
      have ea : ap (fy_la s e.2.2.2.2.2 g).1 = e.2.2.2.2.1 (fy_la s e.2.2.2.2.2 g).1 := by
        rcases ha _ a1 with ⟨-, w⟩ | ⟨-, -, w⟩
        · exact absurd w (hs _ a2).2
        · exact w
      refine br_t (nI_pos' (by omega)) ⟨vg, ?_⟩
      rw [cg, ea]
      refine fz_log (by have := ho.1; omega) ⟨vg, nm_e ⟨vg, nm_e (nm_e ?_)⟩⟩
      exact h1 a1 a2
  | succ k ih =>
    intro g n hk hn
    obtain ⟨n, rfl⟩ : ∃ r, n = r + 1 := ⟨n - 1, by omega⟩
    have vg : vp_in (nI g) 12 := vp_in_nI (by omega) (by decide)
    have cg : (nI g).toNatClampNeg = g := nI_clamp (by omega)
    have hI := ih (g + 1) n (by omega) (by omega)
    have hpg : ∀ d, d < g → bt s d = true → (0 : Int32) < e.2.2.2.2.2 d := fun d hd => hpos d (by omega)
    unfold fy_B at hI
    rw [fy_la] at hI
    refine br_f (nI_ge (by omega) (by omega)) ⟨vg, ?_⟩
    rw [cg, hnt g (by omega)]
    refine fy_bi_z (fun y => nm_e ?_) (fun y => ⟨vg, ?_⟩)
    · rw [if_neg (show ¬ (bt s g = true ∧ (fy_la s e.2.2.2.2.2 g).2 < e.2.2.2.2.2 g) from fun q => by rw [y] at q; exact absurd q.1 (by decide))] at hI
      rw [nI_1]
      exact hI
    · have av1 : av g = 1 := by
        rcases ha g (by omega) with ⟨-, w⟩ | ⟨w, -, -⟩
        · exact absurd w (hs g y).2
        · exact w
      refine br_f (by rw [av1]; decide) ?_
      have hp0 := hpos g (by omega) y
      rcases fy_B_c hpg with ⟨a1, a2, a3⟩ | ⟨a1, a2, a3, a4⟩
      · rw [if_pos (show bt s g = true ∧ (fy_la s e.2.2.2.2.2 g).2 < e.2.2.2.2.2 g from ⟨y, by rw [a3]; exact hp0⟩), if_neg (fun q => by have q' : e.2.2.2.2.2 g = 0 := q; rw [q'] at hp0; exact absurd hp0 (by decide))] at hI
        rw [a2]
        refine br_t (by decide) (nm_e ?_)
        rw [nI_1]
        exact hI
      · have cl1 : (nI (fy_la s e.2.2.2.2.2 g).1).toNatClampNeg = (fy_la s e.2.2.2.2.2 g).1 := nI_clamp (by omega)
        rw [a4]
        refine br_f (nI_pos (by omega)) ⟨vg, vp_in_nI (by omega) (by decide), ?_⟩
        rw [cl1, ← a3]
        by_cases w : (fy_la s e.2.2.2.2.2 g).2 < e.2.2.2.2.2 g
        · rw [if_pos (show bt s g = true ∧ (fy_la s e.2.2.2.2.2 g).2 < e.2.2.2.2.2 g from ⟨y, w⟩), if_neg (fun q => by have q' : e.2.2.2.2.2 g = 0 := q; rw [q'] at hp0; exact absurd hp0 (by decide))] at hI
          refine br_f (Int32.not_le.mpr w) (nm_e ?_)
          rw [nI_1]
          exact hI
        · rw [if_neg (show ¬ (bt s g = true ∧ (fy_la s e.2.2.2.2.2 g).2 < e.2.2.2.2.2 g) from fun q => w q.2)] at hI
          refine br_t (Int32.not_lt.mp w) (nm_e ?_)
          rw [nI_1]
          unfold fy_B at a4
          rw [a4] at hI
          exact hI
theorem fz_314 {post : SY → Prop} {F i : Nat} (hF : F ≤ 12) : ∀ (k x n b c0 : Nat) (s : Int32) (e : fy_E) (av nt : Nat → Int32), x + k = F → k < n → fy_ok F b c0 e → b + k < 100000 → c0 < 100000 → fz_al F e.2.2.2.2.1 av ap → (∀ g, bt s g = true → g < F ∧ ¬ e.2.2.2.2.1 g = -1) → (∀ g, g < F → nt g = fy_bi (bt s g)) → fy_cn s F ≤ k →
    (∀ av nt : Nat → Int32, fz_al F (fy_td F i k s e).2.2.2.2.1 av ap → post (yfc, ytc, yF, yT, nI F, yn, nI ((fy_td F i k s e)).1, nI ((fy_td F i k s e)).2.2.2.1, sc, pc, yd, fl, mo, cl, yr, c, tt, tp, us, od, it, ip, io, ((fy_td F i k s e)).2.1, ((fy_td F i k s e)).2.2.1, av, ap, ((fy_td F i k s e)).2.2.2.2.2, nt)) →
    wY_teardownAfter_314 post (nI i) n (nI x) yfc ytc yF yT (nI F) yn (nI e.1) (nI e.2.2.2.1) sc pc yd fl mo cl yr c tt tp us od it ip io (e.2.1) (e.2.2.1) av ap (e.2.2.2.2.2) nt := by
  intro k
  induction k with
  | zero =>
    intro x n b c0 s e av nt hk hn ho hb hcc ha hs hnt hcn h
    obtain ⟨n, rfl⟩ : ∃ r, n = r + 1 := ⟨n - 1, by omega⟩
    have hno := fy_cn_0 (s := s) (F := F) (by omega)
    refine pk_le 12 x (fun z => h av nt ha) (fun z => ⟨F + 1, ?_⟩)
    refine fz_326 (b := b) (c0 := c0) hF ho (by omega) hcc ha hs hnt (fun _ => h av nt ha) (fun w1 w2 => ?_) F 0 (F + 1) (by omega) (by omega)
    rw [hno _ w1] at w2
    exact absurd w2 (by decide)
  | succ k ih =>
    intro x n b c0 s e av nt hk hn ho hb hcc ha hs hnt hcn h
    obtain ⟨n, rfl⟩ : ∃ r, n = r + 1 := ⟨n - 1, by omega⟩
    rw [fy_td] at h
    refine br_f (nI_ge (b := 12) (by omega) (by decide)) ⟨F + 1, ?_⟩
    refine fz_326 (b := b) (c0 := c0) hF ho (by omega) hcc ha hs hnt (fun w => ?_) (fun w1 w2 => ?_) F 0 (F + 1) (by omega) (by omega)
    · have z : s = 0 := by
        rw [fy_z]
        intro g hg
        cases hb2 : bt s g
        · rfl
        · rw [w g (hs g hb2).1] at hb2
          exact absurd hb2 (by decide)
      rw [if_pos z] at h
      exact h av nt ha
    · have z : ¬ s = 0 := fun q => by rw [q, b_0] at w2; exact absurd w2 (by decide)
      rw [if_neg z] at h
      rw [nI_1]
      have hcl := fy_cn_clr w2 (by omega) F (by omega) w1
      refine ih (x + 1) n (b + 1) c0 _ _ _ _ (by omega) (by omega) (fy_ok_of (fy_ok_lo ho)) (by omega) hcc (fz_al_of ha) (fun g hg => ?_) (fun g hg => ?_) (by omega) h
      · have g32 : g < 32 := by
          rcases Nat.lt_or_ge g 32 with y | y
          · exact y
          · rw [b_big y] at hg
            exact absurd hg (by decide)
        rw [fy_clr s (by omega) g32, Bool.and_eq_true, Bool.not_eq_true', decide_eq_false_iff_not] at hg
        refine ⟨(hs g hg.1).1, ?_⟩
        show ¬ upd e.2.2.2.2.1 (fy_la s e.2.2.2.2.2 F).1 (-1) g = -1
        rw [pk_un hg.2]
        exact (hs g hg.1).2
      · rw [fy_clr s (by omega) (by omega)]
        by_cases eg : g = (fy_la s e.2.2.2.2.2 F).1
        · rw [eg, pk_us, decide_eq_true rfl, Bool.not_true, Bool.and_false]
          rfl
        · rw [pk_un eg, decide_eq_false eg, Bool.not_false, Bool.and_true]
          exact hnt g hg
theorem fz_td {post : SY → Prop} {F m i b c0 : Nat} {dp : Nat → Int32} {Tj : Nat → Nat} {Dj : Nat → Nat → Nat} {e : fy_E} (hF : F ≤ 12) (hm : m ≤ 64) (hi : i < m) (hyd : ∀ f g, f < 12 → g < 12 → yd (f * 12 + g) = fy_bi (bt (dp f) g)) (hit : fz_it m Tj Dj it ip) (ho : fy_ok F b c0 e) (hb : b < 50000) (hcc : c0 < 50000) (ha : fz_al F e.2.2.2.2.1 av ap)
    (h : ∀ av nt : Nat → Int32, fz_al F (fy_td F i F (fy_ed dp e.2.2.2.2.1 (fy_eb sc mo cl Tj Dj m i e.2.2.2.2.1) F) e).2.2.2.2.1 av ap → post (yfc, ytc, yF, yT, nI F, nI m, nI ((fy_td F i F (fy_ed dp e.2.2.2.2.1 (fy_eb sc mo cl Tj Dj m i e.2.2.2.2.1) F) e)).1, nI ((fy_td F i F (fy_ed dp e.2.2.2.2.1 (fy_eb sc mo cl Tj Dj m i e.2.2.2.2.1) F) e)).2.2.2.1, sc, pc, yd, fl, mo, cl, yr, c, tt, tp, us, od, it, ip, io, ((fy_td F i F (fy_ed dp e.2.2.2.2.1 (fy_eb sc mo cl Tj Dj m i e.2.2.2.2.1) F) e)).2.1, ((fy_td F i F (fy_ed dp e.2.2.2.2.1 (fy_eb sc mo cl Tj Dj m i e.2.2.2.2.1) F) e)).2.2.1, av, ap, ((fy_td F i F (fy_ed dp e.2.2.2.2.1 (fy_eb sc mo cl Tj Dj m i e.2.2.2.2.1) F) e)).2.2.2.2.2, nt)) :
    wpY_teardownAfter post (yfc, ytc, yF, yT, nI F, nI m, nI e.1, nI e.2.2.2.1, sc, pc, yd, fl, mo, cl, yr, c, tt, tp, us, od, it, ip, io, e.2.1, e.2.2.1, av, ap, e.2.2.2.2.2, nt) (nI i) := by
  have main : wY_teardownAfter_18 post (nI i) (fy_bi (decide (m ≤ i + 1))) yfc ytc yF yT (nI F) (nI m) (nI e.1) (nI e.2.2.2.1) (F + 1) (nI 0) sc pc yd fl mo cl yr c tt tp us od it ip io (e.2.1) (e.2.2.1) av ap (e.2.2.2.2.2) nt := by
    refine fz_18 (al := e.2.2.2.2.1) hF hm hi hit ha (fun nt1 h1 => ⟨2, ?_⟩) F 0 (F + 1) nt (by omega) (by omega) (fun d hd => absurd hd (Nat.not_lt_zero d))
    refine fz_231 hF hyd ha (fun nt2 h2 => ⟨F + 1, ?_⟩) h1
    exact fz_314 hF F 0 (F + 1) b c0 _ e av nt2 (by omega) (by omega) ho (by omega) (by omega) ha (fy_ed_al hF) h2 (fy_cn_le _ F) h
  have hx : nI m - 1 = nI (m - 1) := pk_sub (b := 1) (by omega)
  unfold wpY_teardownAfter
  refine pk_eq i (m - 1) (fun z => ⟨F + 1, ?_⟩) (fun z => ⟨F + 1, ?_⟩) rfl hx
  · rw [decide_eq_true (show m ≤ i + 1 by omega)] at main
    exact main
  · rw [decide_eq_false (show ¬ m ≤ i + 1 by omega)] at main
    exact main
end
