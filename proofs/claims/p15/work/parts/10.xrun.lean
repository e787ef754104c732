/-! X: teardown, an execution, a run -/
section
variable {xfc xtc xF xT xn xev xst : Int32} {sc pc dp fl mo cl rq te pa oc lg att al so : Nat → Int32} {ke : Nat → Int64}
/-- the items in their order: test and digits of each below m -/
def fx_it (m : Nat) (Tj : Nat → Nat) (Dj : Nat → Nat → Nat) (te pa : Nat → Int32) : Prop := ∀ j, j < m → Tj j < 16 ∧ te j = nI (Tj j) ∧ (∀ f, Dj j f < 4) ∧ pa j = nI (fy_en (Dj j) 12)
theorem fx_eb {post : Int32 → Prop} {m i g : Nat} {Tj : Nat → Nat} {Dj : Nat → Nat → Nat} (hm : m ≤ 64) (hi : i < m) (hg : g < 12) (hit : fx_it m Tj Dj te pa) (h : post (fy_bi (fy_eb sc mo cl Tj Dj m i al g))) : wpX_endsByItself post (xfc, xtc, xF, xT, nI m, xev, xst, sc, pc, dp, fl, mo, cl, rq, te, pa, ke, oc, lg, att, al, so) (nI i) (nI g) := by
  have vi : vp_in (nI i) 64 := vp_in_nI (by omega) (by decide)
  have ci : (nI i).toNatClampNeg = i := nI_clamp (by omega)
  have vg : vp_in (nI g) 12 := vp_in_nI (by omega) (by decide)
  have cg : (nI g).toNatClampNeg = g := nI_clamp (by omega)
  obtain ⟨t1, t2, -, -⟩ := hit i hi
  have vt : vp_in (nI (Tj i)) 16 := vp_in_nI t1 (by decide)
  have ct : (nI (Tj i)).toNatClampNeg = Tj i := nI_clamp (by omega)
  have pt : fy_eb sc mo cl Tj Dj m i al g = true → post 1 := fun z => by rw [z] at h; exact h
  have pf : fy_eb sc mo cl Tj Dj m i al g = false → post 0 := fun z => by rw [z] at h; exact h
  unfold wpX_endsByItself
  refine nm_r (nI_1 i) ⟨vg, ?_⟩
  rw [cg]
  by_cases z3 : sc g = 3
  · exact br_t z3 (pt (decide_eq_true (Or.inl z3)))
  refine br_f z3 (pk_lt (i + 1) m (fun hn => ⟨vp_in_nI (by omega) (by decide), ?_⟩) (fun hn => pt (decide_eq_true (Or.inr (Or.inl hn)))))
  have vn : vp_in (nI (i + 1)) 64 := vp_in_nI (by omega) (by decide)
  have cn : (nI (i + 1)).toNatClampNeg = i + 1 := nI_clamp (by omega)
  obtain ⟨n1, n2, n3, n4⟩ := hit (i + 1) hn
  have vu : vp_in (nI (Tj (i + 1))) 16 := vp_in_nI n1 (by decide)
  have cu : (nI (Tj (i + 1))).toNatClampNeg = Tj (i + 1) := nI_clamp (by omega)
  rw [cn, n4]
  have E : fy_eb sc mo cl Tj Dj m i al g = decide ((¬ Dj (i + 1) g = 0 ∧ ¬ nI (Dj (i + 1) g - 1) = al g) ∨ (sc g = 2 ∧ ¬ (mo (Tj i) = mo (Tj (i + 1)) ∧ cl (Tj i) = cl (Tj (i + 1)))) ∨ (sc g = 1 ∧ ¬ mo (Tj i) = mo (Tj (i + 1)))) := by
    unfold fy_eb
    exact decide_eq_decide.mpr ⟨fun q => q.elim (fun y => absurd y z3) (fun y => y.elim (fun w => by omega) id), fun q => Or.inr (Or.inr q)⟩
  have tail : ¬ (¬ Dj (i + 1) g = 0 ∧ ¬ nI (Dj (i + 1) g - 1) = al g) → wX_endsByItself_54 post (nI i) (nI g) (nI (i + 1)) xfc xtc xF xT (nI m) xev xst sc pc dp fl mo cl rq te pa ke oc lg att al so := by
    intro nw
    have E2 : fy_eb sc mo cl Tj Dj m i al g = decide ((sc g = 2 ∧ ¬ (mo (Tj i) = mo (Tj (i + 1)) ∧ cl (Tj i) = cl (Tj (i + 1)))) ∨ (sc g = 1 ∧ ¬ mo (Tj i) = mo (Tj (i + 1)))) := by
      rw [E]
      exact decide_eq_decide.mpr ⟨fun q => q.elim (fun y => absurd y nw) id, Or.inr⟩
    unfold wX_endsByItself_54
    rw [ci, cn, t2, n2, ct, cu]
    refine ⟨vi, vt, vn, vu, ?_⟩
    by_cases y1 : mo (Tj i) = mo (Tj (i + 1))
    · refine br_t y1 ?_
      unfold wX_endsByItself_84
      rw [ci, cn, t2, n2, ct, cu]
      refine br_f (by decide) ⟨vi, vt, vn, vu, ?_⟩
      by_cases y2 : cl (Tj i) = cl (Tj (i + 1))
      · refine br_t y2 ?_
        have pz := pf (by rw [E2]; exact decide_eq_false (fun q => q.elim (fun w => w.2 ⟨y1, y2⟩) (fun w => w.2 y1)))
        unfold wX_endsByItself_121
        rw [cg]
        refine ⟨vg, br_c (fun _ => br_f (by decide) ?_) (fun _ => ?_)⟩
        · unfold wX_endsByItself_138
          rw [cg]
          exact ⟨vg, br_c (fun _ => br_f (by decide) pz) (fun _ => pz)⟩
        · unfold wX_endsByItself_138
          rw [cg]
          exact ⟨vg, br_c (fun _ => br_f (by decide) pz) (fun _ => pz)⟩
      · refine br_f y2 ?_
        unfold wX_endsByItself_120 wX_endsByItself_121
        rw [cg]
        refine ⟨vg, br_c (fun w => br_t rfl (pt (by rw [E2]; exact decide_eq_true (Or.inl ⟨w, fun q => y2 q.2⟩)))) (fun w => ?_)⟩
        unfold wX_endsByItself_138
        rw [cg]
        have pz := pf (by rw [E2]; exact decide_eq_false (fun q => q.elim (fun v => w v.1) (fun v => v.2 y1)))
        exact ⟨vg, br_c (fun _ => br_f (by decide) pz) (fun _ => pz)⟩
    · refine br_f y1 ?_
      unfold wX_endsByItself_84
      refine br_t rfl ?_
      unfold wX_endsByItself_120 wX_endsByItself_121
      rw [cg]
      refine ⟨vg, br_c (fun w => br_t rfl (pt (by rw [E2]; exact decide_eq_true (Or.inl ⟨w, fun q => y1 q.1⟩)))) (fun w => ?_)⟩
      unfold wX_endsByItself_138
      rw [cg]
      exact ⟨vg, br_c (fun v => br_t rfl (pt (by rw [E2]; exact decide_eq_true (Or.inr ⟨v, y1⟩)))) (fun v => pf (by rw [E2]; exact decide_eq_false (fun q => q.elim (fun a => w a.1) (fun a => v a.1))))⟩
  refine fx_pin n3 hg (fy_ge (Dj (i + 1) g) (n3 g) (fun z => tail (fun q => q.1 z)) (fun p hp hp3 => ⟨vg, ?_⟩))
  rw [hp, fy_ms]
  by_cases y : nI p = al g
  · exact br_t y (tail (fun q => q.2 (by rw [hp, Nat.add_sub_cancel]; exact y)))
  · exact br_f y (pt (by rw [E]; exact decide_eq_true (Or.inl ⟨by omega, by rw [hp, Nat.add_sub_cancel]; exact y⟩)))
theorem fx_ed1 {post : Int32 → Prop} {F m i : Nat} {Tj : Nat → Nat} {Dj : Nat → Nat → Nat} (hF : F ≤ 12) (hm : m ≤ 64) (hi : i < m) (hit : fx_it m Tj Dj te pa) :
    ∀ (k g n : Nat), g + k = F → k < n → post (fy_ed dp al (fy_eb sc mo cl Tj Dj m i al) F) → wX_endingAfter_4 post (nI i) xfc xtc (nI F) xT (nI m) xev xst sc pc dp fl mo cl rq te pa ke oc lg att al so n (fy_ed dp al (fy_eb sc mo cl Tj Dj m i al) g) (nI g) := by
  intro k
  induction k with
  | zero =>
    intro g n hk hn h
    obtain ⟨n, rfl⟩ : ∃ r, n = r + 1 := ⟨n - 1, by omega⟩
    have e : g = F := by omega
    subst e
    exact br_t (nI_le (Nat.le_refl _) (by omega)) h
  | succ k ih =>
    intro g n hk hn h
    obtain ⟨n, rfl⟩ : ∃ r, n = r + 1 := ⟨n - 1, by omega⟩
    have hI := ih (g + 1) n (by omega) (by omega) h
    have vg : vp_in (nI g) 12 := vp_in_nI (by omega) (by decide)
    have cg : (nI g).toNatClampNeg = g := nI_clamp (by omega)
    rw [fy_ed] at hI
    refine br_f (nI_ge (by omega) (by omega)) ⟨vg, ?_⟩
    rw [cg]
    by_cases z : al g = -1
    · rw [if_neg (fun q => q.1 z)] at hI
      refine br_t z (nm_e ?_)
      rw [nI_1]
      exact hI
    · have join : (¬ (dp g &&& fy_ed dp al (fy_eb sc mo cl Tj Dj m i al) g) = 0 ∨ fy_eb sc mo cl Tj Dj m i al g = true) → wX_endingAfter_45 post (wX_endingAfter_4 post (nI i) xfc xtc (nI F) xT (nI m) xev xst sc pc dp fl mo cl rq te pa ke oc lg att al so n) (nI i) (fy_ed dp al (fy_eb sc mo cl Tj Dj m i al) g) (nI g) xfc xtc (nI F) xT (nI m) xev xst sc pc dp fl mo cl rq te pa ke oc lg att al so := by
        intro q
        rw [if_pos ⟨z, q⟩] at hI
        unfold wX_endingAfter_45
        refine nm_e (nm_e ?_)
        rw [nI_1]
        exact hI
      refine br_f z ⟨vg, ?_⟩
      by_cases y : (dp g &&& fy_ed dp al (fy_eb sc mo cl Tj Dj m i al) g) = 0
      · refine br_t y (fx_eb hm hi (by omega) hit (fy_bi_z (fun w => nm_e ?_) (fun w => join (Or.inr w))))
        rw [if_neg (fun q => q.2.elim (fun v => v y) (fun v => by rw [w] at v; exact absurd v (by decide)))] at hI
        rw [nI_1]
        exact hI
      · exact br_f y (join (Or.inl y))
theorem fx_ed {post : Int32 → Prop} {F m i : Nat} {Tj : Nat → Nat} {Dj : Nat → Nat → Nat} (hF : F ≤ 12) (hm : m ≤ 64) (hi : i < m) (hit : fx_it m Tj Dj te pa) (h : post (fy_ed dp al (fy_eb sc mo cl Tj Dj m i al) F)) : wpX_endingAfter post (xfc, xtc, nI F, xT, nI m, xev, xst, sc, pc, dp, fl, mo, cl, rq, te, pa, ke, oc, lg, att, al, so) (nI i) := by
  unfold wpX_endingAfter
  exact ⟨F + 1, fx_ed1 hF hm hi hit F 0 (F + 1) (by omega) (by omega) h⟩
theorem fx_td1 {post : St2 → Prop} {F i : Nat} (hF : F ≤ 12) : ∀ (k x n b c : Nat) (s : Int32) (e : fy_E), x + k = F → k < n → fy_ok F b c e → b + k < 100000 → c < 100000 → (∀ g, bt s g = true → g < F ∧ ¬ e.2.2.2.2.1 g = -1) → post (xfc, xtc, nI F, xT, xn, nI ((fy_td F i k s e)).1, nI ((fy_td F i k s e)).2.2.2.1, sc, pc, dp, fl, mo, cl, rq, te, pa, ke, oc, ((fy_td F i k s e)).2.1, ((fy_td F i k s e)).2.2.1, ((fy_td F i k s e)).2.2.2.2.1, ((fy_td F i k s e)).2.2.2.2.2) →
    wX_tearDownAfter_8 post (nI i) n s (nI x) xfc xtc (nI F) xT xn (nI e.1) (nI e.2.2.2.1) sc pc dp fl mo cl rq te pa ke oc (e.2.1) (e.2.2.1) (e.2.2.2.2.1) (e.2.2.2.2.2) := by
  intro k
  induction k with
  | zero =>
    intro x n b c s e hk hn ho hb hcc hs h
    obtain ⟨n, rfl⟩ : ∃ r, n = r + 1 := ⟨n - 1, by omega⟩
    have ex : x = F := by omega
    subst ex
    exact br_t (nI_le (Nat.le_refl _) (by omega)) h
  | succ k ih =>
    intro x n b c s e hk hn ho hb hcc hs h
    obtain ⟨n, rfl⟩ : ∃ r, n = r + 1 := ⟨n - 1, by omega⟩
    rw [fy_td] at h
    refine br_f (nI_ge (by omega) (by omega)) ?_
    by_cases z : s = 0
    · rw [if_pos z] at h
      exact br_t z h
    · rw [if_neg z] at h
      have hpos : ∀ g, g < F → bt s g = true → (0 : Int32) < e.2.2.2.2.2 g := by
        intro g hg hb2
        rcases ho.2.2 g hg with y | ⟨-, t, t1, t2, t3⟩
        · exact absurd y (hs g hb2).2
        · rw [t3]
          have := ho.2.1
          exact nI_lt (a := 0) (by omega) (by omega)
      obtain ⟨w, w1, w2⟩ := fy_nz z
      have wF := (hs w w2).1
      rcases fy_la_p F hpos with ⟨a1, a2⟩ | ⟨a1, a2, a3, a4⟩
      · rw [a1 w wF] at w2
        exact absurd w2 (by decide)
      · have vg : vp_in (nI (fy_la s e.2.2.2.2.2 F).1) 12 := vp_in_nI (by omega) (by decide)
        have cg : (nI (fy_la s e.2.2.2.2.2 F).1).toNatClampNeg = (fy_la s e.2.2.2.2.2 F).1 := nI_clamp (by omega)
        refine br_f z (fx_la hF ⟨vg, ?_⟩)
        rw [cg]
        refine fx_log2 (by have := ho.1; omega) ⟨vg, nm_e (nm_e (nm_e ?_))⟩
        rw [nI_1]
        refine ih (x + 1) n (b + 1) c _ _ (by omega) (by omega) (fy_ok_of (fy_ok_lo ho)) (by omega) hcc (fun g hg => ?_) h
        have g32 : g < 32 := by
          rcases Nat.lt_or_ge g 32 with y | y
          · exact y
          · rw [b_big y] at hg
            exact absurd hg (by decide)
        rw [fy_clr s (by omega) g32, Bool.and_eq_true, Bool.not_eq_true', decide_eq_false_iff_not] at hg
        refine ⟨(hs g hg.1).1, ?_⟩
        show ¬ upd e.2.2.2.2.1 (fy_la s e.2.2.2.2.2 F).1 (-1) g = -1
        rw [pk_un hg.2]
        exact (hs g hg.1).2
theorem fy_ed_al {dp al : Nat → Int32} {eb : Nat → Bool} {F : Nat} (hF : F ≤ 12) : ∀ g, bt (fy_ed dp al eb F) g = true → g < F ∧ ¬ al g = -1 := by
  intro g hg
  rcases Nat.lt_or_ge g F with z | z
  · exact ⟨z, ((fy_ed_p (by omega) z).mp hg).1⟩
  · rw [fy_ed_hi F (by omega) g z] at hg
    exact absurd hg (by decide)
theorem fx_td {post : St2 → Prop} {F m i b c : Nat} {Tj : Nat → Nat} {Dj : Nat → Nat → Nat} {e : fy_E} (hF : F ≤ 12) (hm : m ≤ 64) (hi : i < m) (hit : fx_it m Tj Dj te pa) (ho : fy_ok F b c e) (hb : b < 50000) (hcc : c < 50000)
    (h : post (xfc, xtc, nI F, xT, nI m, nI ((fy_td F i F (fy_ed dp e.2.2.2.2.1 (fy_eb sc mo cl Tj Dj m i e.2.2.2.2.1) F) e)).1, nI ((fy_td F i F (fy_ed dp e.2.2.2.2.1 (fy_eb sc mo cl Tj Dj m i e.2.2.2.2.1) F) e)).2.2.2.1, sc, pc, dp, fl, mo, cl, rq, te, pa, ke, oc, ((fy_td F i F (fy_ed dp e.2.2.2.2.1 (fy_eb sc mo cl Tj Dj m i e.2.2.2.2.1) F) e)).2.1, ((fy_td F i F (fy_ed dp e.2.2.2.2.1 (fy_eb sc mo cl Tj Dj m i e.2.2.2.2.1) F) e)).2.2.1, ((fy_td F i F (fy_ed dp e.2.2.2.2.1 (fy_eb sc mo cl Tj Dj m i e.2.2.2.2.1) F) e)).2.2.2.2.1, ((fy_td F i F (fy_ed dp e.2.2.2.2.1 (fy_eb sc mo cl Tj Dj m i e.2.2.2.2.1) F) e)).2.2.2.2.2)) : wpX_tearDownAfter post (xfc, xtc, nI F, xT, nI m, nI e.1, nI e.2.2.2.1, sc, pc, dp, fl, mo, cl, rq, te, pa, ke, oc, e.2.1, e.2.2.1, e.2.2.2.2.1, e.2.2.2.2.2) (nI i) := by
  unfold wpX_tearDownAfter
  refine fx_ed hF hm hi hit ⟨F + 1, ?_⟩
  exact fx_td1 hF F 0 (F + 1) b c _ e (by omega) (by omega) ho (by omega) (by omega) (fy_ed_al hF) h
theorem fx_cx2 {post : St2 → Prop} : ∀ (k x n : Nat), x + k = 12 → k < n → post (xfc, xtc, xF, xT, xn, xev, xst, sc, pc, dp, fl, mo, cl, rq, te, pa, ke, oc, lg, att, fy_fill al (-1) 12, so) → wX_clearExecution_33 post xfc xtc xF xT xn xev xst n (nI x) sc pc dp fl mo cl rq te pa ke oc lg att (fy_fill al (-1) x) so := by
  intro k
  induction k with
  | zero =>
    intro x n hk hn h
    obtain ⟨n, rfl⟩ : ∃ r, n = r + 1 := ⟨n - 1, by omega⟩
    have e : x = 12 := by omega
    subst e
    exact br_t (by decide) h
  | succ k ih =>
    intro x n hk hn h
    obtain ⟨n, rfl⟩ : ∃ r, n = r + 1 := ⟨n - 1, by omega⟩
    refine br_f (nI_ge (b := 12) (by omega) (by decide)) ⟨vp_in_nI (by omega) (by decide), nm_e (nm_e ?_)⟩
    rw [nI_clamp (by omega), nI_1]
    exact ih (x + 1) n (by omega) (by omega) h
theorem fx_cx1 {post : St2 → Prop} : ∀ (k x n : Nat), x + k = 36 → k < n → post (xfc, xtc, xF, xT, xn, xev, xst, sc, pc, dp, fl, mo, cl, rq, te, pa, ke, oc, lg, fy_fill att 0 36, fy_fill al (-1) 12, so) → wX_clearExecution_12 post xfc xtc xF xT xn xev xst n (nI x) sc pc dp fl mo cl rq te pa ke oc lg (fy_fill att 0 x) al so := by
  intro k
  induction k with
  | zero =>
    intro x n hk hn h
    obtain ⟨n, rfl⟩ : ∃ r, n = r + 1 := ⟨n - 1, by omega⟩
    have e : x = 36 := by omega
    subst e
    exact br_t (by decide) ⟨13, fx_cx2 12 0 13 (by omega) (by omega) h⟩
  | succ k ih =>
    intro x n hk hn h
    obtain ⟨n, rfl⟩ : ∃ r, n = r + 1 := ⟨n - 1, by omega⟩
    refine br_f (nI_ge (b := 36) (by omega) (by decide)) ⟨vp_in_nI (by omega) (by decide), nm_e (nm_e ?_)⟩
    rw [nI_clamp (by omega), nI_1]
    exact ih (x + 1) n (by omega) (by omega) h
/-- an execution's beginning -/
def fy_e0 (lg att al so : Nat → Int32) : fy_E := (0, lg, fy_fill att 0 36, 0, fy_fill al (-1) 12, so)
theorem fy_e0_ok {F : Nat} (hF : F ≤ 12) {lg att al so : Nat → Int32} : fy_ok F 0 0 (fy_e0 lg att al so) := ⟨Nat.le_refl 0, Nat.le_refl 0, fun f hf => Or.inl (fy_fill_e (by omega))⟩
theorem fx_cx {post : St2 → Prop} (h : post (xfc, xtc, xF, xT, xn, nI (fy_e0 lg att al so).1, nI (fy_e0 lg att al so).2.2.2.1, sc, pc, dp, fl, mo, cl, rq, te, pa, ke, oc, (fy_e0 lg att al so).2.1, (fy_e0 lg att al so).2.2.1, (fy_e0 lg att al so).2.2.2.2.1, (fy_e0 lg att al so).2.2.2.2.2)) : wpX_clearExecution post (xfc, xtc, xF, xT, xn, xev, xst, sc, pc, dp, fl, mo, cl, rq, te, pa, ke, oc, lg, att, al, so) := by
  unfold wpX_clearExecution
  exact ⟨37, fx_cx1 36 0 37 (by omega) (by omega) h⟩
theorem fx_ex1 {post : St2 → Prop} {F m : Nat} {Tj : Nat → Nat} {Dj : Nat → Nat → Nat} {e0 : fy_E} (hF : F ≤ 12) (hm : m ≤ 64) (hit : fx_it m Tj Dj te pa) (hD : ∀ j f, Dj j f < 4) (h0 : fy_ok F 0 0 e0)
    (h : ∀ oc : Nat → Int32, (∀ j, j < m → oc j = fy_ou fl sc mo cl dp Tj Dj m F e0 j) → post (xfc, xtc, nI F, xT, nI m, nI ((fy_ex fl sc mo cl dp Tj Dj m F e0 m)).1, nI ((fy_ex fl sc mo cl dp Tj Dj m F e0 m)).2.2.2.1, sc, pc, dp, fl, mo, cl, rq, te, pa, ke, oc, ((fy_ex fl sc mo cl dp Tj Dj m F e0 m)).2.1, ((fy_ex fl sc mo cl dp Tj Dj m F e0 m)).2.2.1, ((fy_ex fl sc mo cl dp Tj Dj m F e0 m)).2.2.2.2.1, ((fy_ex fl sc mo cl dp Tj Dj m F e0 m)).2.2.2.2.2)) :
    ∀ (k i n : Nat) (oc : Nat → Int32), i + k = m → k < n → (∀ j, j < i → oc j = fy_ou fl sc mo cl dp Tj Dj m F e0 j) →
    wX_executeItems_6 post n (nI i) xfc xtc (nI F) xT (nI m) (nI ((fy_ex fl sc mo cl dp Tj Dj m F e0 i)).1) (nI ((fy_ex fl sc mo cl dp Tj Dj m F e0 i)).2.2.2.1) sc pc dp fl mo cl rq te pa ke oc (((fy_ex fl sc mo cl dp Tj Dj m F e0 i)).2.1) (((fy_ex fl sc mo cl dp Tj Dj m F e0 i)).2.2.1) (((fy_ex fl sc mo cl dp Tj Dj m F e0 i)).2.2.2.2.1) (((fy_ex fl sc mo cl dp Tj Dj m F e0 i)).2.2.2.2.2) := by
  intro k
  induction k with
  | zero =>
    intro i n oc hk hn ho
    obtain ⟨n, rfl⟩ : ∃ r, n = r + 1 := ⟨n - 1, by omega⟩
    have e : i = m := by omega
    subst e
    exact br_t (nI_le (Nat.le_refl _) (by omega)) (h oc ho)
  | succ k ih =>
    intro i n oc hk hn ho
    obtain ⟨n, rfl⟩ : ∃ r, n = r + 1 := ⟨n - 1, by omega⟩
    obtain ⟨-, -, -, hpa⟩ := hit i (by omega)
    have hok := fy_ok_ex (fl := fl) (sc := sc) (mo := mo) (cl := cl) (dp := dp) (T := Tj) (n := m) hF hD h0 i
    have hok2 := fy_ok_su (fl := fl) (i := i) (hD i) F 0 _ _ _ hok
    have st : ∀ b : Bool, (fy_su fl (Dj i) i F 0 (fy_ex fl sc mo cl dp Tj Dj m F e0 i)).2 = b → ∀ j, j < i + 1 → upd oc i (if b = true then 1 else 2) j = fy_ou fl sc mo cl dp Tj Dj m F e0 j := by
      intro b hb j hj
      by_cases e : j = i
      · subst e
        rw [pk_us]
        unfold fy_ou
        rw [hb]
      · rw [pk_un e]
        exact ho j (by omega)
    refine br_f (nI_ge (by omega) (by omega)) ?_
    refine fx_su hF (by omega) (hD i) hpa hok (by omega) (by omega) ?_
    refine fy_bi_z (fun y => ?_) (fun y => ?_)
    · unfold wX_executeItems_32
      refine ⟨vp_in_nI (by omega) (by decide), nm_e ?_⟩
      rw [nI_clamp (by omega)]
      refine fx_td hF hm (by omega) hit hok2 (by omega) (by omega) (nm_e ?_)
      rw [nI_1]
      exact ih (i + 1) n _ (by omega) (by omega) (st false y)
    · unfold wX_executeItems_32
      refine ⟨vp_in_nI (by omega) (by decide), nm_e ?_⟩
      rw [nI_clamp (by omega)]
      refine fx_td hF hm (by omega) hit hok2 (by omega) (by omega) (nm_e ?_)
      rw [nI_1]
      exact ih (i + 1) n _ (by omega) (by omega) (st true y)
theorem fx_ex {post : St2 → Prop} {F m : Nat} {Tj : Nat → Nat} {Dj : Nat → Nat → Nat} (hF : F ≤ 12) (hm : m ≤ 64) (hit : fx_it m Tj Dj te pa) (hD : ∀ j f, Dj j f < 4)
    (h : ∀ oc : Nat → Int32, (∀ j, j < m → oc j = fy_ou fl sc mo cl dp Tj Dj m F (fy_e0 lg att al so) j) → post (xfc, xtc, nI F, xT, nI m, nI ((fy_ex fl sc mo cl dp Tj Dj m F (fy_e0 lg att al so) m)).1, nI ((fy_ex fl sc mo cl dp Tj Dj m F (fy_e0 lg att al so) m)).2.2.2.1, sc, pc, dp, fl, mo, cl, rq, te, pa, ke, oc, ((fy_ex fl sc mo cl dp Tj Dj m F (fy_e0 lg att al so) m)).2.1, ((fy_ex fl sc mo cl dp Tj Dj m F (fy_e0 lg att al so) m)).2.2.1, ((fy_ex fl sc mo cl dp Tj Dj m F (fy_e0 lg att al so) m)).2.2.2.2.1, ((fy_ex fl sc mo cl dp Tj Dj m F (fy_e0 lg att al so) m)).2.2.2.2.2)) :
    wpX_executeItems post (xfc, xtc, nI F, xT, nI m, xev, xst, sc, pc, dp, fl, mo, cl, rq, te, pa, ke, oc, lg, att, al, so) := by
  unfold wpX_executeItems
  refine fx_cx ⟨m + 1, ?_⟩
  exact fx_ex1 hF hm hit hD (fy_e0_ok hF) h m 0 (m + 1) oc (by omega) (by omega) (fun j hj => absurd hj (Nat.not_lt_zero j))
theorem fx_kj_b {F T : Nat} (hF : F ≤ 12) (hT : T ≤ 16) (hp : fy_nb pc F 3) (hm : fy_nb mo T 3) (hc : fy_nb cl T 3) {j : Nat} (h0 : 0 < T) : fx_kj sc pc dp mo cl rq F T j < 2 ^ 63 := by
  have ht : fx_tj dp rq pc F T j < T := fy_tf_lt T j h0
  have h1 := (hm _ ht).2
  have h2 := (hc _ ht).2
  have h3 := (fy_ky_b (sc := sc) (pc := pc) (P := fx_dj dp rq pc F T j) (fun f => fx_dj_4 hp j f) hF (show fy_n mo (fx_tj dp rq pc F T j) < 4 by omega) (show fy_n cl (fx_tj dp rq pc F T j) < 4 by omega) (show fx_tj dp rq pc F T j < 16 by omega)).2
  exact Nat.lt_trans h3 (by decide)
/-- X's run -/
theorem fx_run {post : Int32 → St2 → Prop} {F T : Nat} (hF : F ≤ 12) (hT : T ≤ 16) (hp : fy_nb pc F 3) (hm : fy_nb mo T 3) (hc : fy_nb cl T 3)
    (h1 : 64 < fy_tt (fx_g dp rq pc F) T → post (-1) (xfc, xtc, nI F, nI T, xn, xev, xst, sc, pc, dp, fl, mo, cl, rq, te, pa, ke, oc, lg, att, al, so))
    (h2 : fy_tt (fx_g dp rq pc F) T ≤ 64 → ∀ (s : Nat → Nat) (te pa : Nat → Int32) (ke : Nat → Int64) (oc : Nat → Int32), fy_So (fx_kj sc pc dp mo cl rq F T) (fy_tt (fx_g dp rq pc F) T) s →
      (∀ q, q < fy_tt (fx_g dp rq pc F) T → te q = nI (fx_tj dp rq pc F T (s q)) ∧ pa q = nI (fy_en (fx_dj dp rq pc F T (s q)) 12)) →
      (∀ j, j < fy_tt (fx_g dp rq pc F) T → oc j = fy_ou fl sc mo cl dp (fun q => fx_tj dp rq pc F T (s q)) (fun q => fx_dj dp rq pc F T (s q)) (fy_tt (fx_g dp rq pc F) T) F (fy_e0 lg att al so) j) →
      post (nI (fy_tt (fx_g dp rq pc F) T)) (xfc, xtc, nI F, nI T, nI (fy_tt (fx_g dp rq pc F) T), nI ((fy_ex fl sc mo cl dp (fun q => fx_tj dp rq pc F T (s q)) (fun q => fx_dj dp rq pc F T (s q)) (fy_tt (fx_g dp rq pc F) T) F (fy_e0 lg att al so) (fy_tt (fx_g dp rq pc F) T))).1, nI ((fy_ex fl sc mo cl dp (fun q => fx_tj dp rq pc F T (s q)) (fun q => fx_dj dp rq pc F T (s q)) (fy_tt (fx_g dp rq pc F) T) F (fy_e0 lg att al so) (fy_tt (fx_g dp rq pc F) T))).2.2.2.1, sc, pc, dp, fl, mo, cl, rq, te, pa, ke, oc, ((fy_ex fl sc mo cl dp (fun q => fx_tj dp rq pc F T (s q)) (fun q => fx_dj dp rq pc F T (s q)) (fy_tt (fx_g dp rq pc F) T) F (fy_e0 lg att al so) (fy_tt (fx_g dp rq pc F) T))).2.1, ((fy_ex fl sc mo cl dp (fun q => fx_tj dp rq pc F T (s q)) (fun q => fx_dj dp rq pc F T (s q)) (fy_tt (fx_g dp rq pc F) T) F (fy_e0 lg att al so) (fy_tt (fx_g dp rq pc F) T))).2.2.1, ((fy_ex fl sc mo cl dp (fun q => fx_tj dp rq pc F T (s q)) (fun q => fx_dj dp rq pc F T (s q)) (fy_tt (fx_g dp rq pc F) T) F (fy_e0 lg att al so) (fy_tt (fx_g dp rq pc F) T))).2.2.2.2.1, ((fy_ex fl sc mo cl dp (fun q => fx_tj dp rq pc F T (s q)) (fun q => fx_dj dp rq pc F T (s q)) (fy_tt (fx_g dp rq pc F) T) F (fy_e0 lg att al so) (fy_tt (fx_g dp rq pc F) T))).2.2.2.2.2)) :
    wpX_run post (xfc, xtc, nI F, nI T, xn, xev, xst, sc, pc, dp, fl, mo, cl, rq, te, pa, ke, oc, lg, att, al, so) := by
  have hb : fy_tt (fx_g dp rq pc F) T ≤ T * 531441 := fy_tt_b T (fun t _ => Nat.le_trans (fy_ct_b hp F (Nat.le_refl F)).2 (fy_3p hF))
  unfold wpX_run
  refine fx_ca hF hT hp (pk_le (fy_tt (fx_g dp rq pc F) T) 64 (fun z => ?_) (fun z => h1 z))
  refine fx_co hF hT hp hm hc z (fun te1 pa1 ke1 hcol => ?_)
  have hT0 : ∀ j, j < fy_tt (fx_g dp rq pc F) T → 0 < T := by
    intro j hj
    rcases Nat.eq_zero_or_pos T with y | y
    · subst y
      exact absurd hj (Nat.not_lt_zero j)
    · exact y
  refine fx_so z (fun j hj => ⟨(hcol j hj).2.2, fx_kj_b hF hT hp hm hc (hT0 j hj)⟩) (fun s te2 pa2 ke2 a1 a2 a3 => ?_)
  have hit : fx_it (fy_tt (fx_g dp rq pc F) T) (fun q => fx_tj dp rq pc F T (s q)) (fun q => fx_dj dp rq pc F T (s q)) te2 pa2 := by
    intro q hq
    have hs := a1.1 q hq
    have ht : fx_tj dp rq pc F T (s q) < T := fy_tf_lt T _ (hT0 q hq)
    exact ⟨Nat.lt_of_lt_of_le ht hT, by rw [a2 q hq]; exact (hcol _ hs).1, fun f => fx_dj_4 hp _ f, by rw [a3 q hq]; exact (hcol _ hs).2.1⟩
  refine fx_ex hF z hit (fun j f => fx_dj_4 hp _ f) (fun oc1 ho => ?_)
  exact h2 z s te2 pa2 ke2 oc1 a1 (fun q hq => ⟨(hit q hq).2.1, (hit q hq).2.2.2⟩) ho
end
