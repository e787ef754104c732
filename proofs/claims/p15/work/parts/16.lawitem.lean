/-! the law's second check: what a passed item found -/
def pl_gm (mo cl : Nat → Int32) (t : Nat) : Nat := fy_n mo t * 4 + fy_n cl t
section
variable {xfc xtc xF xT xn xev xst : Int32} {sc pc dp fl mo cl rq te pa oc lg att al so : Nat → Int32} {ke : Nat → Int64}
/-- all items from j to kk belong with test ti, as the scope s asks -/
def pl_gd (mo cl : Nat → Int32) (Tj : Nat → Nat) (s : Int32) (ti j kk : Nat) : Prop := (s = 2 → ∀ q, j ≤ q → q ≤ kk → pl_gm mo cl (Tj q) = pl_gm mo cl ti) ∧ (s = 1 → ∀ q, j ≤ q → q ≤ kk → pl_gm mo cl (Tj q) / 4 = pl_gm mo cl ti / 4)
theorem pl_sh {g : Nat} (h : g < 16) : nI g >>> ((2 : Int32) &&& 31) = nI (g / 4) := pk_shrN (by omega) _ 2 (by decide)
theorem pl_1067 {post : Int32 → Prop} {L kc ks : Nat} {xs : Nat → Int32} {x2 x4 x7 x8 x9 : Int32} {x5 : Int64} {F N n : Nat} {J339 : Int32 → Int32 → Int32 → Int32 → Int32 → Int32 → Int32 → Int32 → Int32 → (Nat → Int32) → (Nat → Int32) → (Nat → Int32) → (Nat → Int32) → (Nat → Int32) → (Nat → Int32) → (Nat → Int32) → (Nat → Int32) → (Nat → Int32) → (Nat → Int64) → (Nat → Int32) → (Nat → Int32) → (Nat → Int32) → (Nat → Int32) → (Nat → Int32) → Prop} {J766 J816 : Int32 → Prop} {J857 : Int32 → Int32 → Prop} {x13 x16 x17 x18 : Int32} {Tn ti j kk a : Nat} {Tj : Nat → Nat} (hN : N ≤ 64) (hkk : kk < N) (ha : a < 256) (hTn : Tn ≤ 6) (hti : ti < Tn) (hte : ∀ q, q < N → te q = nI (Tj q) ∧ Tj q < Tn) (hg : ∀ t, t < Tn → pl_gm mo cl t < 16)
    (hx8 : ∀ t, t < Tn → ((x8 >>> ((4 * nI t) &&& 31)) &&& 15) = nI (pl_gm mo cl t)) (hJ : ∀ r : Int32, (pl_gd mo cl Tj x18 ti j kk → r = 1) → J857 r (nI (a + 1))) :
    ∀ (k q nf : Nat) (v : Int32), q + k = kk + 1 → k < nf → j ≤ q → (pl_gd mo cl Tj x18 ti j kk → v = 1) → wL_law_1067 post L xs J339 J766 J816 J857 x2 (nI F) x4 x5 x7 x8 x9 (nI N) (nI n) x13 (nI (pl_gm mo cl ti)) x16 x17 x18 (nI a) (nI kk) kc ks xfc xtc (nI F) xT (nI N) (nI n) xst sc pc dp fl mo cl rq te pa ke oc lg att al so nf v (nI q) := by
  intro k
  induction k with
  | zero =>
    intro q nf v hk hf hj hv
    obtain ⟨nf, rfl⟩ : ∃ r, nf = r + 1 := ⟨nf - 1, by omega⟩
    refine br_t (nI_lt (by omega) (by omega)) (nm_r (nI_1 a) (hJ v hv))
  | succ k ih =>
    intro q nf v hk hf hj hv
    obtain ⟨nf, rfl⟩ : ∃ r, nf = r + 1 := ⟨nf - 1, by omega⟩
    obtain ⟨t1, t2⟩ := hte q (by omega)
    have g1 := hg _ t2
    have g2 := hg _ hti
    have j1 : ∀ w : Int32, (pl_gd mo cl Tj x18 ti j kk → w = 1) → (x18 = 1 → ¬ pl_gm mo cl (Tj q) / 4 = pl_gm mo cl ti / 4 → True) → wL_law_1121 post L xs J339 J766 J816 J857 (wL_law_1067 post L xs J339 J766 J816 J857 x2 (nI F) x4 x5 x7 x8 x9 (nI N) (nI n) x13 (nI (pl_gm mo cl ti)) x16 x17 x18 (nI a) (nI kk) kc ks xfc xtc (nI F) xT (nI N) (nI n) xst sc pc dp fl mo cl rq te pa ke oc lg att al so nf) x2 (nI F) x4 x5 x7 x8 x9 (nI N) (nI n) x13 (nI (pl_gm mo cl ti)) x16 x17 x18 (nI a) (nI kk) w (nI q) (nI (pl_gm mo cl (Tj q))) kc ks xfc xtc (nI F) xT (nI N) (nI n) xst sc pc dp fl mo cl rq te pa ke oc lg att al so := by
      intro w hw _
      unfold wL_law_1121
      rw [pl_sh g1, pl_sh g2]
      by_cases z : x18 = 1
      · refine br_t z (pk_eq (pl_gm mo cl (Tj q) / 4) (pl_gm mo cl ti / 4) (fun y => nm_r (nI_1 q) (ih (q + 1) nf w (by omega) (by omega) (by omega) hw)) (fun y => nm_r (nI_1 q) (ih (q + 1) nf 0 (by omega) (by omega) (by omega) (fun gd => absurd (gd.2 z q hj (by omega)) y))))
      · exact br_f z (nm_r (nI_1 q) (ih (q + 1) nf w (by omega) (by omega) (by omega) hw))
    refine br_f (nI_nlt (by omega) (by omega)) (pl_itT hN (by omega) ?_)
    rw [t1]
    refine br_t (nI_pos' (by omega)) (nm_r (hx8 _ t2) ?_)
    by_cases z : x18 = 2
    · refine br_t z (pk_eq (pl_gm mo cl (Tj q)) (pl_gm mo cl ti) (fun y => j1 v hv (fun _ _ => trivial)) (fun y => j1 0 (fun gd => absurd (gd.1 z q hj (by omega)) y) (fun _ _ => trivial)))
    · exact br_f z (j1 v hv (fun _ _ => trivial))
/-- the teardown at b ends what item i found -/
def pl_wt (mo cl : Nat → Int32) (Tj : Nat → Nat) (G : Nat → gh_E) (s : Int32) (i p ti j b : Nat) : Prop := (G b).1 = 2 ∧ (G b).2.2.2 = p ∧ i ≤ (G b).2.1 ∧ (s = 3 → j = i ∧ (G b).2.1 = i) ∧ pl_gd mo cl Tj s ti j (G b).2.1
theorem pl_969 {post : Int32 → Prop} {L kc ks : Nat} {xs : Nat → Int32} {x2 x4 x7 x8 x9 : Int32} {x5 : Int64} {F N n : Nat} {J339 : Int32 → Int32 → Int32 → Int32 → Int32 → Int32 → Int32 → Int32 → Int32 → (Nat → Int32) → (Nat → Int32) → (Nat → Int32) → (Nat → Int32) → (Nat → Int32) → (Nat → Int32) → (Nat → Int32) → (Nat → Int32) → (Nat → Int32) → (Nat → Int64) → (Nat → Int32) → (Nat → Int32) → (Nat → Int32) → (Nat → Int32) → (Nat → Int32) → Prop} {J766 J816 : Int32 → Prop} {J857 : Int32 → Int32 → Prop} {x16 x18 : Int32} {Tn ti i p j a b s : Nat} {Tj : Nat → Nat} {G : Nat → gh_E} (hn : n ≤ 256) (hB : ∀ k, k < n → lg k = gh_co (G k) ∧ pl_b (G k)) (hBN : ∀ k, k < n → (G k).2.1 < N) (hN : N ≤ 64) (hb : b < n) (ha : a < 256) (hi : i < N) (hj : j < N) (hp : p < 3) (hs : x18 = nI s) (hs3 : s ≤ 3)
    (hTn : Tn ≤ 6) (hti : ti < Tn) (hte : ∀ q, q < N → te q = nI (Tj q) ∧ Tj q < Tn) (hg : ∀ t, t < Tn → pl_gm mo cl t < 16)
    (hx8 : ∀ t, t < Tn → ((x8 >>> ((4 * nI t) &&& 31)) &&& 15) = nI (pl_gm mo cl t)) (hJ : ∀ r : Int32, (pl_wt mo cl Tj G x18 i p ti j b → r = 1) → J857 r (nI (a + 1))) :
    wL_law_969 post L xs J339 J766 J816 J857 x2 (nI F) x4 x5 x7 x8 x9 (nI N) (nI n) (nI i) (nI (pl_gm mo cl ti)) x16 (nI p) x18 0 (nI a) (nI j) (nI b) kc ks xfc xtc (nI F) xT (nI N) (nI n) xst sc pc dp fl mo cl rq te pa ke oc lg att al so := by
  have bb := (hB b hb).2
  have bN := hBN b hb
  unfold wL_law_969
  refine br_t (nI_pos' (by omega)) (pl_E hn hB hb (pl_kind bb (pk_eq (G b).1 2 (fun k2 => ?_) (fun k2 => nm_r (nI_1 a) (hJ 0 (fun w => absurd w.1 k2))) rfl rfl (by have := bb.1; omega))))
  refine pl_par bb (pk_eq (G b).2.2.2 p (fun kp => ?_) (fun kp => nm_r (nI_1 a) (hJ 0 (fun w => absurd w.2.1 kp))) rfl rfl (by have := bb.2.2.2; omega))
  refine pl_itm bb (pk_le i (G b).2.1 (fun ki => ?_) (fun ki => nm_r (nI_1 a) (hJ 0 (fun w => by have := w.2.2.1; omega))))
  by_cases z3 : x18 = 3
  · refine br_t z3 (pk_eq j i (fun y => ?_) (fun y => nm_r (nI_1 a) (hJ 0 (fun w => absurd (w.2.2.2.1 z3).1 y))))
    exact pk_eq (G b).2.1 i (fun y2 => nm_r (nI_1 a) (hJ 1 (fun _ => rfl))) (fun y2 => nm_r (nI_1 a) (hJ 0 (fun w => absurd (w.2.2.2.1 z3).2 y2)))
  · refine br_f z3 (pk_lt s 1 (fun y => nm_r (nI_1 a) (hJ 1 (fun _ => rfl))) (fun y => ?_) hs rfl)
    by_cases jk : j ≤ (G b).2.1 + 1
    · exact ⟨N + 3, pl_1067 hN bN ha hTn hti hte hg hx8 (fun r hr => hJ r (fun w => hr w.2.2.2.2)) ((G b).2.1 + 1 - j) j (N + 3) 1 (by omega) (by omega) (Nat.le_refl j) (fun _ => rfl)⟩
    · exact ⟨1, br_t (nI_lt (by omega) (by omega)) (nm_r (nI_1 a) (hJ 1 (fun _ => rfl)))⟩
theorem pl_935 {post : Int32 → Prop} {L kc ks : Nat} {xs : Nat → Int32} {x2 x4 x7 x8 x9 : Int32} {x5 : Int64} {F N n : Nat} {J339 : Int32 → Int32 → Int32 → Int32 → Int32 → Int32 → Int32 → Int32 → Int32 → (Nat → Int32) → (Nat → Int32) → (Nat → Int32) → (Nat → Int32) → (Nat → Int32) → (Nat → Int32) → (Nat → Int32) → (Nat → Int32) → (Nat → Int32) → (Nat → Int64) → (Nat → Int32) → (Nat → Int32) → (Nat → Int32) → (Nat → Int32) → (Nat → Int32) → Prop} {J766 J816 : Int32 → Prop} {J857 : Int32 → Int32 → Prop} {x13 x15 x17 x18 x19 x20 x22 x23 : Int32} {f a b : Nat} {G : Nat → gh_E} (hn : n ≤ 256) (hB : ∀ k, k < n → lg k = gh_co (G k) ∧ pl_b (G k)) (hb : b < n) (hf : f < 12) (hl : gh_lf (G b) f) (hno : ∀ x, a < x → x < b → ¬ gh_lf (G x) f)
    (h : wL_law_969 post L xs J339 J766 J816 J857 x2 (nI F) x4 x5 x7 x8 x9 (nI N) (nI n) x13 x15 (nI f) x17 x18 x19 x20 x22 (nI b) kc ks xfc xtc (nI F) xT (nI N) (nI n) xst sc pc dp fl mo cl rq te pa ke oc lg att al so) :
    ∀ (k x nf : Nat), x + k = b → k < nf → a < x → wL_law_935 post L xs J339 J766 J816 J857 x2 (nI F) x4 x5 x7 x8 x9 (nI N) (nI n) x13 x15 (nI f) x17 x18 x19 x20 x22 x23 kc ks xfc xtc (nI F) xT (nI N) (nI n) xst sc pc dp fl mo cl rq te pa ke oc lg att al so nf (nI x) := by
  intro k
  induction k with
  | zero =>
    intro x nf hk hnf hx
    obtain ⟨nf, rfl⟩ : ∃ r, nf = r + 1 := ⟨nf - 1, by omega⟩
    have e : x = b := by omega
    subst e
    exact br_f (nI_ge hb (by omega)) (pl_E hn hB hb (pl_life (hB x hb).2 hf (fun _ => br_f (by decide) h) (fun z => absurd hl z)))
  | succ k ih =>
    intro x nf hk hnf hx
    obtain ⟨nf, rfl⟩ : ∃ r, nf = r + 1 := ⟨nf - 1, by omega⟩
    refine br_f (nI_ge (show x < n by omega) (by omega)) (pl_E hn hB (by omega) (pl_life (hB x (by omega)).2 hf (fun z => absurd z (hno x hx (by omega))) (fun z => br_t rfl (nm_e ?_))))
    rw [nI_1]
    exact ih (x + 1) nf (by omega) (by omega) (by omega)
/-- a scope that bears the items j to kk keeps them with test of item i -/
theorem pl_scg {sc mo cl : Nat → Int32} {Tj : Nat → Nat} {f j kk i : Nat} (h : gh_Sc sc mo cl Tj f j kk) (h1 : j ≤ i) (h2 : i ≤ kk) (hc : ∀ q, q ≤ kk → fy_n cl (Tj q) < 4) : (sc f = 3 → j = i ∧ kk = i) ∧ pl_gd mo cl Tj (sc f) (Tj i) j kk := by
  obtain ⟨s3, s2, s1⟩ := h
  refine ⟨fun z => by have := s3 z; omega, fun z q hq hk => ?_, fun z q hq hk => ?_⟩
  · have a1 := s2 z q hq hk
    have a2 := s2 z i h1 h2
    unfold pl_gm fy_n
    rw [a1.1, a1.2, a2.1, a2.2]
  · have a1 := s1 z q hq hk
    have a2 := s1 z i h1 h2
    unfold pl_gm
    have e : fy_n mo (Tj q) = fy_n mo (Tj i) := by unfold fy_n; rw [a1, a2]
    have c1 := hc q hk
    have c2 := hc i h2
    omega
theorem pl_857 {post : Int32 → Prop} {L kc ks : Nat} {xs : Nat → Int32} {x2 x4 x7 x8 x9 : Int32} {x5 : Int64} {F N n : Nat} {J339 : Int32 → Int32 → Int32 → Int32 → Int32 → Int32 → Int32 → Int32 → Int32 → (Nat → Int32) → (Nat → Int32) → (Nat → Int32) → (Nat → Int32) → (Nat → Int32) → (Nat → Int32) → (Nat → Int32) → (Nat → Int32) → (Nat → Int32) → (Nat → Int64) → (Nat → Int32) → (Nat → Int32) → (Nat → Int32) → (Nat → Int32) → (Nat → Int32) → Prop} {J766 J816 : Int32 → Prop} {Tn i f p a0 : Nat} {Tj : Nat → Nat} {G : Nat → gh_E} (hF : F ≤ 12) (hn : n ≤ 256) (hB : ∀ k, k < n → lg k = gh_co (G k) ∧ pl_b (G k)) (hBN : ∀ k, k < n → (G k).2.1 < N) (hBF : ∀ k, k < n → (G k).2.2.1 < F) (hN : N ≤ 64) (hi : i < N) (hf : f < F) (hp : p < 3) (hs : fy_nb sc F 3)
    (h1 : ∀ a, a < n → (G a).1 = 1 → ∃ b, b < n ∧ gh_cd sc mo cl dp Tj G a b)
    (hTn : Tn ≤ 6) (hte : ∀ q, q < N → te q = nI (Tj q) ∧ Tj q < Tn) (hg : ∀ t, t < Tn → pl_gm mo cl t < 16) (hcl : ∀ t, t < Tn → fy_n cl t < 4)
    (hx8 : ∀ t, t < Tn → ((x8 >>> ((4 * nI t) &&& 31)) &&& 15) = nI (pl_gm mo cl t))
    (a1 : a0 < n) (a2 : (G a0).1 = 1) (a3 : (G a0).2.2.1 = f) (a4 : (G a0).2.2.2 = p) (a5 : (G a0).2.1 ≤ i) (a6 : ∀ x, a0 < x → x < n → gh_lf (G x) f → i ≤ (G x).2.1)
    (hJ : J816 (nI (f + 1))) :
    ∀ (k a nf : Nat), a + k = a0 → k + 1 < nf → wL_law_857 post L xs J339 J766 J816 x2 (nI F) x4 x5 x7 x8 x9 (nI N) (nI n) (nI i) (nI (pl_gm mo cl (Tj i))) (nI f) (nI p) (sc f) kc ks xfc xtc (nI F) xT (nI N) (nI n) xst sc pc dp fl mo cl rq te pa ke oc lg att al so nf 0 (nI a) := by
  obtain ⟨es, bs⟩ := hs f hf
  have fnd : ∀ (nf a : Nat) (r : Int32), ¬ r = 0 → wL_law_857 post L xs J339 J766 J816 x2 (nI F) x4 x5 x7 x8 x9 (nI N) (nI n) (nI i) (nI (pl_gm mo cl (Tj i))) (nI f) (nI p) (sc f) kc ks xfc xtc (nI F) xT (nI N) (nI n) xst sc pc dp fl mo cl rq te pa ke oc lg att al so (nf + 1) r (nI a) := by
    intro nf a r hr
    have H : wL_law_1157 post L xs J339 J766 J816 x2 (nI F) x4 x5 x7 x8 x9 (nI N) (nI n) (nI i) (nI (pl_gm mo cl (Tj i))) (nI f) r kc ks xfc xtc (nI F) xT (nI N) (nI n) xst sc pc dp fl mo cl rq te pa ke oc lg att al so := by
      unfold wL_law_1157
      exact br_f hr (nm_r (nI_1 f) hJ)
    exact br_c (fun _ => H) (fun _ => br_f hr H)
  intro k
  induction k with
  | zero =>
    intro a nf hk hnf
    obtain ⟨nf, rfl⟩ : ∃ r, nf = r + 1 := ⟨nf - 1, by omega⟩
    have e : a = a0 := by omega
    subst e
    obtain ⟨b, hb, hcd⟩ := h1 a a1 a2
    have ba := (hB a a1).2
    obtain ⟨c1, c2, c3, c4, c5, c6, c7, c8⟩ := hcd
    have kki := a6 b c1 hb (by rw [← a3]; exact c2)
    have bN := hBN b hb
    obtain ⟨w1, w2⟩ := pl_scg c8 a5 kki (fun q hq => hcl _ (hte q (by omega)).2)
    rw [a3] at w1 w2
    refine br_f (nI_ge a1 (by omega)) (br_t rfl (pl_E hn hB a1 (pl_kind ba ?_)))
    rw [a2]
    refine br_t rfl (pl_fx ba ?_)
    rw [a3]
    refine br_t rfl (pl_par ba ?_)
    rw [a4]
    refine br_t rfl (pl_itm ba (br_t (nI_le a5 (by omega)) (nm_r (nI_1 a) ⟨n + 1, ?_⟩)))
    refine pl_935 (a := a) hn hB hb (by omega) (by rw [← a3]; exact c2) (fun x hx hxb => by rw [← a3]; exact c3 x hx hxb) ?_ (b - (a + 1)) (a + 1) (n + 1) (by omega) (by omega) (by omega)
    refine pl_969 (s := fy_n sc f) hn hB hBN hN hb (by omega) hi (by omega) hp es bs hTn (hte i hi).2 hte hg hx8 (fun r hr => ?_)
    have er := hr ⟨c4, by rw [c5]; exact a4, kki, w1, w2⟩
    obtain ⟨nf, rfl⟩ : ∃ r, nf = r + 1 := ⟨nf - 1, by omega⟩
    exact fnd nf (a + 1) r (by rw [er]; decide)
  | succ k ih =>
    intro a nf hk hnf
    obtain ⟨nf, rfl⟩ : ∃ r, nf = r + 1 := ⟨nf - 1, by omega⟩
    have han : a < n := by omega
    have ba := (hB a han).2
    have nx := ih (a + 1) nf (by omega) (by omega)
    refine br_f (nI_ge han (by omega)) (br_t rfl (pl_E hn hB han (pl_kind ba (pk_eq (G a).1 1 (fun k1 => ?_) (fun k1 => nm_r (nI_1 a) nx) rfl rfl (by have := ba.1; omega)))))
    refine pl_fx ba (pk_eq (G a).2.2.1 f (fun kf => ?_) (fun kf => nm_r (nI_1 a) nx) rfl rfl (by have := ba.2.2.1; omega))
    refine pl_par ba (pk_eq (G a).2.2.2 p (fun kp => ?_) (fun kp => nm_r (nI_1 a) nx) rfl rfl (by have := ba.2.2.2; omega))
    refine pl_itm ba (pk_le (G a).2.1 i (fun ki => nm_r (nI_1 a) ⟨n + 1, ?_⟩) (fun ki => nm_r (nI_1 a) nx) rfl rfl (by have := ba.2.1; omega))
    obtain ⟨b, hb, hcd⟩ := h1 a han k1
    obtain ⟨c1, c2, c3, c4, c5, c6, c7, c8⟩ := hcd
    refine pl_935 (a := a) hn hB hb (by omega) (by rw [← kf]; exact c2) (fun x hx hxb => by rw [← kf]; exact c3 x hx hxb) ?_ (b - (a + 1)) (a + 1) (n + 1) (by omega) (by omega) (by omega)
    refine pl_969 (s := fy_n sc f) hn hB hBN hN hb (by omega) hi (hBN a han) hp es bs hTn (hte i hi).2 hte hg hx8 (fun r hr => ?_)
    by_cases z : r = 0
    · rw [z]
      exact nx
    · obtain ⟨nf, rfl⟩ : ∃ r, nf = r + 1 := ⟨nf - 1, by omega⟩
      exact fnd nf (a + 1) r z
theorem pl_816 {post : Int32 → Prop} {L kc ks : Nat} {xs : Nat → Int32} {x2 x4 x7 x8 x9 : Int32} {x5 : Int64} {F N n : Nat} {J339 : Int32 → Int32 → Int32 → Int32 → Int32 → Int32 → Int32 → Int32 → Int32 → (Nat → Int32) → (Nat → Int32) → (Nat → Int32) → (Nat → Int32) → (Nat → Int32) → (Nat → Int32) → (Nat → Int32) → (Nat → Int32) → (Nat → Int32) → (Nat → Int64) → (Nat → Int32) → (Nat → Int32) → (Nat → Int32) → (Nat → Int32) → (Nat → Int32) → Prop} {J766 : Int32 → Prop} {Tn i : Nat} {Tj : Nat → Nat} {Di : Nat → Nat} {G : Nat → gh_E} (hF : F ≤ 12) (hn : n ≤ 256) (hB : ∀ k, k < n → lg k = gh_co (G k) ∧ pl_b (G k)) (hBN : ∀ k, k < n → (G k).2.1 < N) (hBF : ∀ k, k < n → (G k).2.2.1 < F) (hN : N ≤ 64) (hi : i < N) (hs : fy_nb sc F 3)
    (h1 : ∀ a, a < n → (G a).1 = 1 → ∃ b, b < n ∧ gh_cd sc mo cl dp Tj G a b)
    (hTn : Tn ≤ 6) (hte : ∀ q, q < N → te q = nI (Tj q) ∧ Tj q < Tn) (hg : ∀ t, t < Tn → pl_gm mo cl t < 16) (hcl : ∀ t, t < Tn → fy_n cl t < 4)
    (hx8 : ∀ t, t < Tn → ((x8 >>> ((4 * nI t) &&& 31)) &&& 15) = nI (pl_gm mo cl t)) (hx4 : ∀ f, f < F → ((x4 >>> ((2 * nI f) &&& 31)) &&& 3) = sc f)
    (hD : ∀ f, Di f < 4) (hpa : pa i = nI (fy_en Di 12)) (hQ : ∀ f p, f < F → Di f = p + 1 → gh_Q n G i f p) (hJ : J766 (nI (i + 1))) :
    ∀ (k f nf : Nat), f + k = F → k < nf → wL_law_816 post L xs J339 J766 x2 (nI F) x4 x5 x7 x8 x9 (nI N) (nI n) (nI i) (nI (pl_gm mo cl (Tj i))) kc ks xfc xtc (nI F) xT (nI N) (nI n) xst sc pc dp fl mo cl rq te pa ke oc lg att al so nf (nI f) := by
  intro k
  induction k with
  | zero =>
    intro f nf hk hnf
    obtain ⟨nf, rfl⟩ : ∃ r, nf = r + 1 := ⟨nf - 1, by omega⟩
    have e : f = F := by omega
    subst e
    exact br_t (nI_le (Nat.le_refl _) (by omega)) (nm_r (nI_1 i) hJ)
  | succ k ih =>
    intro f nf hk hnf
    obtain ⟨nf, rfl⟩ : ∃ r, nf = r + 1 := ⟨nf - 1, by omega⟩
    have nx := ih (f + 1) nf (by omega) (by omega)
    have d4 := hD f
    refine br_f (nI_ge (show f < F by omega) (by omega)) (pl_itP hN hi hF (by omega) hD hpa ?_)
    by_cases z : Di f = 0
    · rw [z, fy_m0]
      exact br_f (by decide) (nm_r (nI_1 f) nx)
    · obtain ⟨p, hp⟩ : ∃ p, Di f = p + 1 := ⟨Di f - 1, by omega⟩
      obtain ⟨a0, a1, a2, a3, a4, a5, a6⟩ := hQ f p (by omega) hp
      rw [hp, fy_ms]
      refine br_t (nI_pos' (by omega)) (nm_r (hx4 f (by omega)) ⟨n + 2, ?_⟩)
      exact pl_857 hF hn hB hBN hBF hN hi (by omega) (by omega) hs h1 hTn hte hg hcl hx8 a1 a2 a3 a4 a5 a6 nx a0 0 (n + 2) (by omega) (by omega)
theorem pl_766 {post : Int32 → Prop} {L kc ks : Nat} {xs : Nat → Int32} {x2 x4 x7 x8 x9 : Int32} {x5 : Int64} {F N n : Nat} {J339 : Int32 → Int32 → Int32 → Int32 → Int32 → Int32 → Int32 → Int32 → Int32 → (Nat → Int32) → (Nat → Int32) → (Nat → Int32) → (Nat → Int32) → (Nat → Int32) → (Nat → Int32) → (Nat → Int32) → (Nat → Int32) → (Nat → Int32) → (Nat → Int64) → (Nat → Int32) → (Nat → Int32) → (Nat → Int32) → (Nat → Int32) → (Nat → Int32) → Prop} {Tn r : Nat} {Tj : Nat → Nat} {Dj : Nat → Nat → Nat} {G : Nat → gh_E} (hF : F ≤ 12) (hn : n ≤ 256) (hB : ∀ k, k < n → lg k = gh_co (G k) ∧ pl_b (G k)) (hBN : ∀ k, k < n → (G k).2.1 < N) (hBF : ∀ k, k < n → (G k).2.2.1 < F) (hN : N ≤ 64) (hs : fy_nb sc F 3)
    (h1 : ∀ a, a < n → (G a).1 = 1 → ∃ b, b < n ∧ gh_cd sc mo cl dp Tj G a b)
    (hTn : Tn ≤ 6) (hte : ∀ q, q < N → te q = nI (Tj q) ∧ Tj q < Tn) (hg : ∀ t, t < Tn → pl_gm mo cl t < 16) (hcl : ∀ t, t < Tn → fy_n cl t < 4)
    (hx8 : ∀ t, t < Tn → ((x8 >>> ((4 * nI t) &&& 31)) &&& 15) = nI (pl_gm mo cl t)) (hx4 : ∀ f, f < F → ((x4 >>> ((2 * nI f) &&& 31)) &&& 3) = sc f)
    (hD : ∀ j f, Dj j f < 4) (hpa : ∀ q, q < N → pa q = nI (fy_en (Dj q) 12)) (hQ : ∀ i, i < N → oc i = 1 → ∀ f p, f < F → Dj i f = p + 1 → gh_Q n G i f p) (hx9 : x9 = nI r) (hJ : J339 x2 (nI (r + 1)) xfc xtc (nI F) xT (nI N) (nI n) xst sc pc dp fl mo cl rq te pa ke oc lg att al so) :
    ∀ (k i nf : Nat), i + k = N → k < nf → wL_law_766 post L xs J339 x2 (nI F) x4 x5 x7 x8 x9 (nI N) (nI n) kc ks xfc xtc (nI F) xT (nI N) (nI n) xst sc pc dp fl mo cl rq te pa ke oc lg att al so nf (nI i) := by
  intro k
  induction k with
  | zero =>
    intro i nf hk hnf
    obtain ⟨nf, rfl⟩ : ∃ r, nf = r + 1 := ⟨nf - 1, by omega⟩
    have e : i = N := by omega
    subst e
    exact br_t (nI_le (Nat.le_refl _) (by omega)) (nm_r (by rw [hx9, nI_1]) hJ)
  | succ k ih =>
    intro i nf hk hnf
    obtain ⟨nf, rfl⟩ : ∃ r, nf = r + 1 := ⟨nf - 1, by omega⟩
    have nx := ih (i + 1) nf (by omega) (by omega)
    have hi : i < N := by omega
    obtain ⟨t1, t2⟩ := hte i hi
    refine br_f (nI_ge hi (by omega)) (pl_itO hN hi ?_)
    by_cases z : oc i = 1
    · refine br_t z (pl_itT hN hi ?_)
      rw [t1]
      refine br_t (nI_pos' (by omega)) (nm_r (hx8 _ t2) ⟨F + 1, ?_⟩)
      exact pl_816 hF hn hB hBN hBF hN hi hs h1 hTn hte hg hcl hx8 hx4 (hD i) (hpa i hi) (hQ i hi z) nx F 0 (F + 1) (by omega) (by omega)
    · exact br_f z (nm_r (nI_1 i) nx)
end
