/-! the law's first check: setups and teardowns -/
section
variable {xfc xtc xF xT xn xev xst : Int32} {sc pc dp fl mo cl rq te pa oc lg att al so : Nat → Int32} {ke : Nat → Int64}
theorem pl_E {post : Int32 → Prop} {F N n k : Nat} {G : Nat → gh_E} (hn : n ≤ 256) (hB : ∀ k, k < n → lg k = gh_co (G k) ∧ pl_b (G k)) (hk : k < n) (h : post (gh_co (G k))) : wpX_event post (xfc, xtc, nI F, xT, nI N, nI n, xst, sc, pc, dp, fl, mo, cl, rq, te, pa, ke, oc, lg, att, al, so) (nI k) := pl_ev hn hk (by rw [(hB k hk).1]; exact h)
theorem pl_630 {post : Int32 → Prop} {L kc ks : Nat} {xs : Nat → Int32} {x2 x4 x7 x8 x9 : Int32} {x5 : Int64} {F N n : Nat} {J339 : Int32 → Int32 → Int32 → Int32 → Int32 → Int32 → Int32 → Int32 → Int32 → (Nat → Int32) → (Nat → Int32) → (Nat → Int32) → (Nat → Int32) → (Nat → Int32) → (Nat → Int32) → (Nat → Int32) → (Nat → Int32) → (Nat → Int32) → (Nat → Int64) → (Nat → Int32) → (Nat → Int32) → (Nat → Int32) → (Nat → Int32) → (Nat → Int32) → Prop} {J438 J557 : Int32 → Prop} {b c g y : Nat} {x13 x15 x21 : Int32} {G : Nat → gh_E} (hn : n ≤ 256) (hB : ∀ k, k < n → lg k = gh_co (G k) ∧ pl_b (G k)) (hy : y < n) (hyb : y < b) (hb : b < n) (hl : gh_lf (G y) g) (hg : g < 12) (hc : c < n) (hJ : J557 (nI (c + 1))) :
    ∀ (k x nf : Nat), x + k = y → k < nf → wL_law_630 post L xs J339 J438 J557 x2 (nI F) x4 x5 x7 x8 x9 (nI N) (nI n) x13 x15 (nI b) (nI c) (nI g) x21 kc ks xfc xtc (nI F) xT (nI N) (nI n) xst sc pc dp fl mo cl rq te pa ke oc lg att al so nf (nI x) := by
  have fin : ∀ x, x ≤ y → wL_law_664 post L xs J339 J438 J557 x2 (nI F) x4 x5 x7 x8 x9 (nI N) (nI n) x13 x15 (nI b) (nI c) (nI x) kc ks xfc xtc (nI F) xT (nI N) (nI n) xst sc pc dp fl mo cl rq te pa ke oc lg att al so := by
    intro x hx
    unfold wL_law_664
    refine br_f (nI_pos (by omega)) (br_t (nI_lt (by omega) (by omega)) (nm_e ?_))
    rw [nI_1]
    exact hJ
  intro k
  induction k with
  | zero =>
    intro x nf hk hf
    obtain ⟨nf, rfl⟩ : ∃ r, nf = r + 1 := ⟨nf - 1, by omega⟩
    have e : x = y := by omega
    subst e
    refine br_f (nI_ge hy (by omega)) (pl_E hn hB hy (pl_life (hB x hy).2 hg (fun _ => br_f (by decide) (fin x (Nat.le_refl x))) (fun z => absurd hl z)))
  | succ k ih =>
    intro x nf hk hf
    obtain ⟨nf, rfl⟩ : ∃ r, nf = r + 1 := ⟨nf - 1, by omega⟩
    refine br_f (nI_ge (show x < n by omega) (by omega)) (pl_E hn hB (by omega) (pl_life (hB x (by omega)).2 hg (fun _ => br_f (by decide) (fin x (by omega))) (fun z => br_t rfl (nm_e ?_))))
    rw [nI_1]
    exact ih (x + 1) nf (by omega) (by omega)
theorem pl_557 {post : Int32 → Prop} {L kc ks : Nat} {xs : Nat → Int32} {x2 x4 x7 x8 x9 : Int32} {x5 : Int64} {F N n : Nat} {J339 : Int32 → Int32 → Int32 → Int32 → Int32 → Int32 → Int32 → Int32 → Int32 → (Nat → Int32) → (Nat → Int32) → (Nat → Int32) → (Nat → Int32) → (Nat → Int32) → (Nat → Int32) → (Nat → Int32) → (Nat → Int32) → (Nat → Int32) → (Nat → Int64) → (Nat → Int32) → (Nat → Int32) → (Nat → Int32) → (Nat → Int32) → (Nat → Int32) → Prop} {J438 : Int32 → Prop} {a b : Nat} {G : Nat → gh_E} {Tj : Nat → Nat} (hF : F ≤ 12) (hn : n ≤ 256) (hB : ∀ k, k < n → lg k = gh_co (G k) ∧ pl_b (G k)) (hBF : ∀ k, k < n → (G k).2.2.1 < F) (hb : b < n) (hcd : gh_cd sc mo cl dp Tj G a b)
    (hx5 : ∀ g h, g < F → h < F → (((x5 >>> (((nI g * 8) + nI h).toInt64 &&& 63)) &&& 1) = 0 ↔ bt (dp g) h = false)) (hJ : J438 (nI (a + 1))) :
    ∀ (k c nf : Nat), c + k = b → k < nf → a < c → wL_law_557 post L xs J339 J438 x2 (nI F) x4 x5 x7 x8 x9 (nI N) (nI n) (nI a) (nI (G a).2.2.1) (nI b) kc ks xfc xtc (nI F) xT (nI N) (nI n) xst sc pc dp fl mo cl rq te pa ke oc lg att al so nf (nI c) := by
  intro k
  induction k with
  | zero =>
    intro c nf hk hf hac
    obtain ⟨nf, rfl⟩ : ∃ r, nf = r + 1 := ⟨nf - 1, by omega⟩
    have e : c = b := by omega
    subst e
    refine br_t (nI_le (Nat.le_refl _) (by omega)) (nm_e ?_)
    rw [nI_1]
    exact hJ
  | succ k ih =>
    intro c nf hk hf hac
    obtain ⟨nf, rfl⟩ : ∃ r, nf = r + 1 := ⟨nf - 1, by omega⟩
    have hcn : c < n := by omega
    have bc := (hB c hcn).2
    have gF := hBF c hcn
    have aF := hBF a (by omega)
    have nx : wL_law_557 post L xs J339 J438 x2 (nI F) x4 x5 x7 x8 x9 (nI N) (nI n) (nI a) (nI (G a).2.2.1) (nI b) kc ks xfc xtc (nI F) xT (nI N) (nI n) xst sc pc dp fl mo cl rq te pa ke oc lg att al so nf (nI c + 1) := by
      rw [nI_1]
      exact ih (c + 1) nf (by omega) (by omega) (by omega)
    refine br_f (nI_ge (show c < b by omega) (by omega)) (pl_E hn hB hcn (pl_fx bc (pl_kind bc (pk_eq (G c).1 1 (fun k1 => ?_) (fun _ => nm_e nx) rfl rfl (by have := bc.1; omega)))))
    refine br_f (nI_ge gF (by omega)) (br_f (nI_ge aF (by omega)) ?_)
    by_cases z : ((x5 >>> (((nI (G c).2.2.1 * 8) + nI (G a).2.2.1).toInt64 &&& 63)) &&& 1) = 0
    · exact br_t z (nm_e nx)
    · refine br_f z (nm_r (nI_1 c) ?_)
      have hd : bt (dp (G c).2.2.1) (G a).2.2.1 = true := ts_nf (fun q => z ((hx5 _ _ gF aF).mpr q))
      obtain ⟨y, y1, y2, y3⟩ := hcd.2.2.2.2.2.1 c hac (by omega) k1 hd
      refine ⟨n + 1, pl_630 hn hB (by omega) y2 hb y3 (by omega) hcn ?_ (y - (c + 1)) (c + 1) (n + 1) (by omega) (by omega)⟩
      have := nx
      rw [nI_1] at this
      exact this
theorem pl_512 {post : Int32 → Prop} {L kc ks : Nat} {xs : Nat → Int32} {x2 x4 x7 x8 x9 : Int32} {x5 : Int64} {F N n : Nat} {J339 : Int32 → Int32 → Int32 → Int32 → Int32 → Int32 → Int32 → Int32 → Int32 → (Nat → Int32) → (Nat → Int32) → (Nat → Int32) → (Nat → Int32) → (Nat → Int32) → (Nat → Int32) → (Nat → Int32) → (Nat → Int32) → (Nat → Int32) → (Nat → Int64) → (Nat → Int32) → (Nat → Int32) → (Nat → Int32) → (Nat → Int32) → (Nat → Int32) → Prop} {J438 : Int32 → Prop} {a b : Nat} {G : Nat → gh_E} {Tj : Nat → Nat} (hF : F ≤ 12) (hn : n ≤ 256) (hB : ∀ k, k < n → lg k = gh_co (G k) ∧ pl_b (G k)) (hBF : ∀ k, k < n → (G k).2.2.1 < F) (hb : b < n) (hcd : gh_cd sc mo cl dp Tj G a b)
    (hx5 : ∀ g h, g < F → h < F → (((x5 >>> (((nI g * 8) + nI h).toInt64 &&& 63)) &&& 1) = 0 ↔ bt (dp g) h = false)) (hJ : J438 (nI (a + 1))) :
    wL_law_512 post L xs J339 J438 x2 (nI F) x4 x5 x7 x8 x9 (nI N) (nI n) (nI a) (gh_co (G a)) (nI (G a).2.2.1) (nI b) kc ks xfc xtc (nI F) xT (nI N) (nI n) xst sc pc dp fl mo cl rq te pa ke oc lg att al so := by
  have hab := hcd.1
  have bb := (hB b hb).2
  have ba := (hB a (by omega)).2
  unfold wL_law_512
  refine br_t (nI_pos' (by omega)) (pl_E hn hB hb (pl_kind bb ?_))
  rw [hcd.2.2.2.1]
  refine br_t rfl (pl_par bb (pl_par ba ?_))
  rw [hcd.2.2.2.2.1]
  refine br_t rfl (nm_r (nI_1 a) ⟨n + 1, ?_⟩)
  exact pl_557 hF hn hB hBF hb hcd hx5 hJ (b - (a + 1)) (a + 1) (n + 1) (by omega) (by omega) (by omega)
theorem pl_478 {post : Int32 → Prop} {L kc ks : Nat} {xs : Nat → Int32} {x2 x4 x7 x8 x9 : Int32} {x5 : Int64} {F N n : Nat} {J339 : Int32 → Int32 → Int32 → Int32 → Int32 → Int32 → Int32 → Int32 → Int32 → (Nat → Int32) → (Nat → Int32) → (Nat → Int32) → (Nat → Int32) → (Nat → Int32) → (Nat → Int32) → (Nat → Int32) → (Nat → Int32) → (Nat → Int32) → (Nat → Int64) → (Nat → Int32) → (Nat → Int32) → (Nat → Int32) → (Nat → Int32) → (Nat → Int32) → Prop} {J438 : Int32 → Prop} {a b : Nat} {x16 : Int32} {G : Nat → gh_E} {Tj : Nat → Nat} (hF : F ≤ 12) (hn : n ≤ 256) (hB : ∀ k, k < n → lg k = gh_co (G k) ∧ pl_b (G k)) (hBF : ∀ k, k < n → (G k).2.2.1 < F) (hb : b < n) (hcd : gh_cd sc mo cl dp Tj G a b)
    (hx5 : ∀ g h, g < F → h < F → (((x5 >>> (((nI g * 8) + nI h).toInt64 &&& 63)) &&& 1) = 0 ↔ bt (dp g) h = false)) (hJ : J438 (nI (a + 1))) :
    ∀ (k x nf : Nat), x + k = b → k < nf → a < x → wL_law_478 post L xs J339 J438 x2 (nI F) x4 x5 x7 x8 x9 (nI N) (nI n) (nI a) (gh_co (G a)) (nI (G a).2.2.1) x16 kc ks xfc xtc (nI F) xT (nI N) (nI n) xst sc pc dp fl mo cl rq te pa ke oc lg att al so nf (nI x) := by
  have hab := hcd.1
  have aF := hBF a (by omega)
  intro k
  induction k with
  | zero =>
    intro x nf hk hf hx
    obtain ⟨nf, rfl⟩ : ∃ r, nf = r + 1 := ⟨nf - 1, by omega⟩
    have e : x = b := by omega
    subst e
    exact br_f (nI_ge hb (by omega)) (pl_E hn hB hb (pl_life (hB x hb).2 (by omega) (fun _ => br_f (by decide) (pl_512 hF hn hB hBF hb hcd hx5 hJ)) (fun z => absurd hcd.2.1 z)))
  | succ k ih =>
    intro x nf hk hf hx
    obtain ⟨nf, rfl⟩ : ∃ r, nf = r + 1 := ⟨nf - 1, by omega⟩
    refine br_f (nI_ge (show x < n by omega) (by omega)) (pl_E hn hB (by omega) (pl_life (hB x (by omega)).2 (by omega) (fun z => absurd z (hcd.2.2.1 x hx (by omega))) (fun z => br_t rfl (nm_e ?_))))
    rw [nI_1]
    exact ih (x + 1) nf (by omega) (by omega) (by omega)
theorem pl_705 {post : Int32 → Prop} {L kc ks : Nat} {xs : Nat → Int32} {x2 x4 x7 x8 x9 : Int32} {x5 : Int64} {F N n : Nat} {J339 : Int32 → Int32 → Int32 → Int32 → Int32 → Int32 → Int32 → Int32 → Int32 → (Nat → Int32) → (Nat → Int32) → (Nat → Int32) → (Nat → Int32) → (Nat → Int32) → (Nat → Int32) → (Nat → Int32) → (Nat → Int32) → (Nat → Int32) → (Nat → Int64) → (Nat → Int32) → (Nat → Int32) → (Nat → Int32) → (Nat → Int32) → (Nat → Int32) → Prop} {J438 : Int32 → Prop} {a b f : Nat} {x16 : Int32} {G : Nat → gh_E} (hn : n ≤ 256) (hB : ∀ k, k < n → lg k = gh_co (G k) ∧ pl_b (G k)) (hb : b < n) (hab : a < b) (hf : f < 12) (hl : gh_lf (G a) f) (h1 : (G a).1 = 1) (hno : ∀ x, a < x → x < b → ¬ gh_lf (G x) f) (hJ : J438 (nI (b + 1))) :
    ∀ (k nf : Nat), a + k < b → k < nf → wL_law_705 post L xs J339 J438 x2 (nI F) x4 x5 x7 x8 x9 (nI N) (nI n) (nI b) (nI f) x16 kc ks xfc xtc (nI F) xT (nI N) (nI n) xst sc pc dp fl mo cl rq te pa ke oc lg att al so nf (nI (a + k)) := by
  intro k
  induction k with
  | zero =>
    intro nf hk hnf
    obtain ⟨nf, rfl⟩ : ∃ r, nf = r + 1 := ⟨nf - 1, by omega⟩
    refine br_f (nI_pos (by omega)) (pl_E hn hB (by omega) (pl_life (hB a (by omega)).2 hf (fun _ => br_f (by decide) ?_) (fun z => absurd hl z)))
    unfold wL_law_737
    refine br_f (nI_pos (by omega)) (pl_E hn hB (show a + 0 < n by omega) (pl_kind (hB a (by omega)).2 ?_))
    show (nI (G a).1 = 1 → _) ∧ (¬ nI (G a).1 = 1 → _)
    rw [h1]
    refine br_t rfl (nm_e ?_)
    rw [nI_1]
    exact hJ
  | succ k ih =>
    intro nf hk hnf
    obtain ⟨nf, rfl⟩ : ∃ r, nf = r + 1 := ⟨nf - 1, by omega⟩
    refine br_f (nI_pos (by omega)) (pl_E hn hB (by omega) (pl_life (hB (a + (k + 1)) (by omega)).2 hf (fun z => absurd z (hno _ (by omega) hk)) (fun z => br_t rfl (nm_r (pk_m1 (a + k)) ?_))))
    exact ih nf (by omega) (by omega)
theorem pl_438 {post : Int32 → Prop} {L kc ks : Nat} {xs : Nat → Int32} {x2 x4 x7 x8 x9 : Int32} {x5 : Int64} {F N n : Nat} {J339 : Int32 → Int32 → Int32 → Int32 → Int32 → Int32 → Int32 → Int32 → Int32 → (Nat → Int32) → (Nat → Int32) → (Nat → Int32) → (Nat → Int32) → (Nat → Int32) → (Nat → Int32) → (Nat → Int32) → (Nat → Int32) → (Nat → Int32) → (Nat → Int64) → (Nat → Int32) → (Nat → Int32) → (Nat → Int32) → (Nat → Int32) → (Nat → Int32) → Prop} {G : Nat → gh_E} {Tj : Nat → Nat} (hF : F ≤ 12) (hn : n ≤ 256) (hB : ∀ k, k < n → lg k = gh_co (G k) ∧ pl_b (G k)) (hBF : ∀ k, k < n → (G k).2.2.1 < F)
    (h1 : ∀ a, a < n → (G a).1 = 1 → ∃ b, b < n ∧ gh_cd sc mo cl dp Tj G a b)
    (h2 : ∀ b, b < n → (G b).1 = 2 → ∃ a, a < b ∧ gh_lf (G a) (G b).2.2.1 ∧ (∀ x, a < x → x < b → ¬ gh_lf (G x) (G b).2.2.1) ∧ (G a).1 = 1)
    (hx5 : ∀ g h, g < F → h < F → (((x5 >>> (((nI g * 8) + nI h).toInt64 &&& 63)) &&& 1) = 0 ↔ bt (dp g) h = false)) (hJ : ∃ fu, wL_law_766 post L xs J339 x2 (nI F) x4 x5 x7 x8 x9 (nI N) (nI n) kc ks xfc xtc (nI F) xT (nI N) (nI n) xst sc pc dp fl mo cl rq te pa ke oc lg att al so fu 0) :
    ∀ (k a nf : Nat), a + k = n → k < nf → wL_law_438 post L xs J339 x2 (nI F) x4 x5 x7 x8 x9 (nI N) (nI n) kc ks xfc xtc (nI F) xT (nI N) (nI n) xst sc pc dp fl mo cl rq te pa ke oc lg att al so nf (nI a) := by
  intro k
  induction k with
  | zero =>
    intro a nf hk hf
    obtain ⟨nf, rfl⟩ : ∃ r, nf = r + 1 := ⟨nf - 1, by omega⟩
    have e : a = n := by omega
    subst e
    exact br_t (nI_le (Nat.le_refl _) (by omega)) hJ
  | succ k ih =>
    intro a nf hk hf
    obtain ⟨nf, rfl⟩ : ∃ r, nf = r + 1 := ⟨nf - 1, by omega⟩
    have han : a < n := by omega
    have ba := (hB a han).2
    have aF := hBF a han
    have nx := ih (a + 1) nf (by omega) (by omega)
    refine br_f (nI_ge han (by omega)) (pl_E hn hB han (pl_fx ba (pl_kind ba (pk_eq (G a).1 1 (fun k1 => ?_) (fun k1 => ?_) rfl rfl (by have := ba.1; omega)))))
    · obtain ⟨b, b1, b2⟩ := h1 a han k1
      have := b2.1
      exact nm_r (nI_1 a) ⟨n + 1, pl_478 hF hn hB hBF b1 b2 hx5 nx (b - (a + 1)) (a + 1) (n + 1) (by omega) (by omega) (by omega)⟩
    · refine pl_kind ba (pk_eq (G a).1 2 (fun k2 => ?_) (fun k2 => nm_r (nI_1 a) nx) rfl rfl (by have := ba.1; omega))
      obtain ⟨a', c1, c2, c3, c4⟩ := h2 a han k2
      refine nm_r (show nI a - 1 = nI (a' + (a - 1 - a')) by rw [show a' + (a - 1 - a') = a - 1 by omega]; exact pk_sub (b := 1) (by omega)) ⟨n + 1, ?_⟩
      exact pl_705 hn hB han c1 (by omega) c2 c4 c3 nx (a - 1 - a') (n + 1) (by omega) (by omega)
end
