/-! Y: a run -/
section
variable {yfc ytc yF yT yrf yn yev yst : Int32} {sc pc yd fl mo cl yr c tt tp us od it ip io lg att av ap so nt : Nat → Int32}
theorem fz_sl_s {T m t : Nat} {tj : Nat → Nat} {dj : Nat → Nat → Nat} {tt tp tp1 : Nat → Int32} (h : fz_sl T m tj dj tt tp) (ht : t < T) (e1 : tj m = t) (e2 : ∀ f, dj m f < 4) (e3 : ∀ f, f < 12 → tp1 (m * 12 + f) = nI (dj m f) - 1) (e4 : ∀ j, j < m * 12 → tp1 j = tp j) : fz_sl T (m + 1) tj dj (upd tt m (nI t)) tp1 := by
  intro j hj
  by_cases e : j = m
  · subst e
    rw [pk_us, e1]
    exact ⟨ht, rfl, e2, e3⟩
  · obtain ⟨a1, a2, a3, a4⟩ := h j (by omega)
    rw [pk_un e]
    exact ⟨a1, a2, a3, fun f hf => by rw [e4 _ (by omega)]; exact a4 f hf⟩
theorem fz_r64 {post : Int32 → SY → Prop} {J : Int32 → Int32 → Int32 → Int32 → Int32 → Int32 → Int32 → Int32 → Int32 → Int32 → (Nat → Int32) → (Nat → Int32) → (Nat → Int32) → (Nat → Int32) → (Nat → Int32) → (Nat → Int32) → (Nat → Int32) → (Nat → Int32) → (Nat → Int32) → (Nat → Int32) → (Nat → Int32) → (Nat → Int32) → (Nat → Int32) → (Nat → Int32) → (Nat → Int32) → (Nat → Int32) → (Nat → Int32) → (Nat → Int32) → (Nat → Int32) → (Nat → Int32) → (Nat → Int32) → Prop} {F T t : Nat} {dp rq : Nat → Int32} (hF : F ≤ 12) (hT : T ≤ 16) (ht : t < T) (hp : fy_nb pc F 3) (hN : fy_tt (fx_g dp rq pc F) (t + 1) ≤ 64) (hc : ∀ g, g < 12 → c g = fy_bi (bt (fy_go dp F (rq t)) g)) (hC : ∀ g, F ≤ g → bt (fy_go dp F (rq t)) g = false)
    (hJ : ∀ tt tp : Nat → Int32, fz_sl T (fy_tt (fx_g dp rq pc F) (t + 1)) (fx_tj dp rq pc F T) (fx_dj dp rq pc F T) tt tp → J (nI (fy_tt (fx_g dp rq pc F) (t + 1))) (nI (t + 1)) yfc ytc (nI F) yT yrf yn yev yst sc pc yd fl mo cl yr c tt tp us od it ip io lg att av ap so nt) :
    ∀ (k q n : Nat) (tt tp : Nat → Int32), q + k = fx_g dp rq pc F t → k < n → fz_sl T (fy_tt (fx_g dp rq pc F) t + q) (fx_tj dp rq pc F T) (fx_dj dp rq pc F T) tt tp →
    wY_run_64 post J (nI t) (nI (fx_g dp rq pc F t)) n (nI (fy_tt (fx_g dp rq pc F) t + q)) (nI q) yfc ytc (nI F) yT yrf yn yev yst sc pc yd fl mo cl yr c tt tp us od it ip io lg att av ap so nt := by
  have hg : fx_g dp rq pc F t ≤ 531441 := Nat.le_trans (fy_ct_b hp F (Nat.le_refl F)).2 (fy_3p hF)
  have hN2 : fy_tt (fx_g dp rq pc F) (t + 1) = fy_tt (fx_g dp rq pc F) t + fx_g dp rq pc F t := rfl
  intro k
  induction k with
  | zero =>
    intro q n tt tp hk hn h
    obtain ⟨n, rfl⟩ : ∃ r, n = r + 1 := ⟨n - 1, by omega⟩
    have e : q = fx_g dp rq pc F t := by omega
    subst e
    refine br_t (nI_le (Nat.le_refl _) (by omega)) (nm_e ?_)
    rw [nI_1]
    exact hJ tt tp h
  | succ k ih =>
    intro q n tt tp hk hn h
    obtain ⟨n, rfl⟩ : ∃ r, n = r + 1 := ⟨n - 1, by omega⟩
    have hq : q < fx_g dp rq pc F t := by omega
    refine br_f (nI_ge hq (by omega)) (br_f (nI_ge (b := 64) (by omega) (by decide)) ?_)
    refine fz_em hF (by omega) (by omega) hp hc hC (fun tp1 a1 a2 => nm_e (nm_e ?_))
    rw [nI_1, nI_1]
    refine ih (q + 1) n _ _ (by omega) (by omega) (fz_sl_s h ht (fx_tj_e ht hq) (fun f => fx_dj_4 hp _ f) (fun f hf => ?_) a2)
    show tp1 ((fy_tt (fx_g dp rq pc F) t + q) * 12 + f) = nI (fx_dj dp rq pc F T (fy_tt (fx_g dp rq pc F) t + q) f) - 1
    rw [a1 f hf, fx_dj_e ht hq]
theorem fz_goC {dp rq : Nat → Int32} {F t : Nat} (hd : ∀ f, f < F → ∀ g, bt (dp f) g = true → g < f) (hq : ∀ g, bt (rq t) g = true → g < F) : ∀ g, F ≤ g → bt (fy_go dp F (rq t)) g = false := by
  intro g hg
  cases hb : bt (fy_go dp F (rq t)) g
  · rfl
  · have := fy_K_lt (fy_go_K hd) hd hq hb
    omega
theorem fz_r42 {post : Int32 → SY → Prop} {F T : Nat} {dp rq : Nat → Int32} (hF : F ≤ 12) (hT : T ≤ 16) (hp : fy_nb pc F 3) (hyd : ∀ f g, f < 12 → g < 12 → yd (f * 12 + g) = fy_bi (bt (dp f) g)) (hd : ∀ f, f < F → ∀ g, bt (dp f) g = true → g < f) (hyr : ∀ t g, t < 16 → g < 12 → yr (t * 12 + g) = fy_bi (bt (rq t) g)) (hrq : ∀ t g, t < 16 → bt (rq t) g = true → g < F) (hN : fy_tt (fx_g dp rq pc F) T ≤ 64)
    (h : ∀ c tt tp : Nat → Int32, fz_sl T (fy_tt (fx_g dp rq pc F) T) (fx_tj dp rq pc F T) (fx_dj dp rq pc F T) tt tp → ∃ n, wY_run_102 post (nI (fy_tt (fx_g dp rq pc F) T)) yfc ytc (nI F) (nI T) yrf yn yev yst n 0 sc pc yd fl mo cl yr c tt tp us od it ip io lg att av ap so nt) :
    ∀ (k t n : Nat) (c tt tp : Nat → Int32), t + k = T → k < n → fz_sl T (fy_tt (fx_g dp rq pc F) t) (fx_tj dp rq pc F T) (fx_dj dp rq pc F T) tt tp →
    wY_run_42 post n (nI (fy_tt (fx_g dp rq pc F) t)) (nI t) yfc ytc (nI F) (nI T) yrf yn yev yst sc pc yd fl mo cl yr c tt tp us od it ip io lg att av ap so nt := by
  intro k
  induction k with
  | zero =>
    intro t n c tt tp hk hn hs
    obtain ⟨n, rfl⟩ : ∃ r, n = r + 1 := ⟨n - 1, by omega⟩
    have e : t = T := by omega
    subst e
    exact br_t (nI_le (Nat.le_refl _) (by omega)) (h c tt tp hs)
  | succ k ih =>
    intro t n c tt tp hk hn hs
    obtain ⟨n, rfl⟩ : ∃ r, n = r + 1 := ⟨n - 1, by omega⟩
    have hN2 := fy_tt_m (g := fx_g dp rq pc F) (show t + 1 ≤ T by omega)
    refine br_f (nI_ge (by omega) (by omega)) ?_
    refine fz_cc hF (by omega) hyd hd (fun g hg => hyr t g (by omega) hg) (fun g hg => hrq t g (by omega) hg) (fun c1 hc1 => ?_)
    refine fz_cp hF hp hc1 ⟨fx_g dp rq pc F t + 1, ?_⟩
    exact fz_r64 hF hT (by omega) hp (by omega) hc1 (fz_goC hd (fun g hg => hrq t g (by omega) hg)) (fun tt1 tp1 h1 => ih (t + 1) n c1 tt1 tp1 (by omega) (by omega) h1) (fx_g dp rq pc F t) 0 _ tt tp (by omega) (by omega) hs
theorem fz_r4 {post : Int32 → SY → Prop} {F T : Nat} {dp rq : Nat → Int32} (hF : F ≤ 12) (hT : T ≤ 16) (hp : fy_nb pc F 3) (hyd : ∀ f g, f < 12 → g < 12 → yd (f * 12 + g) = fy_bi (bt (dp f) g)) (hd : ∀ f, f < F → ∀ g, bt (dp f) g = true → g < f) (hyr : ∀ t g, t < 16 → g < 12 → yr (t * 12 + g) = fy_bi (bt (rq t) g)) (hrq : ∀ t g, t < 16 → bt (rq t) g = true → g < F)
    (h1 : 64 < fy_tt (fx_g dp rq pc F) T → ∀ c : Nat → Int32, post (-1) (yfc, ytc, nI F, nI T, yrf, yn, yev, yst, sc, pc, yd, fl, mo, cl, yr, c, tt, tp, us, od, it, ip, io, lg, att, av, ap, so, nt))
    (h2 : fy_tt (fx_g dp rq pc F) T ≤ 64 → ∀ c : Nat → Int32, ∃ n, wY_run_42 post n 0 0 yfc ytc (nI F) (nI T) yrf yn yev yst sc pc yd fl mo cl yr c tt tp us od it ip io lg att av ap so nt) :
    ∀ (k t n : Nat) (c : Nat → Int32), t + k = T → k < n → wY_run_4 post n (nI (fy_tt (fx_g dp rq pc F) t)) (nI t) yfc ytc (nI F) (nI T) yrf yn yev yst sc pc yd fl mo cl yr c tt tp us od it ip io lg att av ap so nt := by
  have hb : fy_tt (fx_g dp rq pc F) T ≤ T * 531441 := fy_tt_b T (fun t _ => Nat.le_trans (fy_ct_b hp F (Nat.le_refl F)).2 (fy_3p hF))
  intro k
  induction k with
  | zero =>
    intro t n c hk hn
    obtain ⟨n, rfl⟩ : ∃ r, n = r + 1 := ⟨n - 1, by omega⟩
    have e : t = T := by omega
    subst e
    exact br_t (nI_le (Nat.le_refl _) (by omega)) (pk_le (fy_tt (fx_g dp rq pc F) t) 64 (fun z => h2 z c) (fun z => h1 z c))
  | succ k ih =>
    intro t n c hk hn
    obtain ⟨n, rfl⟩ : ∃ r, n = r + 1 := ⟨n - 1, by omega⟩
    refine br_f (nI_ge (by omega) (by omega)) ?_
    refine fz_cc hF (by omega) hyd hd (fun g hg => hyr t g (by omega) hg) (fun g hg => hrq t g (by omega) hg) (fun c1 hc1 => ?_)
    refine fz_cp hF hp hc1 (nm_e (nm_e ?_))
    rw [nI_1, nI_add]
    exact ih (t + 1) n c1 (by omega) (by omega)
theorem fz_r208 {post : Int32 → SY → Prop} {T m : Nat} {tj s : Nat → Nat} {dj : Nat → Nat → Nat} (hm : m ≤ 64) (hT : T ≤ 16) (hsl : fz_sl T m tj dj tt tp) (hs : ∀ p, p < m → s p < m) (hod : ∀ p, p < m → od p = nI (s p))
    (h : ∀ it ip io : Nat → Int32, fz_it m (fun q => tj (s q)) (fun q => dj (s q)) it ip → ∃ n, wY_run_250 post (nI m) yfc ytc yF yT yF (nI m) 0 yst n 0 sc pc yd fl mo cl yr c tt tp us od it ip io lg att av ap so nt) :
    ∀ (k p n : Nat) (it ip io : Nat → Int32), p + k = m → k < n → fz_it p (fun q => tj (s q)) (fun q => dj (s q)) it ip → wY_run_208 post (nI m) n (nI p) yfc ytc yF yT yrf yn yev yst sc pc yd fl mo cl yr c tt tp us od it ip io lg att av ap so nt := by
  intro k
  induction k with
  | zero =>
    intro p n it ip io hk hn h1
    obtain ⟨n, rfl⟩ : ∃ r, n = r + 1 := ⟨n - 1, by omega⟩
    have e : p = m := by omega
    subst e
    exact br_t (nI_le (Nat.le_refl _) (by omega)) (h it ip io h1)
  | succ k ih =>
    intro p n it ip io hk hn h1
    obtain ⟨n, rfl⟩ : ∃ r, n = r + 1 := ⟨n - 1, by omega⟩
    have hsp := hs p (by omega)
    obtain ⟨b1, b2, b3, b4⟩ := hsl (s p) hsp
    refine br_f (nI_ge (by omega) (by omega)) ⟨vp_in_nI (by omega) (by decide), ?_⟩
    rw [nI_clamp (by omega), hod p (by omega)]
    refine fz_cy (by omega) (by omega) (fun ip1 a1 a2 => nm_e ?_)
    rw [nI_1]
    refine ih (p + 1) n _ _ _ (by omega) (by omega) (fun j hj => ?_)
    by_cases e : j = p
    · subst e
      rw [pk_us]
      exact ⟨Nat.lt_of_lt_of_le b1 hT, b2, b3, fun f hf => by rw [a1 f hf]; exact b4 f hf⟩
    · obtain ⟨d1, d2, d3, d4⟩ := h1 j (by omega)
      rw [pk_un e]
      exact ⟨d1, d2, d3, fun f hf => by rw [a2 _ (by omega)]; exact d4 f hf⟩
theorem fz_r271 {post : Int32 → SY → Prop} {x2 : Int32} (h : ∀ av nt : Nat → Int32, (∀ f, f < 12 → av f = 0) → ∃ n, wY_run_304 post x2 n 0 yfc ytc yF yT yrf yn yev 0 sc pc yd fl mo cl yr c tt tp us od it ip io lg att av ap so nt) :
    ∀ (k x n : Nat) (av nt : Nat → Int32), x + k = 12 → k < n → (∀ f, f < x → av f = 0) → wY_run_271 post x2 yfc ytc yF yT yrf yn yev yst n (nI x) sc pc yd fl mo cl yr c tt tp us od it ip io lg att av ap so nt := by
  intro k
  induction k with
  | zero =>
    intro x n av nt hk hn h1
    obtain ⟨n, rfl⟩ : ∃ r, n = r + 1 := ⟨n - 1, by omega⟩
    have e : x = 12 := by omega
    subst e
    exact br_t (by decide) (h av nt h1)
  | succ k ih =>
    intro x n av nt hk hn h1
    obtain ⟨n, rfl⟩ : ∃ r, n = r + 1 := ⟨n - 1, by omega⟩
    refine br_f (nI_ge (b := 12) (by omega) (by decide)) ⟨vp_in_nI (by omega) (by decide), nm_e ⟨vp_in_nI (by omega) (by decide), nm_e (nm_e ?_)⟩⟩
    rw [nI_clamp (by omega), nI_1, fy_nr0]
    refine ih (x + 1) n _ _ (by omega) (by omega) (fun f hf => ?_)
    by_cases e : f = x
    · subst e
      exact pk_us
    · rw [pk_un e]
      exact h1 f (by omega)
theorem fz_r250 {post : Int32 → SY → Prop} {x2 : Int32} (h : ∀ av nt : Nat → Int32, (∀ f, f < 12 → av f = 0) → ∃ n, wY_run_304 post x2 n 0 yfc ytc yF yT yrf yn yev 0 sc pc yd fl mo cl yr c tt tp us od it ip io lg (fy_fill att 0 36) av ap so nt) :
    ∀ (k x n : Nat), x + k = 36 → k < n → wY_run_250 post x2 yfc ytc yF yT yrf yn yev yst n (nI x) sc pc yd fl mo cl yr c tt tp us od it ip io lg (fy_fill att 0 x) av ap so nt := by
  intro k
  induction k with
  | zero =>
    intro x n hk hn
    obtain ⟨n, rfl⟩ : ∃ r, n = r + 1 := ⟨n - 1, by omega⟩
    have e : x = 36 := by omega
    subst e
    exact br_t (by decide) ⟨13, fz_r271 h 12 0 13 av nt (by omega) (by omega) (fun f hf => absurd hf (Nat.not_lt_zero f))⟩
  | succ k ih =>
    intro x n hk hn
    obtain ⟨n, rfl⟩ : ∃ r, n = r + 1 := ⟨n - 1, by omega⟩
    refine br_f (nI_ge (b := 36) (by omega) (by decide)) ⟨vp_in_nI (by omega) (by decide), nm_e (nm_e ?_)⟩
    rw [nI_clamp (by omega), nI_1]
    exact ih (x + 1) n (by omega) (by omega)
theorem fz_r304 {post : Int32 → SY → Prop} {x2 : Int32} {F m : Nat} {dp : Nat → Int32} {Tj : Nat → Nat} {Dj : Nat → Nat → Nat} {e0 : fy_E} (hF : F ≤ 12) (hm : m ≤ 64) (hyd : ∀ f g, f < 12 → g < 12 → yd (f * 12 + g) = fy_bi (bt (dp f) g)) (hit : fz_it m Tj Dj it ip) (hD : ∀ j f, Dj j f < 4) (h0 : fy_ok F 0 0 e0)
    (h : ∀ io av ap nt : Nat → Int32, (∀ j, j < m → io j = fy_ou fl sc mo cl dp Tj Dj m F e0 j) → post x2 (yfc, ytc, yF, yT, nI F, nI m, nI ((fy_ex fl sc mo cl dp Tj Dj m F e0 m)).1, nI ((fy_ex fl sc mo cl dp Tj Dj m F e0 m)).2.2.2.1, sc, pc, yd, fl, mo, cl, yr, c, tt, tp, us, od, it, ip, io, ((fy_ex fl sc mo cl dp Tj Dj m F e0 m)).2.1, ((fy_ex fl sc mo cl dp Tj Dj m F e0 m)).2.2.1, av, ap, ((fy_ex fl sc mo cl dp Tj Dj m F e0 m)).2.2.2.2.2, nt)) :
    ∀ (k i n : Nat) (io av ap nt : Nat → Int32), i + k = m → k < n → (∀ j, j < i → io j = fy_ou fl sc mo cl dp Tj Dj m F e0 j) → fz_al F (fy_ex fl sc mo cl dp Tj Dj m F e0 i).2.2.2.2.1 av ap →
    wY_run_304 post x2 n (nI i) yfc ytc yF yT (nI F) (nI m) (nI ((fy_ex fl sc mo cl dp Tj Dj m F e0 i)).1) (nI ((fy_ex fl sc mo cl dp Tj Dj m F e0 i)).2.2.2.1) sc pc yd fl mo cl yr c tt tp us od it ip io (((fy_ex fl sc mo cl dp Tj Dj m F e0 i)).2.1) (((fy_ex fl sc mo cl dp Tj Dj m F e0 i)).2.2.1) av ap (((fy_ex fl sc mo cl dp Tj Dj m F e0 i)).2.2.2.2.2) nt := by
  intro k
  induction k with
  | zero =>
    intro i n io av ap nt hk hn ho ha
    obtain ⟨n, rfl⟩ : ∃ r, n = r + 1 := ⟨n - 1, by omega⟩
    have e : i = m := by omega
    subst e
    exact br_t (nI_le (Nat.le_refl _) (by omega)) (h io av ap nt ho)
  | succ k ih =>
    intro i n io av ap nt hk hn ho ha
    obtain ⟨n, rfl⟩ : ∃ r, n = r + 1 := ⟨n - 1, by omega⟩
    obtain ⟨-, -, -, hip⟩ := hit i (by omega)
    have hok := fy_ok_ex (fl := fl) (sc := sc) (mo := mo) (cl := cl) (dp := dp) (T := Tj) (n := m) hF hD h0 i
    have hok2 := fy_ok_su (fl := fl) (i := i) (hD i) F 0 _ _ _ hok
    refine br_f (nI_ge (by omega) (by omega)) ?_
    refine fz_su hF (by omega) (hD i) hip hok (by omega) (by omega) ha (fun av1 ap1 ha1 => ?_)
    refine fz_td hF hm (by omega) hyd hit hok2 (by omega) (by omega) ha1 (fun av2 nt2 ha2 => nm_e ?_)
    rw [nI_1]
    refine ih (i + 1) n _ _ _ _ (by omega) (by omega) (fun j hj => ?_) ha2
    by_cases e : j = i
    · subst e
      rw [pk_us]
      rfl
    · rw [pk_un e]
      exact ho j (by omega)
/-- Y's run, the sorted order s given -/
theorem fz_run {post : Int32 → SY → Prop} {F T : Nat} {dp rq al : Nat → Int32} (hF : F ≤ 12) (hT : T ≤ 16) (hp : fy_nb pc F 3) (hmo : fy_nb mo T 3) (hcl : fy_nb cl T 3) (hyd : ∀ f g, f < 12 → g < 12 → yd (f * 12 + g) = fy_bi (bt (dp f) g)) (hd : ∀ f, f < F → ∀ g, bt (dp f) g = true → g < f) (hyr : ∀ t g, t < 16 → g < 12 → yr (t * 12 + g) = fy_bi (bt (rq t) g)) (hrq : ∀ t g, t < 16 → bt (rq t) g = true → g < F)
    (h1 : 64 < fy_tt (fx_g dp rq pc F) T → ∀ c : Nat → Int32, post (-1) (yfc, ytc, nI F, nI T, yrf, yn, yev, yst, sc, pc, yd, fl, mo, cl, yr, c, tt, tp, us, od, it, ip, io, lg, att, av, ap, so, nt))
    (h2 : fy_tt (fx_g dp rq pc F) T ≤ 64 → ∃ s : Nat → Nat, fy_So (fx_kj sc pc dp mo cl rq F T) (fy_tt (fx_g dp rq pc F) T) s ∧
      ∀ c tt tp us od it ip io av ap nt : Nat → Int32, fz_it (fy_tt (fx_g dp rq pc F) T) (fun q => fx_tj dp rq pc F T (s q)) (fun q => fx_dj dp rq pc F T (s q)) it ip →
      (∀ j, j < fy_tt (fx_g dp rq pc F) T → io j = fy_ou fl sc mo cl dp (fun q => fx_tj dp rq pc F T (s q)) (fun q => fx_dj dp rq pc F T (s q)) (fy_tt (fx_g dp rq pc F) T) F (fy_e0 lg att al so) j) →
      post (nI (fy_tt (fx_g dp rq pc F) T)) (yfc, ytc, nI F, nI T, nI F, nI (fy_tt (fx_g dp rq pc F) T), nI ((fy_ex fl sc mo cl dp (fun q => fx_tj dp rq pc F T (s q)) (fun q => fx_dj dp rq pc F T (s q)) (fy_tt (fx_g dp rq pc F) T) F (fy_e0 lg att al so) (fy_tt (fx_g dp rq pc F) T))).1, nI ((fy_ex fl sc mo cl dp (fun q => fx_tj dp rq pc F T (s q)) (fun q => fx_dj dp rq pc F T (s q)) (fy_tt (fx_g dp rq pc F) T) F (fy_e0 lg att al so) (fy_tt (fx_g dp rq pc F) T))).2.2.2.1, sc, pc, yd, fl, mo, cl, yr, c, tt, tp, us, od, it, ip, io, ((fy_ex fl sc mo cl dp (fun q => fx_tj dp rq pc F T (s q)) (fun q => fx_dj dp rq pc F T (s q)) (fy_tt (fx_g dp rq pc F) T) F (fy_e0 lg att al so) (fy_tt (fx_g dp rq pc F) T))).2.1, ((fy_ex fl sc mo cl dp (fun q => fx_tj dp rq pc F T (s q)) (fun q => fx_dj dp rq pc F T (s q)) (fy_tt (fx_g dp rq pc F) T) F (fy_e0 lg att al so) (fy_tt (fx_g dp rq pc F) T))).2.2.1, av, ap, ((fy_ex fl sc mo cl dp (fun q => fx_tj dp rq pc F T (s q)) (fun q => fx_dj dp rq pc F T (s q)) (fy_tt (fx_g dp rq pc F) T) F (fy_e0 lg att al so) (fy_tt (fx_g dp rq pc F) T))).2.2.2.2.2, nt)) :
    wpY_run post (yfc, ytc, nI F, nI T, yrf, yn, yev, yst, sc, pc, yd, fl, mo, cl, yr, c, tt, tp, us, od, it, ip, io, lg, att, av, ap, so, nt) := by
  unfold wpY_run
  refine ⟨T + 1, fz_r4 hF hT hp hyd hd hyr hrq h1 (fun hN c1 => ⟨T + 1, ?_⟩) T 0 (T + 1) c (by omega) (by omega)⟩
  obtain ⟨s, hs, h3⟩ := h2 hN
  refine fz_r42 hF hT hp hyd hd hyr hrq hN (fun c2 tt2 tp2 hsl => ⟨65, ?_⟩) T 0 (T + 1) c1 tt tp (by omega) (by omega) (fun j hj => absurd hj (Nat.not_lt_zero j))
  refine fz_use (fun us3 hus => ⟨fy_tt (fx_g dp rq pc F) T + 1, ?_⟩) 64 0 65 us (by omega) (by omega) (fun i hi => absurd hi (Nat.not_lt_zero i))
  refine fz_se1 hF hT hN hmo hcl hsl hs (fun us4 od4 hod => ⟨fy_tt (fx_g dp rq pc F) T + 1, ?_⟩) (fy_tt (fx_g dp rq pc F) T) 0 (fy_tt (fx_g dp rq pc F) T + 1) us3 od (by omega) (by omega) (fun j hj => Or.inl ⟨hus j (by omega), fun q hq => absurd hq (Nat.not_lt_zero q)⟩) (fun p hq => absurd hq (Nat.not_lt_zero p))
  refine fz_r208 hN hT hsl hs.1 hod (fun it5 ip5 io5 hit => ⟨37, ?_⟩) (fy_tt (fx_g dp rq pc F) T) 0 (fy_tt (fx_g dp rq pc F) T + 1) it ip io (by omega) (by omega) (fun j hj => absurd hj (Nat.not_lt_zero j))
  refine fz_r250 (fun av6 nt6 hav => ⟨fy_tt (fx_g dp rq pc F) T + 1, ?_⟩) 36 0 37 (by omega) (by omega)
  refine fz_r304 (e0 := fy_e0 lg att al so) hF hN hyd hit (fun j f => fx_dj_4 hp _ f) (fy_e0_ok hF) (fun io7 av7 ap7 nt7 ho => ?_) (fy_tt (fx_g dp rq pc F) T) 0 (fy_tt (fx_g dp rq pc F) T + 1) io5 av6 ap nt6 (by omega) (by omega) (fun j hj => absurd hj (Nat.not_lt_zero j)) (fun f hf => Or.inl ⟨hav f (by omega), fy_fill_e (by omega)⟩)
  exact h3 c2 tt2 tp2 us4 od4 it5 ip5 io7 av7 ap7 nt7 hit ho
end
