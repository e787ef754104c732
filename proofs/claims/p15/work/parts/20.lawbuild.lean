/-! the law: building the engine; what is owed -/
section
variable {xfc xtc xF xT xn xev xst : Int32} {sc pc dp fl mo cl rq te pa oc lg att al so : Nat → Int32} {ke : Nat → Int64}
theorem pl_299 {post : Int32 → Prop} {L kc ks F T t j : Nat} {xs : Nat → Int32} {J229 : Int32 → Int32 → Int32 → Int32 → Int32 → Int32 → Int32 → Int32 → Int32 → Int32 → (Nat → Int32) → (Nat → Int32) → (Nat → Int32) → (Nat → Int32) → (Nat → Int32) → (Nat → Int32) → (Nat → Int32) → (Nat → Int32) → (Nat → Int32) → (Nat → Int64) → (Nat → Int32) → (Nat → Int32) → (Nat → Int32) → (Nat → Int32) → (Nat → Int32) → Prop} {x4 x7 x8 x13 : Int32} {x5 : Int64} (hF : F ≤ 12) (hT : T ≤ 16) (ht : t < 16)
    (hJ : ∀ rq : Nat → Int32, (∀ t g, t < 16 → bt (rq t) g = true → g < F) → J229 (nI j) x8 (nI (t + 1)) (nI 12) (nI 16) (nI F) (nI T) xn xev xst sc pc dp fl mo cl rq te pa ke oc lg att al so) :
    ∀ (k f nf : Nat) (rq : Nat → Int32), f + k = F → k < nf → (∀ t g, t < 16 → bt (rq t) g = true → g < F) →
    wL_law_299 post L xs J229 (nI j) (nI F) x4 x5 x7 x8 (nI t) x13 kc ks nf (nI f) (nI 12) (nI 16) (nI F) (nI T) xn xev xst sc pc dp fl mo cl rq te pa ke oc lg att al so := by
  intro k
  induction k with
  | zero =>
    intro f nf rq hk hnf hrq
    obtain ⟨nf, rfl⟩ : ∃ q, nf = q + 1 := ⟨nf - 1, by omega⟩
    have e : f = F := by omega
    subst e
    exact br_t (nI_le (Nat.le_refl _) (by omega)) (nm_r (nI_1 t) (hJ rq hrq))
  | succ k ih =>
    intro f nf rq hk hnf hrq
    obtain ⟨nf, rfl⟩ : ∃ q, nf = q + 1 := ⟨nf - 1, by omega⟩
    refine br_f (nI_ge (by omega) (by omega)) (br_c (fun _ => nm_r (nI_1 f) (ih (f + 1) nf rq (by omega) (by omega) hrq)) (fun _ => ?_))
    exact pl_req hF hT hrq (fun _ rq1 h1 => nm_r (nI_1 f) (ih (f + 1) nf rq1 (by omega) (by omega) h1))
theorem pl_en_upd {a : Nat → Int32} {m b n : Nat} (h : fy_nb a m b) (hb : b < 2 ^ 31) (hn : n ≤ b) : (∀ f, f < m → fy_n (upd a m (nI n)) f = fy_n a f) ∧ fy_n (upd a m (nI n)) m = n := by
  refine ⟨fun f hf => ?_, ?_⟩
  · unfold fy_n
    rw [pk_un (by omega)]
  · unfold fy_n
    rw [pk_us, nI_clamp (by omega)]
theorem pl_229 {post : Int32 → Prop} {L kc ks F T : Nat} {xs : Nat → Int32} {x4 : Int32} {x5 : Int64} (hL : L ≤ 260) (hF0 : 0 < F) (hF : F ≤ 6) (hT0 : 0 < T) (hT : T ≤ 4) (hp : post 1) :
    ∀ (k t j nf : Nat) (x8 xn xev xst : Int32) (mo cl rq : Nat → Int32), t + k = T → k < nf → j ≤ 50 + 2 * t → pl_R F t sc pc dp mo cl rq x4 x5 x8 →
    wL_law_229 post L xs (nI F) x4 x5 (nI T) kc ks nf (nI j) x8 (nI t) (nI 12) (nI 16) (nI F) (nI t) xn xev xst sc pc dp fl mo cl rq te pa ke oc lg att al so := by
  intro k
  induction k with
  | zero =>
    intro t j nf x8 xn xev xst mo cl rq hk hnf hj R
    obtain ⟨nf, rfl⟩ : ∃ q, nf = q + 1 := ⟨nf - 1, by omega⟩
    have e : t = T := by omega
    subst e
    exact br_t (nI_le (Nat.le_refl _) (by omega)) ⟨4, pl_339 hL hF0 hF hT0 hT hp 3 0 j 4 _ _ _ _ _ _ _ _ _ _ _ _ _ (by omega) (by omega) (by omega) R⟩
  | succ k ih =>
    intro t j nf x8 xn xev xst mo cl rq hk hnf hj R
    obtain ⟨nf, rfl⟩ : ∃ q, nf = q + 1 := ⟨nf - 1, by omega⟩
    obtain ⟨hsc, hpc, hmo, hcl, hdp, hrq, h4, h5, h8⟩ := R
    refine br_f (nI_ge (by omega) (by omega)) (nm_r (nI_1 j) (pl_cell hL (by omega) (fun cc => ?_)))
    obtain ⟨m, hm, em⟩ := pk_andE cc (m := 1) 1 (by decide)
    obtain ⟨c', hc', ec⟩ := pk_andE (cc >>> ((1 : Int32) &&& 31)) (m := 1) 1 (by decide)
    have hm2 : m ≤ 1 := by omega
    have hc2 : c' ≤ 1 := by omega
    refine nm_r em (nm_r ec (pl_tst (by omega) (by omega) (by omega) ?_))
    obtain ⟨m1, m2⟩ := pl_en_upd hmo (by decide) hm2
    obtain ⟨c1, c2⟩ := pl_en_upd hcl (by decide) hc2
    have hgm : ∀ s, s < t → pl_gm mo cl s < 16 := fun s hs => by
      have := (hmo s hs).2
      have := (hcl s hs).2
      unfold pl_gm
      omega
    have e8 : x8 ||| ((nI m * 4 + nI c') <<< ((4 * nI t) &&& 31)) = nI (pl_eh (pl_gm (upd mo t (nI m)) (upd cl t (nI c'))) (t + 1)) := by
      have q1 : nI m * 4 + nI c' = nI (m * 4 + c') := by rw [← nI_add, ← pk_mul]; rfl
      have q2 : pl_gm (upd mo t (nI m)) (upd cl t (nI c')) t = m * 4 + c' := by unfold pl_gm; rw [m2, c2]
      have q3 : pl_eh (pl_gm (upd mo t (nI m)) (upd cl t (nI c'))) t = pl_eh (pl_gm mo cl) t := pl_eh_cg (fun s hs => by unfold pl_gm; rw [m1 s hs, c1 s hs])
      rw [h8, q1, pl_tp (pl_eh_lt hgm) (by omega) (by omega), pl_eh, q2, q3]
    refine nm_r e8 (nm_r (nI_1 (j + 1)) (pl_cell hL (by omega) (fun bits => ⟨F + 1, ?_⟩)))
    refine pl_299 (by omega) (by omega) (by omega) (fun rq1 h1 => ?_) F 0 (F + 1) rq (by omega) (by omega) hrq
    exact ih (t + 1) (j + 2) nf _ _ _ _ _ _ rq1 (by omega) (by omega) (by omega) ⟨hsc, hpc, fy_nb_upd hmo (by decide) hm2, fy_nb_upd hcl (by decide) hc2, hdp, h1, h4, h5, rfl⟩
/-- the dependencies, here and in the law -/
def pl_D (dp : Nat → Int32) (x5 : Int64) : Prop := (∀ f g, f < 12 → bt (dp f) g = true → g < f) ∧ (∀ g h, g < 7 → h < 7 → pl_db x5 (g * 8 + h) = bt (dp g) h)
theorem pl_D_s {dp : Nat → Int32} {x5 : Int64} {f d : Nat} (h : pl_D dp x5) (hf : f < 7) (hd : d < f) : pl_D (upd dp f (dp f ||| ((1 : Int32) <<< (nI d &&& 31)))) (x5 ||| ((1 : Int64) <<< ((nI f * 8 + nI d).toInt64 &&& 63))) := by
  obtain ⟨h1, h2⟩ := h
  refine ⟨fun a b ha hb => ?_, fun g x hg hx => ?_⟩
  · rcases pl_put2 (by omega) hb with q | ⟨q1, q2⟩
    · exact h1 a b ha q
    · omega
  · rw [pl_dx, pl_ds (by omega) (by omega), h2 g x hg hx]
    by_cases e : g = f
    · subst e
      rw [pk_us, fy_set _ (by omega) (by omega)]
      congr 1
      exact decide_eq_decide.mpr ⟨fun q => by omega, fun q => by omega⟩
    · rw [pk_un e, decide_eq_false (by omega), Bool.or_false]
theorem pl_115 {post : Int32 → Prop} {L kc ks f j : Nat} {xs : Nat → Int32} {J38 : Int32 → Int32 → Int64 → Int32 → Int32 → Int32 → Int32 → Int32 → Int32 → Int32 → Int32 → (Nat → Int32) → (Nat → Int32) → (Nat → Int32) → (Nat → Int32) → (Nat → Int32) → (Nat → Int32) → (Nat → Int32) → (Nat → Int32) → (Nat → Int32) → (Nat → Int64) → (Nat → Int32) → (Nat → Int32) → (Nat → Int32) → (Nat → Int32) → (Nat → Int32) → Prop} {x3 x4 x11 : Int32} (hL : L ≤ 260) (hj : j < 100) (hf : f < 6) (hpc : fy_nb pc (f + 1) 3)
    (hJ : ∀ (x5 : Int64) (dp fl : Nat → Int32), pl_D dp x5 → J38 (nI (j + 1)) x4 x5 (nI (f + 1)) (nI 12) (nI 16) (nI (f + 1)) (nI 0) xn xev xst sc pc dp fl mo cl rq te pa ke oc lg att al so) :
    ∀ (k d nf : Nat) (x5 : Int64) (dp : Nat → Int32), d + k = f → k < nf → pl_D dp x5 →
    wL_law_115 post L xs J38 (nI j) x3 x4 (nI f) x11 kc ks nf x5 (nI d) (nI 12) (nI 16) (nI (f + 1)) (nI 0) xn xev xst sc pc dp fl mo cl rq te pa ke oc lg att al so := by
  intro k
  induction k with
  | zero =>
    intro d nf x5 dp hk hnf hD
    obtain ⟨nf, rfl⟩ : ∃ q, nf = q + 1 := ⟨nf - 1, by omega⟩
    have e : d = f := by omega
    subst e
    refine br_t (nI_le (Nat.le_refl _) (by omega)) (nm_r (nI_1 j) (pl_cell hL (by omega) (fun c2 => br_c (fun _ => nm_r (nI_1 d) (hJ x5 dp fl hD)) (fun _ => ?_))))
    exact pl_fail (by omega) hpc (fun _ fl1 => nm_r (nI_1 d) (hJ x5 dp fl1 hD))
  | succ k ih =>
    intro d nf x5 dp hk hnf hD
    obtain ⟨nf, rfl⟩ : ∃ q, nf = q + 1 := ⟨nf - 1, by omega⟩
    refine br_f (nI_ge (by omega) (by omega)) (br_c (fun _ => nm_r (nI_1 d) (ih (d + 1) nf x5 dp (by omega) (by omega) hD)) (fun _ => ?_))
    refine pl_add (by omega) (by omega) (show d < f by omega) (br_t rfl (nm_r (nI_1 d) (ih (d + 1) nf x5 dp (by omega) (by omega) hD))) (br_f (by decide) (nm_e (nm_r (nI_1 d) (ih (d + 1) nf _ _ (by omega) (by omega) (pl_D_s hD (by omega) (by omega))))))
theorem pl_38 {post : Int32 → Prop} {L kc ks F : Nat} {xs : Nat → Int32} (hL : L ≤ 260) (hF0 : 0 < F) (hF : F ≤ 6) (hp : post 1) :
    ∀ (k f j nf : Nat) (x4 : Int32) (x5 : Int64) (sc pc dp fl : Nat → Int32), f + k = F → k < nf → j ≤ 1 + 3 * f → pl_R f 0 sc pc dp mo cl rq x4 x5 0 →
    wL_law_38 post L xs (nI F) kc ks nf (nI j) x4 x5 (nI f) (nI 12) (nI 16) (nI f) (nI 0) xn xev xst sc pc dp fl mo cl rq te pa ke oc lg att al so := by
  intro k
  induction k with
  | zero =>
    intro f j nf x4 x5 sc pc dp fl hk hnf hj R
    obtain ⟨nf, rfl⟩ : ∃ q, nf = q + 1 := ⟨nf - 1, by omega⟩
    have e : f = F := by omega
    subst e
    refine br_t (nI_le (Nat.le_refl _) (by omega)) (nm_r (nI_1 j) (pl_cell hL (by omega) (fun cc => ?_)))
    refine pl_mod (m := 4) (by decide) (by decide) (fun q hq => nm_r (show 1 + nI q = nI (q + 1) by rw [Int32.add_comm]; exact nI_1 q) ⟨6, ?_⟩)
    exact pl_229 hL hF0 hF (show 0 < q + 1 by omega) (by omega) hp (q + 1) 0 (j + 1) 6 0 _ _ _ _ _ _ (by omega) (by omega) (by omega) R
  | succ k ih =>
    intro f j nf x4 x5 sc pc dp fl hk hnf hj R
    obtain ⟨nf, rfl⟩ : ∃ q, nf = q + 1 := ⟨nf - 1, by omega⟩
    obtain ⟨hsc, hpc, hmo, hcl, hdp, hrq, h4, h5, h8⟩ := R
    have join : ∀ s p : Nat, s ≤ 3 → p ≤ 3 → wL_law_86 post L xs (wL_law_38 post L xs (nI F) kc ks nf) (nI (j + 1)) (nI F) x4 x5 (nI f) (nI s) (nI p) (nI s) kc ks (nI 12) (nI 16) (nI f) (nI 0) xn xev xst sc pc dp fl mo cl rq te pa ke oc lg att al so := by
      intro s p hs hp3
      unfold wL_law_86
      refine pl_def (by omega) hs hp3 ?_
      obtain ⟨s1, s2⟩ := pl_en_upd hsc (by decide) hs
      have e4 : x4 ||| (nI s <<< ((2 * nI f) &&& 31)) = nI (fy_en (fy_n (upd sc f (nI s))) (f + 1)) := by
        rw [h4, pl_scp (fy_en_lt (fun g hg => by have := (hsc g hg).2; omega)) (by omega) (by omega), fy_en, s2, fy_en_cg (P := fy_n (upd sc f (nI s))) (Q := fy_n sc) s1]
      refine nm_r e4 (nm_r (nI_1 (j + 1)) (pl_cell hL (by omega) (fun bits => ⟨f + 1, ?_⟩)))
      refine pl_115 hL (by omega) (by omega) (fy_nb_upd hpc (by decide) hp3) (fun y5 dp1 fl1 hD => ?_) f 0 (f + 1) x5 dp (by omega) (by omega) ⟨hdp, h5⟩
      refine ih (f + 1) (j + 1 + 1 + 1) nf _ y5 _ _ dp1 fl1 (by omega) (by omega) (by omega) ⟨fy_nb_upd hsc (by decide) hs, fy_nb_upd hpc (by decide) hp3, hmo, hcl, hD.1, fun t g ht hb => ?_, rfl, hD.2, h8⟩
      have := hrq t g ht hb
      omega
    refine br_f (nI_ge (by omega) (by omega)) (nm_r (nI_1 j) (pl_cell hL (by omega) (fun cc => ?_)))
    obtain ⟨s, hs, es⟩ := pk_andE cc (m := 3) 2 (by decide)
    obtain ⟨w, hw, ew⟩ := pk_andE (cc >>> ((2 : Int32) &&& 31)) (m := 7) 3 (by decide)
    refine nm_r es (nm_r ew (pk_lt w 5 (fun z => join s 0 (by omega) (by omega)) (fun z => ?_)))
    have e : nI w - 4 = nI (w - 4) := pk_sub (b := 4) (by omega)
    rw [e]
    exact join s (w - 4) (by omega) (by omega)
end
theorem i_vc (xs : Nat → Int32) (L : Nat) (hL : L ≤ 260) : wpL_law (fun r => r = 1) L xs := by
  have R0 : pl_R 0 0 (fun _ => 0) (fun _ => 0) (fun _ => 0) (fun _ => 0) (fun _ => 0) (fun _ => 0) 0 0 0 := by
    refine ⟨fun f hf => absurd hf (Nat.not_lt_zero f), fun f hf => absurd hf (Nat.not_lt_zero f), fun f hf => absurd hf (Nat.not_lt_zero f), fun f hf => absurd hf (Nat.not_lt_zero f), fun f g _ h => ?_, fun f g _ h => ?_, rfl, fun g h _ _ => ?_, rfl⟩
    · have h' : bt 0 g = true := h
      rw [b_0] at h'
      exact absurd h' (by decide)
    · have h' : bt 0 g = true := h
      rw [b_0] at h'
      exact absurd h' (by decide)
    · show pl_db 0 (g * 8 + h) = bt 0 h
      rw [pl_d0, b_0]
  unfold wpL_law
  refine ⟨15, 692, by omega, by omega, ?_⟩
  unfold wpX_init
  refine ⟨by omega, by omega, by omega, by omega, by omega, by omega, by omega, by omega, by omega, by omega, by omega, by omega, by omega, by omega, by omega, by omega, by omega, by omega, by omega, by omega, by omega, by omega, by omega, by omega, by omega, by omega, by omega, by omega, by omega, by omega, ?_⟩
  refine br_t (by decide) (br_t (by decide) (br_t (by decide) (br_t (by decide) ?_)))
  refine nm_r (show (0 : Int32) + 1 = nI 1 by decide) (pl_cell (j := 0) hL (by decide) (fun cc => ?_))
  refine pl_mod (m := 5) (by decide) (by decide) (fun q hq => nm_r (show 2 + nI q = nI (q + 2) by rw [Int32.add_comm]; exact nI_add q 2) ⟨8, ?_⟩)
  exact pl_38 (post := fun r => r = 1) (F := q + 2) hL (by omega) (by omega) rfl (q + 2) 0 1 8 0 0 _ _ _ _ (by omega) (by omega) (by omega) R0
