/-! the law: its relation to the class, and its three runs -/
def pl_R (F T : Nat) (sc pc dp mo cl rq : Nat → Int32) (x4 : Int32) (x5 : Int64) (x8 : Int32) : Prop :=
  fy_nb sc F 3 ∧ fy_nb pc F 3 ∧ fy_nb mo T 1 ∧ fy_nb cl T 1 ∧ (∀ f g, f < 12 → bt (dp f) g = true → g < f) ∧ (∀ t g, t < 16 → bt (rq t) g = true → g < F) ∧
  x4 = nI (fy_en (fy_n sc) F) ∧ (∀ g h, g < 7 → h < 7 → pl_db x5 (g * 8 + h) = bt (dp g) h) ∧ x8 = nI (pl_eh (pl_gm mo cl) T)
theorem pl_nbw {a : Nat → Int32} {m b c : Nat} (h : fy_nb a m b) (hbc : b ≤ c) : fy_nb a m c := fun f hf => ⟨(h f hf).1, Nat.le_trans (h f hf).2 hbc⟩
section
variable {xfc xtc xF xT xn xev xst : Int32} {sc pc dp fl mo cl rq te pa oc lg att al so : Nat → Int32} {ke : Nat → Int64}
theorem pl_339 {post : Int32 → Prop} {L kc ks F T : Nat} {xs : Nat → Int32} {x4 x8 : Int32} {x5 : Int64} (hL : L ≤ 260) (hF0 : 0 < F) (hF : F ≤ 6) (hT0 : 0 < T) (hT : T ≤ 4) (hp : post 1) :
    ∀ (k r j nf : Nat) (xn xev xst : Int32) (fl rq te pa : Nat → Int32) (ke : Nat → Int64) (oc lg att al so : Nat → Int32), r + k = 3 → k < nf → j ≤ 100 + r → pl_R F T sc pc dp mo cl rq x4 x5 x8 →
    wL_law_339 post L xs (nI F) x4 x5 (nI T) x8 kc ks nf (nI j) (nI r) (nI 12) (nI 16) (nI F) (nI T) xn xev xst sc pc dp fl mo cl rq te pa ke oc lg att al so := by
  intro k
  induction k with
  | zero =>
    intro r j nf xn xev xst fl rq te pa ke oc lg att al so hk hnf hj R
    obtain ⟨nf, rfl⟩ : ∃ q, nf = q + 1 := ⟨nf - 1, by omega⟩
    have e : r = 3 := by omega
    subst e
    exact br_t (by decide) hp
  | succ k ih =>
    intro r j nf xn xev xst fl rq te pa ke oc lg att al so hk hnf hj R
    obtain ⟨nf, rfl⟩ : ∃ q, nf = q + 1 := ⟨nf - 1, by omega⟩
    obtain ⟨hsc, hpc, hmo, hcl, hdp, hrq, h4, h5, h8⟩ := R
    refine br_f (nI_ge (b := 3) (by omega) (by decide)) (nm_r (nI_1 j) (pl_cell hL (by omega) (fun cc => pl_mod hF0 (by omega) (fun j1 _ => ?_))))
    refine pl_fail (by omega) hpc (fun _ fl1 => pl_mod hT0 (by omega) (fun j2 _ => pl_mod hF0 (by omega) (fun j3 _ => ?_)))
    refine pl_req (by omega) (by omega) hrq (fun _ rq1 hrq1 => ?_)
    have R1 : pl_R F T sc pc dp mo cl rq1 x4 x5 x8 := ⟨hsc, hpc, hmo, hcl, hdp, hrq1, h4, h5, h8⟩
    refine fx_run (by omega) (by omega) hpc (pl_nbw hmo (by omega)) (pl_nbw hcl (by omega)) (fun z => ?_) (fun z s te1 pa1 ke1 oc1 hs h1 h2 => ?_)
    · exact br_f (by decide) (nm_r (nI_1 r) (ih (r + 1) (j + 1) nf _ _ _ _ _ _ _ _ _ _ _ _ _ (by omega) (by omega) (by omega) R1))
    · have hok := (fy_ok_ex (fl := fl1) (sc := sc) (mo := mo) (cl := cl) (dp := dp) (T := fun q => fx_tj dp rq1 pc F T (s q)) (D := fun q => fx_dj dp rq1 pc F T (s q)) (n := fy_tt (fx_g dp rq1 pc F) T) (e := fy_e0 lg att al so) (show F ≤ 12 by omega) (fun i f => fx_dj_4 hpc _ f) (fy_e0_ok (by omega)) (fy_tt (fx_g dp rq1 pc F) T)).1
      refine br_t (nI_pos' (by omega)) ?_
      unfold wpX_eventCount
      refine pk_le (fy_ex fl1 sc mo cl dp (fun q => fx_tj dp rq1 pc F T (s q)) (fun q => fx_dj dp rq1 pc F T (s q)) (fy_tt (fx_g dp rq1 pc F) T) F (fy_e0 lg att al so) (fy_tt (fx_g dp rq1 pc F) T)).1 256 (fun y => ?_) (fun y => nm_r (nI_1 r) (ih (r + 1) (j + 1) nf _ _ _ _ _ _ _ _ _ _ _ _ _ (by omega) (by omega) (by omega) R1))
      obtain ⟨G, hA, hB, hC, hE, hQ⟩ := gh_fin (fl := fl1) (sc := sc) (mo := mo) (cl := cl) (dp := dp) (T := fun q => fx_tj dp rq1 pc F T (s q)) (D := fun q => fx_dj dp rq1 pc F T (s q)) (e0 := fy_e0 lg att al so) (oc := oc1) (show F ≤ 12 by omega) z (fun i f => fx_dj_4 hpc _ f) hdp (fy_e0_ok (by omega)) (fun f hf => fy_fill_e (by omega)) h2 y
      have hB' : ∀ k, k < (fy_ex fl1 sc mo cl dp (fun q => fx_tj dp rq1 pc F T (s q)) (fun q => fx_dj dp rq1 pc F T (s q)) (fy_tt (fx_g dp rq1 pc F) T) F (fy_e0 lg att al so) (fy_tt (fx_g dp rq1 pc F) T)).1 → (fy_ex fl1 sc mo cl dp (fun q => fx_tj dp rq1 pc F T (s q)) (fun q => fx_dj dp rq1 pc F T (s q)) (fy_tt (fx_g dp rq1 pc F) T) F (fy_e0 lg att al so) (fy_tt (fx_g dp rq1 pc F) T)).2.1 k = gh_co (G k) ∧ pl_b (G k) := fun k hk => by
        obtain ⟨b1, b2, b3, b4, b5, b6⟩ := hB k hk
        exact ⟨b1, by omega, by omega, by omega, b6⟩
      have hBF : ∀ k, k < (fy_ex fl1 sc mo cl dp (fun q => fx_tj dp rq1 pc F T (s q)) (fun q => fx_dj dp rq1 pc F T (s q)) (fy_tt (fx_g dp rq1 pc F) T) F (fy_e0 lg att al so) (fy_tt (fx_g dp rq1 pc F) T)).1 → (G k).2.2.1 < F := fun k hk => (hB k hk).2.2.2.2.1
      have hBN : ∀ k, k < (fy_ex fl1 sc mo cl dp (fun q => fx_tj dp rq1 pc F T (s q)) (fun q => fx_dj dp rq1 pc F T (s q)) (fy_tt (fx_g dp rq1 pc F) T) F (fy_e0 lg att al so) (fy_tt (fx_g dp rq1 pc F) T)).1 → (G k).2.1 < fy_tt (fx_g dp rq1 pc F) T := fun k hk => (hB k hk).2.2.2.1
      have hx5 : ∀ g h, g < F → h < F → (((x5 >>> (((nI g * 8) + nI h).toInt64 &&& 63)) &&& 1) = 0 ↔ bt (dp g) h = false) := fun g h hg hh => by
        rw [pl_dx, pl_dt (by omega), h5 g h (by omega) (by omega)]
      have hgm : ∀ t, t < T → pl_gm mo cl t < 16 := fun t ht => by
        have := (hmo t ht).2
        have := (hcl t ht).2
        unfold pl_gm
        omega
      have he4 := fy_en_lt (P := fy_n sc) (n := F) (fun f hf => by have := (hsc f hf).2; omega)
      have hp4 := Nat.pow_le_pow_right (n := 4) (by decide) hF
      have hp46 : (4 : Nat) ^ 6 = 4096 := by decide
      have he8 := pl_eh_lt (P := pl_gm mo cl) (n := T) hgm
      have hp8 := Nat.pow_le_pow_right (n := 16) (by decide) hT
      have hp84 : (16 : Nat) ^ 4 = 65536 := by decide
      have hx4 : ∀ f, f < F → ((x4 >>> ((2 * nI f) &&& 31)) &&& 3) = sc f := fun f hf => by
        rw [h4, pl_sc (by omega) (by omega), fy_en_dg (fun f hf => by have := (hsc f hf).2; omega) hf, ← (hsc f hf).1]
      have hx8 : ∀ t, t < T → ((x8 >>> ((4 * nI t) &&& 31)) &&& 15) = nI (pl_gm mo cl t) := fun t ht => by
        rw [h8, pl_t (by omega) (by omega), pl_eh_dg hgm ht]
      have hte : ∀ q, q < fy_tt (fx_g dp rq1 pc F) T → te1 q = nI (fx_tj dp rq1 pc F T (s q)) ∧ fx_tj dp rq1 pc F T (s q) < T := fun q hq => ⟨(h1 q hq).1, fy_tf_lt T _ hT0⟩
      refine ⟨258, pl_438 (Tj := fun q => fx_tj dp rq1 pc F T (s q)) (by omega) hA hB' hBF hC hE hx5 ⟨66, ?_⟩ _ 0 258 (Nat.zero_add _) (by omega)⟩
      refine pl_766 (Tn := T) (r := r) (Tj := fun q => fx_tj dp rq1 pc F T (s q)) (Dj := fun q => fx_dj dp rq1 pc F T (s q)) (by omega) hA hB' hBN hBF z hsc hC (by omega) hte hgm (fun t ht => by have := (hcl t ht).2; omega) hx8 hx4 (fun i f => fx_dj_4 hpc _ f) (fun q hq => (h1 q hq).2) hQ rfl ?_ _ 0 66 (Nat.zero_add _) (by omega)
      exact ih (r + 1) (j + 1) nf _ _ _ _ _ _ _ _ _ _ _ _ _ (by omega) (by omega) (by omega) R1
end
