/-! X: sorting by insertion -/
section
variable {xfc xtc xF xT xn xev xst : Int32} {sc pc dp fl mo cl rq te pa oc lg att al so : Nat → Int32} {ke : Nat → Int64}
theorem fx_so2 {post : St2 → Prop} {J : Int32 → (Nat → Int32) → (Nat → Int32) → (Nat → Int32) → (Nat → Int32) → (Nat → Int32) → (Nat → Int32) → (Nat → Int32) → (Nat → Int32) → (Nat → Int32) → (Nat → Int64) → (Nat → Int32) → (Nat → Int32) → (Nat → Int32) → (Nat → Int32) → (Nat → Int32) → Prop}
    {te0 pa0 : Nat → Int32} {ke0 : Nat → Int64} {K s : Nat → Nat} {m i : Nat} (hm : m ≤ 64) (hi : i < m) (hs : fy_So K i s) (hk : ∀ j, j < m → ke0 j = lN (K j) ∧ K j < 2 ^ 63)
    (hJ : ∀ (p : Nat) (te pa : Nat → Int32) (ke : Nat → Int64), fy_So K (i + 1) (fy_in s i p) → (∀ q, q < i + 1 → te q = te0 (fy_in s i p q)) ∧ (∀ q, i + 1 ≤ q → te q = te0 q) → (∀ q, q < i + 1 → pa q = pa0 (fy_in s i p q)) ∧ (∀ q, i + 1 ≤ q → pa q = pa0 q) → (∀ q, q < i + 1 → ke q = ke0 (fy_in s i p q)) ∧ (∀ q, i + 1 ≤ q → ke q = ke0 q) → J (nI (i + 1)) sc pc dp fl mo cl rq te pa ke oc lg att al so) :
    ∀ (p n : Nat) (te pa : Nat → Int32) (ke : Nat → Int64), p ≤ i → p < n → fy_iv te te0 s p i → fy_iv pa pa0 s p i → fy_iv ke ke0 s p i → (∀ q, p ≤ q → q < i → K i < K (s q)) →
    wX_sortItems_35 post J (nI i) (te0 i) (pa0 i) (ke0 i) xfc xtc xF xT (nI m) xev xst n (nI p) sc pc dp fl mo cl rq te pa ke oc lg att al so := by
  have fin : ∀ (p : Nat) (te pa : Nat → Int32) (ke : Nat → Int64), p ≤ i → fy_iv te te0 s p i → fy_iv pa pa0 s p i → fy_iv ke ke0 s p i → (∀ q, p ≤ q → q < i → K i < K (s q)) → (p = 0 ∨ K (s (p - 1)) ≤ K i) →
      J (nI i + 1) sc pc dp fl mo cl rq (upd te p (te0 i)) (upd pa p (pa0 i)) (vp_updL ke p (ke0 i)) oc lg att al so := by
    intro p te pa ke hp h1 h2 h3 h4 h5
    rw [nI_1]
    exact hJ p _ _ _ (fy_So_in hs hp h5 h4) (fy_iv_e h1 hp pk_us (fun q hq => pk_un hq)) (fy_iv_e h2 hp pk_us (fun q hq => pk_un hq)) (fy_iv_e h3 hp pk_uLs (fun q hq => pk_uLn hq))
  intro p
  induction p with
  | zero =>
    intro n te pa ke hp hn h1 h2 h3 h4
    obtain ⟨n, rfl⟩ : ∃ r, n = r + 1 := ⟨n - 1, by omega⟩
    have hv : vp_in (nI 0) 64 := vp_in_nI (by omega) (by decide)
    have F := fin 0 te pa ke hp h1 h2 h3 h4 (Or.inl rfl)
    refine br_t (by decide) ?_
    unfold wX_sortItems_109
    refine ⟨hv, nm_e ⟨hv, nm_e ⟨hv, nm_e (nm_e ?_)⟩⟩⟩
    rw [nI_clamp (by decide)]
    exact F
  | succ p ih =>
    intro n te pa ke hp hn h1 h2 h3 h4
    obtain ⟨n, rfl⟩ : ∃ r, n = r + 1 := ⟨n - 1, by omega⟩
    have hv : vp_in (nI (p + 1)) 64 := vp_in_nI (by omega) (by decide)
    have hv2 : vp_in (nI p) 64 := vp_in_nI (by omega) (by decide)
    have hc : (nI (p + 1)).toNatClampNeg = p + 1 := nI_clamp (by omega)
    have hc2 : (nI p).toNatClampNeg = p := nI_clamp (by omega)
    obtain ⟨ki, bi⟩ := hk i hi
    have hsp : s p < i := hs.1 p (by omega)
    obtain ⟨kp, bp⟩ := hk (s p) (by omega)
    have kep : ke p = lN (K (s p)) := by rw [h3.1 p (by omega), kp]
    refine br_f (nI_nle (by omega) (by omega)) ?_
    rw [nI_pred, hc2, kep, ki]
    refine ⟨hv2, ?_⟩
    by_cases z : K (s p) ≤ K i
    · refine br_t ((pk_lLE bp bi).mpr z) ?_
      have F := fin (p + 1) te pa ke hp h1 h2 h3 h4 (Or.inr (by rw [Nat.add_sub_cancel]; exact z))
      unfold wX_sortItems_109
      refine ⟨hv, nm_e ⟨hv, nm_e ⟨hv, nm_e (nm_e ?_)⟩⟩⟩
      rw [hc, ← ki]
      exact F
    · refine br_f (fun h => z ((pk_lLE bp bi).mp h)) ?_
      refine ⟨hv2, hv, nm_e ⟨hv2, hv, nm_e ⟨hv2, hv, nm_e (nm_e ?_)⟩⟩⟩
      rw [hc, pk_m1, ← ki]
      refine ih n _ _ _ (by omega) (by omega) (fy_iv_s h1 hp pk_us (fun q hq => pk_un hq)) (fy_iv_s h2 hp pk_us (fun q hq => pk_un hq)) (fy_iv_s h3 hp (by rw [pk_uLs, kep]) (fun q hq => pk_uLn hq)) (fun q hq hqi => ?_)
      by_cases e : q = p
      · subst e
        omega
      · exact h4 q (by omega) hqi
theorem fx_so1 {post : St2 → Prop} {te0 pa0 : Nat → Int32} {ke0 : Nat → Int64} {K : Nat → Nat} {m : Nat} (hm : m ≤ 64) (hk : ∀ j, j < m → ke0 j = lN (K j) ∧ K j < 2 ^ 63)
    (hJ : ∀ (s : Nat → Nat) (te pa : Nat → Int32) (ke : Nat → Int64), fy_So K m s → (∀ q, q < m → te q = te0 (s q)) → (∀ q, q < m → pa q = pa0 (s q)) → post (xfc, xtc, xF, xT, nI m, xev, xst, sc, pc, dp, fl, mo, cl, rq, te, pa, ke, oc, lg, att, al, so)) :
    ∀ (k i n : Nat) (s : Nat → Nat) (te pa : Nat → Int32) (ke : Nat → Int64), i + k = m → 1 ≤ i → k < n → fy_So K i s → (∀ q, q < i → te q = te0 (s q)) ∧ (∀ q, i ≤ q → te q = te0 q) → (∀ q, q < i → pa q = pa0 (s q)) ∧ (∀ q, i ≤ q → pa q = pa0 q) → (∀ q, q < i → ke q = ke0 (s q)) ∧ (∀ q, i ≤ q → ke q = ke0 q) →
    wX_sortItems_2 post xfc xtc xF xT (nI m) xev xst n (nI i) sc pc dp fl mo cl rq te pa ke oc lg att al so := by
  intro k
  induction k with
  | zero =>
    intro i n s te pa ke hi h0 hn hs h1 h2 h3
    obtain ⟨n, rfl⟩ : ∃ r, n = r + 1 := ⟨n - 1, by omega⟩
    have e : i = m := by omega
    subst e
    exact br_t (nI_le (Nat.le_refl _) (by omega)) (hJ s te pa ke hs h1.1 h2.1)
  | succ k ih =>
    intro i n s te pa ke hi h0 hn hs h1 h2 h3
    obtain ⟨n, rfl⟩ : ∃ r, n = r + 1 := ⟨n - 1, by omega⟩
    have hv : vp_in (nI i) 64 := vp_in_nI (by omega) (by decide)
    have hc : (nI i).toNatClampNeg = i := nI_clamp (by omega)
    refine br_f (nI_ge (by omega) (by omega)) ⟨hv, nm_e ⟨hv, nm_e ⟨hv, nm_e ⟨i + 1, ?_⟩⟩⟩⟩
    rw [hc, h1.2 i (Nat.le_refl i), h2.2 i (Nat.le_refl i), h3.2 i (Nat.le_refl i)]
    exact fx_so2 hm (by omega) hs hk (fun p te pa ke a1 a2 a3 a4 => ih (i + 1) n (fy_in s i p) te pa ke (by omega) (by omega) (by omega) a1 a2 a3 a4) i (i + 1) te pa ke (Nat.le_refl i) (by omega) (fy_iv_0 h1.1 h1.2) (fy_iv_0 h2.1 h2.2) (fy_iv_0 h3.1 h3.2) (fun q h4 h5 => by omega)
theorem fx_so {post : St2 → Prop} {K : Nat → Nat} {m : Nat} (hm : m ≤ 64) (hk : ∀ j, j < m → ke j = lN (K j) ∧ K j < 2 ^ 63)
    (hJ : ∀ (s : Nat → Nat) (te1 pa1 : Nat → Int32) (ke1 : Nat → Int64), fy_So K m s → (∀ q, q < m → te1 q = te (s q)) → (∀ q, q < m → pa1 q = pa (s q)) → post (xfc, xtc, xF, xT, nI m, xev, xst, sc, pc, dp, fl, mo, cl, rq, te1, pa1, ke1, oc, lg, att, al, so)) :
    wpX_sortItems post (xfc, xtc, xF, xT, nI m, xev, xst, sc, pc, dp, fl, mo, cl, rq, te, pa, ke, oc, lg, att, al, so) := by
  unfold wpX_sortItems
  rcases Nat.eq_zero_or_pos m with z | z
  · subst z
    exact ⟨1, br_t (by decide) (hJ id te pa ke (fy_So_0 K) (fun _ _ => rfl) (fun _ _ => rfl))⟩
  · exact ⟨m + 1, fx_so1 hm hk hJ (m - 1) 1 (m + 1) id te pa ke (by omega) (by omega) (by omega) (fy_So_1 K) ⟨fun _ _ => rfl, fun _ _ => rfl⟩ ⟨fun _ _ => rfl, fun _ _ => rfl⟩ ⟨fun _ _ => rfl, fun _ _ => rfl⟩⟩
end
