/-! Y: teardown after an item -/
section
variable {yfc ytc yF yT yrf yn yev yst : Int32} {sc pc yd fl mo cl yr c tt tp us od it ip io lg att av ap so nt : Nat → Int32}
theorem fz_181 {post : SY → Prop} {J : Int32 → (Nat → Int32) → (Nat → Int32) → (Nat → Int32) → (Nat → Int32) → (Nat → Int32) → (Nat → Int32) → (Nat → Int32) → (Nat → Int32) → (Nat → Int32) → (Nat → Int32) → (Nat → Int32) → (Nat → Int32) → (Nat → Int32) → (Nat → Int32) → (Nat → Int32) → (Nat → Int32) → (Nat → Int32) → (Nat → Int32) → (Nat → Int32) → (Nat → Int32) → (Nat → Int32) → Prop} {m i g : Nat} {x2 : Int32} {h5 : Bool} {Tj : Nat → Nat} {Dj : Nat → Nat → Nat} (hm : m ≤ 64) (hn : i + 1 < m) (hg : g < 12) (hit : fz_it m Tj Dj it ip)
    (hJ : ∀ b : Bool, (b = true ↔ h5 = true ∨ (¬ Dj (i + 1) g = 0 ∧ ¬ nI (Dj (i + 1) g - 1) = ap g)) → J (nI (g + 1)) sc pc yd fl mo cl yr c tt tp us od it ip io lg att av ap so (upd nt g (fy_bi b))) : wY_teardownAfter_181 post J (nI i) x2 (nI g) (fy_bi h5) yfc ytc yF yT yrf yn yev yst sc pc yd fl mo cl yr c tt tp us od it ip io lg att av ap so nt := by
  obtain ⟨-, -, d4, hip⟩ := hit (i + 1) hn
  have vg : vp_in (nI g) 12 := vp_in_nI hg (by decide)
  have cg : (nI g).toNatClampNeg = g := nI_clamp (by omega)
  have xa : (nI i + 1) * 12 + nI g = nI ((i + 1) * 12 + g) := by rw [← nI_add ((i + 1) * 12) g, ← pk_mul, nI_1]; rfl
  unfold wY_teardownAfter_181
  rw [xa, nI_clamp (show (i + 1) * 12 + g < 2 ^ 31 by omega), hip g hg, cg, nI_1, fy_nrb, fy_nr1]
  have d := d4 g
  refine ⟨vp_in_nI (by omega) (by decide), nm_e (fy_ge (Dj (i + 1) g) d (fun z => ⟨vg, nm_e (nm_e (hJ h5 ?_))⟩) (fun p hp hp3 => ⟨vg, ?_⟩))⟩
  · exact ⟨Or.inl, fun q => q.elim id (fun w => absurd z w.1)⟩
  · rw [hp, fy_ms]
    rw [hp, Nat.add_sub_cancel] at hJ
    by_cases y : nI p = ap g
    · exact br_t y ⟨vg, nm_e (nm_e (hJ h5 ⟨Or.inl, fun q => q.elim id (fun w => absurd y w.2)⟩))⟩
    · exact br_f y ⟨vg, nm_e (nm_e (hJ true ⟨fun _ => Or.inr ⟨Nat.succ_ne_zero p, y⟩, fun _ => rfl⟩))⟩
theorem fz_167 {post : SY → Prop} {J : Int32 → (Nat → Int32) → (Nat → Int32) → (Nat → Int32) → (Nat → Int32) → (Nat → Int32) → (Nat → Int32) → (Nat → Int32) → (Nat → Int32) → (Nat → Int32) → (Nat → Int32) → (Nat → Int32) → (Nat → Int32) → (Nat → Int32) → (Nat → Int32) → (Nat → Int32) → (Nat → Int32) → (Nat → Int32) → (Nat → Int32) → (Nat → Int32) → (Nat → Int32) → (Nat → Int32) → Prop} {m i g : Nat} {x2 x4 : Int32} {h5 h8 : Bool} {Tj : Nat → Nat} {Dj : Nat → Nat → Nat} (hm : m ≤ 64) (hn : i + 1 < m) (hg : g < 12) (hit : fz_it m Tj Dj it ip)
    (hJ : ∀ b : Bool, (b = true ↔ h5 = true ∨ (x4 = 1 ∧ h8 = false) ∨ (¬ Dj (i + 1) g = 0 ∧ ¬ nI (Dj (i + 1) g - 1) = ap g)) → J (nI (g + 1)) sc pc yd fl mo cl yr c tt tp us od it ip io lg att av ap so (upd nt g (fy_bi b))) : wY_teardownAfter_167 post J (nI i) x2 (nI g) x4 (fy_bi h5) (fy_bi h8) yfc ytc yF yT yrf yn yev yst sc pc yd fl mo cl yr c tt tp us od it ip io lg att av ap so nt := by
  unfold wY_teardownAfter_167
  by_cases z : x4 = 1
  · refine br_t z (fy_bi_z (fun y => ?_) (fun y => ?_))
    · exact fz_181 (h5 := true) hm hn hg hit (fun b hb => hJ b ⟨fun _ => Or.inr (Or.inl ⟨z, y⟩), fun _ => hb.mpr (Or.inl rfl)⟩)
    · exact fz_181 hm hn hg hit (fun b hb => hJ b ⟨fun q => (hb.mp q).elim Or.inl (fun w => Or.inr (Or.inr w)), fun q => hb.mpr (q.elim Or.inl (fun w => w.elim (fun v => by rw [y] at v; exact absurd v.2 (by decide)) Or.inr))⟩)
  · refine br_f z (fz_181 hm hn hg hit (fun b hb => hJ b ⟨fun q => (hb.mp q).elim Or.inl (fun w => Or.inr (Or.inr w)), fun q => hb.mpr (q.elim Or.inl (fun w => w.elim (fun v => absurd v.1 z) Or.inr))⟩))
theorem fz_151 {post : SY → Prop} {J : Int32 → (Nat → Int32) → (Nat → Int32) → (Nat → Int32) → (Nat → Int32) → (Nat → Int32) → (Nat → Int32) → (Nat → Int32) → (Nat → Int32) → (Nat → Int32) → (Nat → Int32) → (Nat → Int32) → (Nat → Int32) → (Nat → Int32) → (Nat → Int32) → (Nat → Int32) → (Nat → Int32) → (Nat → Int32) → (Nat → Int32) → (Nat → Int32) → (Nat → Int32) → (Nat → Int32) → Prop} {m i g : Nat} {x2 x4 : Int32} {h5 h8 h0 : Bool} {Tj : Nat → Nat} {Dj : Nat → Nat → Nat} (hm : m ≤ 64) (hn : i + 1 < m) (hg : g < 12) (hit : fz_it m Tj Dj it ip)
    (hJ : ∀ b : Bool, (b = true ↔ h5 = true ∨ (x4 = 2 ∧ h0 = false) ∨ (x4 = 1 ∧ h8 = false) ∨ (¬ Dj (i + 1) g = 0 ∧ ¬ nI (Dj (i + 1) g - 1) = ap g)) → J (nI (g + 1)) sc pc yd fl mo cl yr c tt tp us od it ip io lg att av ap so (upd nt g (fy_bi b))) : wY_teardownAfter_151 post J (nI i) x2 (nI g) x4 (fy_bi h5) (fy_bi h8) (fy_bi h0) yfc ytc yF yT yrf yn yev yst sc pc yd fl mo cl yr c tt tp us od it ip io lg att av ap so nt := by
  unfold wY_teardownAfter_151
  by_cases z : x4 = 2
  · refine br_t z (fy_bi_z (fun y => ?_) (fun y => ?_))
    · exact fz_167 (h5 := true) hm hn hg hit (fun b hb => hJ b ⟨fun _ => Or.inr (Or.inl ⟨z, y⟩), fun _ => hb.mpr (Or.inl rfl)⟩)
    · exact fz_167 hm hn hg hit (fun b hb => hJ b ⟨fun q => (hb.mp q).elim Or.inl (fun w => Or.inr (Or.inr w)), fun q => hb.mpr (q.elim Or.inl (fun w => w.elim (fun v => by rw [y] at v; exact absurd v.2 (by decide)) Or.inr))⟩)
  · refine br_f z (fz_167 hm hn hg hit (fun b hb => hJ b ⟨fun q => (hb.mp q).elim Or.inl (fun w => Or.inr (Or.inr w)), fun q => hb.mpr (q.elim Or.inl (fun w => w.elim (fun v => absurd v.1 z) Or.inr))⟩))
theorem fz_68 {post : SY → Prop} {J : Int32 → (Nat → Int32) → (Nat → Int32) → (Nat → Int32) → (Nat → Int32) → (Nat → Int32) → (Nat → Int32) → (Nat → Int32) → (Nat → Int32) → (Nat → Int32) → (Nat → Int32) → (Nat → Int32) → (Nat → Int32) → (Nat → Int32) → (Nat → Int32) → (Nat → Int32) → (Nat → Int32) → (Nat → Int32) → (Nat → Int32) → (Nat → Int32) → (Nat → Int32) → (Nat → Int32) → Prop} {m i g : Nat} {x4 : Int32} {h5 : Bool} {Tj : Nat → Nat} {Dj : Nat → Nat → Nat} (hm : m ≤ 64) (hi : i < m) (hg : g < 12) (hit : fz_it m Tj Dj it ip)
    (hl : m ≤ i + 1 → h5 = true)
    (hJ : ∀ b : Bool, (b = true ↔ h5 = true ∨ m ≤ i + 1 ∨ (x4 = 2 ∧ ¬ (mo (Tj i) = mo (Tj (i + 1)) ∧ cl (Tj i) = cl (Tj (i + 1)))) ∨ (x4 = 1 ∧ ¬ mo (Tj i) = mo (Tj (i + 1))) ∨ (¬ Dj (i + 1) g = 0 ∧ ¬ nI (Dj (i + 1) g - 1) = ap g)) → J (nI (g + 1)) sc pc yd fl mo cl yr c tt tp us od it ip io lg att av ap so (upd nt g (fy_bi b))) :
    wY_teardownAfter_68 post J (nI i) (fy_bi (decide (m ≤ i + 1))) (nI g) x4 (fy_bi h5) yfc ytc yF yT yrf yn yev yst sc pc yd fl mo cl yr c tt tp us od it ip io lg att av ap so nt := by
  obtain ⟨t1, t2, -, -⟩ := hit i hi
  have vg : vp_in (nI g) 12 := vp_in_nI hg (by decide)
  have cg : (nI g).toNatClampNeg = g := nI_clamp (by omega)
  unfold wY_teardownAfter_68
  refine fy_bi_z (fun y => ?_) (fun y => ?_)
  · have hn : i + 1 < m := by have := of_decide_eq_false y; omega
    obtain ⟨n1, n2, -, -⟩ := hit (i + 1) hn
    have vt : vp_in (nI (Tj i)) 16 := vp_in_nI t1 (by decide)
    have ct : (nI (Tj i)).toNatClampNeg = Tj i := nI_clamp (by omega)
    have vu : vp_in (nI (Tj (i + 1))) 16 := vp_in_nI n1 (by decide)
    have cu : (nI (Tj (i + 1))).toNatClampNeg = Tj (i + 1) := nI_clamp (by omega)
    rw [nI_1]
    refine br_f (nI_ge (b := 64) (by omega) (by decide)) ⟨vp_in_nI (by omega) (by decide), ?_⟩
    rw [nI_clamp (show i < 2 ^ 31 by omega), nI_clamp (show i + 1 < 2 ^ 31 by omega), t2, n2]
    refine nm_e ⟨vp_in_nI (by omega) (by decide), nm_e ⟨vu, vt, ?_⟩⟩
    rw [ct, cu]
    by_cases y1 : mo (Tj (i + 1)) = mo (Tj i)
    · refine br_t y1 ?_
      unfold wY_teardownAfter_122
      refine br_f (by decide) ⟨vu, vt, ?_⟩
      rw [ct, cu]
      by_cases y2 : cl (Tj (i + 1)) = cl (Tj i)
      · refine br_t y2 (fz_151 (h8 := true) (h0 := true) hm hn hg hit (fun b hb => hJ b ?_))
        rw [hb]
        exact ⟨fun q => q.elim Or.inl (fun w => w.elim (fun v => absurd v.2 (by decide)) (fun w => w.elim (fun v => absurd v.2 (by decide)) (fun w => Or.inr (Or.inr (Or.inr (Or.inr w)))))), fun q => q.elim Or.inl (fun w => w.elim (fun v => by omega) (fun w => w.elim (fun v => absurd ⟨y1.symm, y2.symm⟩ v.2) (fun w => w.elim (fun v => absurd y1.symm v.2) (fun w => Or.inr (Or.inr (Or.inr w))))))⟩
      · refine br_f y2 ?_
        unfold wY_teardownAfter_150
        refine fz_151 (h8 := true) (h0 := false) hm hn hg hit (fun b hb => hJ b ?_)
        rw [hb]
        exact ⟨fun q => q.elim Or.inl (fun w => w.elim (fun v => Or.inr (Or.inr (Or.inl ⟨v.1, fun r => y2 r.2.symm⟩))) (fun w => w.elim (fun v => absurd v.2 (by decide)) (fun w => Or.inr (Or.inr (Or.inr (Or.inr w)))))), fun q => q.elim Or.inl (fun w => w.elim (fun v => by omega) (fun w => w.elim (fun v => Or.inr (Or.inl ⟨v.1, rfl⟩)) (fun w => w.elim (fun v => absurd y1.symm v.2) (fun w => Or.inr (Or.inr (Or.inr w))))))⟩
    · refine br_f y1 ?_
      unfold wY_teardownAfter_122
      refine br_t rfl ?_
      unfold wY_teardownAfter_150
      refine fz_151 (h8 := false) (h0 := false) hm hn hg hit (fun b hb => hJ b ?_)
      rw [hb]
      exact ⟨fun q => q.elim Or.inl (fun w => w.elim (fun v => Or.inr (Or.inr (Or.inl ⟨v.1, fun r => y1 r.1.symm⟩))) (fun w => w.elim (fun v => Or.inr (Or.inr (Or.inr (Or.inl ⟨v.1, fun r => y1 r.symm⟩)))) (fun w => Or.inr (Or.inr (Or.inr (Or.inr w)))))), fun q => q.elim Or.inl (fun w => w.elim (fun v => by omega) (fun w => w.elim (fun v => Or.inr (Or.inl ⟨v.1, rfl⟩)) (fun w => w.elim (fun v => Or.inr (Or.inr (Or.inl ⟨v.1, rfl⟩))) (fun w => Or.inr (Or.inr (Or.inr w))))))⟩
  · have hx := of_decide_eq_true y
    refine ⟨vg, nm_e (nm_e ?_)⟩
    rw [cg, nI_1, fy_nrb]
    exact hJ h5 ⟨Or.inl, fun _ => hl hx⟩
theorem fz_18 {post : SY → Prop} {F m i : Nat} {al : Nat → Int32} {Tj : Nat → Nat} {Dj : Nat → Nat → Nat} (hF : F ≤ 12) (hm : m ≤ 64) (hi : i < m) (hit : fz_it m Tj Dj it ip) (ha : fz_al F al av ap)
    (h : ∀ nt : Nat → Int32, (∀ g, g < F → nt g = fy_bi (decide (¬ al g = -1) && fy_eb sc mo cl Tj Dj m i al g)) → ∃ n, wY_teardownAfter_231 post (nI i) yfc ytc yF yT (nI F) yn yev yst n 0 sc pc yd fl mo cl yr c tt tp us od it ip io lg att av ap so nt) :
    ∀ (k g n : Nat) (nt : Nat → Int32), g + k = F → k < n → (∀ d, d < g → nt d = fy_bi (decide (¬ al d = -1) && fy_eb sc mo cl Tj Dj m i al d)) →
    wY_teardownAfter_18 post (nI i) (fy_bi (decide (m ≤ i + 1))) yfc ytc yF yT (nI F) yn yev yst n (nI g) sc pc yd fl mo cl yr c tt tp us od it ip io lg att av ap so nt := by
  intro k
  induction k with
  | zero =>
    intro g n nt hk hn h1
    obtain ⟨n, rfl⟩ : ∃ r, n = r + 1 := ⟨n - 1, by omega⟩
    have e : g = F := by omega
    subst e
    exact br_t (nI_le (Nat.le_refl _) (by omega)) (h nt h1)
  | succ k ih =>
    intro g n nt hk hn h1
    obtain ⟨n, rfl⟩ : ∃ r, n = r + 1 := ⟨n - 1, by omega⟩
    have vg : vp_in (nI g) 12 := vp_in_nI (by omega) (by decide)
    have cg : (nI g).toNatClampNeg = g := nI_clamp (by omega)
    have nx : ∀ nt' : Nat → Int32, nt' g = fy_bi (decide (¬ al g = -1) && fy_eb sc mo cl Tj Dj m i al g) → (∀ d, d ≠ g → nt' d = nt d) → wY_teardownAfter_18 post (nI i) (fy_bi (decide (m ≤ i + 1))) yfc ytc yF yT (nI F) yn yev yst n (nI (g + 1)) sc pc yd fl mo cl yr c tt tp us od it ip io lg att av ap so nt' := by
      intro nt' e1 e2
      refine ih (g + 1) n nt' (by omega) (by omega) (fun d hd => ?_)
      by_cases e : d = g
      · subst e
        exact e1
      · rw [e2 d e]
        exact h1 d (by omega)
    refine br_f (nI_ge (by omega) (by omega)) ⟨vg, nm_e ⟨vg, ?_⟩⟩
    rw [cg, fy_nr0]
    rcases ha g (by omega) with ⟨a1, a2⟩ | ⟨a1, a2, a3⟩
    · refine br_t a1 (nm_e ?_)
      rw [nI_1]
      refine nx _ ?_ (fun d hd => pk_un hd)
      rw [pk_us, decide_eq_false (fun q => q a2), Bool.false_and]
      rfl
    · refine br_f (by rw [a1]; decide) ⟨vg, nm_e ?_⟩
      have fin : ∀ b : Bool, (b = true ↔ sc g = 3 ∨ m ≤ i + 1 ∨ (sc g = 2 ∧ ¬ (mo (Tj i) = mo (Tj (i + 1)) ∧ cl (Tj i) = cl (Tj (i + 1)))) ∨ (sc g = 1 ∧ ¬ mo (Tj i) = mo (Tj (i + 1))) ∨ (¬ Dj (i + 1) g = 0 ∧ ¬ nI (Dj (i + 1) g - 1) = ap g)) → wY_teardownAfter_18 post (nI i) (fy_bi (decide (m ≤ i + 1))) yfc ytc yF yT (nI F) yn yev yst n (nI (g + 1)) sc pc yd fl mo cl yr c tt tp us od it ip io lg att av ap so (upd (upd nt g 0) g (fy_bi b)) := by
        intro b hb
        refine nx _ ?_ (fun d hd => by rw [pk_un hd, pk_un hd])
        rw [pk_us, decide_eq_true a2, Bool.true_and]
        apply congrArg
        rw [Bool.eq_iff_iff, hb]
        unfold fy_eb
        rw [decide_eq_true_eq, a3]
        exact ⟨fun q => q.elim Or.inl (fun q => q.elim (fun w => Or.inr (Or.inl w)) (fun q => q.elim (fun w => Or.inr (Or.inr (Or.inr (Or.inl w)))) (fun q => q.elim (fun w => Or.inr (Or.inr (Or.inr (Or.inr w)))) (fun w => Or.inr (Or.inr (Or.inl w)))))), fun q => q.elim Or.inl (fun q => q.elim (fun w => Or.inr (Or.inl w)) (fun q => q.elim (fun w => Or.inr (Or.inr (Or.inr (Or.inr w)))) (fun q => q.elim (fun w => Or.inr (Or.inr (Or.inl w))) (fun w => Or.inr (Or.inr (Or.inr (Or.inl w)))))))⟩
      by_cases z3 : sc g = 3
      · refine br_t z3 ?_
        unfold wY_teardownAfter_63
        exact fz_68 (h5 := true) hm hi (by omega) hit (fun _ => rfl) (fun b hb => fin b ⟨fun _ => Or.inl z3, fun _ => hb.mpr (Or.inl rfl)⟩)
      · refine br_f z3 (fy_bi_z (fun y => ?_) (fun y => ?_))
        · exact fz_68 (h5 := false) hm hi (by omega) hit (fun q => absurd q (of_decide_eq_false y)) (fun b hb => fin b ⟨fun q => (hb.mp q).elim (fun w => absurd w (by decide)) Or.inr, fun q => q.elim (fun w => absurd w z3) (fun w => hb.mpr (Or.inr w))⟩)
        · unfold wY_teardownAfter_63
          exact fz_68 (h5 := true) hm hi (by omega) hit (fun _ => rfl) (fun b hb => fin b ⟨fun _ => Or.inr (Or.inl (of_decide_eq_true y)), fun _ => hb.mpr (Or.inl rfl)⟩)
end
