/-! the relation -/
def fy_Rl (fc tc F T RF n ev : Nat) (sc pc dp mo cl rq te pa oc yd yr it ip io : Nat → Int32) : Prop :=
  (fc ≤ 12 ∧ tc ≤ 16 ∧ F ≤ fc ∧ T ≤ tc ∧ RF ≤ F ∧ n ≤ 64 ∧ ev ≤ 2000) ∧
  (fy_nb sc F 3 ∧ fy_nb pc F 3 ∧ fy_nb mo T 3 ∧ fy_nb cl T 3) ∧
  (∀ f g, f < 12 → g < 12 → yd (f * 12 + g) = fy_bi (bt (dp f) g)) ∧ (∀ f g, f < 12 → bt (dp f) g = true → g < f) ∧
  (∀ t g, t < 16 → g < 12 → yr (t * 12 + g) = fy_bi (bt (rq t) g)) ∧ (∀ t g, t < 16 → bt (rq t) g = true → g < F) ∧
  (∀ j, j < n → it j = te j ∧ io j = oc j ∧ ∃ D : Nat → Nat, (∀ f, D f < 4) ∧ (∀ f, RF ≤ f → D f = 0) ∧ pa j = nI (fy_en D 12) ∧ ∀ f, f < 12 → ip (j * 12 + f) = nI (D f) - 1)
/-- both states hold the same definitions (sets as bits here, as rows of booleans there) and the same results; what an execution leaves behind is alike too, but for the alive parameters -/
def i_Rel (k : Nat) (u : SX) (v : SY) : Prop :=
  ∃ (fc tc F T RF n ev : Nat) (st : Int32) (sc pc dp fl mo cl rq te pa oc lg att al so yd yr c tt tp us od it ip io av ap nt : Nat → Int32) (ke : Nat → Int64),
    u = (nI fc, nI tc, nI F, nI T, nI n, nI ev, st, sc, pc, dp, fl, mo, cl, rq, te, pa, ke, oc, lg, att, al, so) ∧
    v = (nI fc, nI tc, nI F, nI T, nI RF, nI n, nI ev, st, sc, pc, yd, fl, mo, cl, yr, c, tt, tp, us, od, it, ip, io, lg, att, av, ap, so, nt) ∧
    fy_Rl fc tc F T RF n ev sc pc dp mo cl rq te pa oc yd yr it ip io
theorem i_up {k : Nat} {u : SX} {v : SY} (h : i_Rel k u v) : i_Rel (k + 4) u v := h
theorem fy_mk {k fc tc F T RF n ev : Nat} {st : Int32} {sc pc dp fl mo cl rq te pa oc lg att al so yd yr c tt tp us od it ip io av ap nt : Nat → Int32} {ke : Nat → Int64} (h : fy_Rl fc tc F T RF n ev sc pc dp mo cl rq te pa oc yd yr it ip io) :
    i_Rel k (nI fc, nI tc, nI F, nI T, nI n, nI ev, st, sc, pc, dp, fl, mo, cl, rq, te, pa, ke, oc, lg, att, al, so) (nI fc, nI tc, nI F, nI T, nI RF, nI n, nI ev, st, sc, pc, yd, fl, mo, cl, yr, c, tt, tp, us, od, it, ip, io, lg, att, av, ap, so, nt) :=
  ⟨fc, tc, F, T, RF, n, ev, st, sc, pc, dp, fl, mo, cl, rq, te, pa, oc, lg, att, al, so, yd, yr, c, tt, tp, us, od, it, ip, io, av, ap, nt, ke, rfl, rfl, h⟩
theorem fy_clm (x : Int32) (lo hi : Nat) (h1 : lo ≤ hi) (h2 : hi < 100) : ∃ c, lo ≤ c ∧ c ≤ hi ∧ ((nI lo ≤ x ∧ x ≤ nI hi ∧ x = nI c) ∨ (nI lo ≤ x ∧ ¬ x ≤ nI hi ∧ c = hi) ∨ (¬ nI lo ≤ x ∧ c = lo)) := by
  by_cases a1 : nI lo ≤ x
  · by_cases a2 : x ≤ nI hi
    · have h0 : ¬ x < 0 := fun z => by
        have := nI_pos' (n := lo) (by omega)
        exact absurd z (Int32.not_lt.mpr (Int32.le_trans this a1))
      obtain ⟨j, hj, rfl⟩ := nI_of h0
      rw [nI_leI (by omega) hj] at a1
      rw [nI_leI hj (by omega)] at a2
      exact ⟨j, a1, a2, Or.inl ⟨nI_le a1 hj, nI_le a2 (by omega), rfl⟩⟩
    · exact ⟨hi, h1, Nat.le_refl _, Or.inr (Or.inl ⟨a1, a2, rfl⟩)⟩
  · exact ⟨lo, Nat.le_refl _, h1, Or.inr (Or.inr ⟨a1, rfl⟩)⟩
theorem i_vc0 (k0 : Int32) (k1 : Int32) : wpX_init (fun u => wpY_init (fun v => i_Rel 2 u v) k0 k1) k0 k1 := by
  obtain ⟨c1, l1, b1, h1⟩ := fy_clm k0 2 12 (by decide) (by decide)
  obtain ⟨c2, l2, b2, h2⟩ := fy_clm k1 1 16 (by decide) (by decide)
  have X1 : ∀ post : Int32 → Prop, post (nI c1) → wpX_clamp post k0 2 12 := by
    intro post hp
    unfold wpX_clamp
    rcases h1 with ⟨a1, a2, a3⟩ | ⟨a1, a2, a3⟩ | ⟨a1, a3⟩
    · exact br_t a1 (br_t a2 (by rw [a3]; exact hp))
    · subst a3
      exact br_t a1 (br_f a2 hp)
    · subst a3
      exact br_f a1 hp
  have X2 : ∀ post : Int32 → Prop, post (nI c2) → wpX_clamp post k1 1 16 := by
    intro post hp
    unfold wpX_clamp
    rcases h2 with ⟨a1, a2, a3⟩ | ⟨a1, a2, a3⟩ | ⟨a1, a3⟩
    · exact br_t a1 (br_t a2 (by rw [a3]; exact hp))
    · subst a3
      exact br_t a1 (br_f a2 hp)
    · subst a3
      exact br_f a1 hp
  have Z : i_Rel 2 (nI c1, nI c2, 0, 0, 0, 0, 0, (fun _ => 0), (fun _ => 0), (fun _ => 0), (fun _ => 0), (fun _ => 0), (fun _ => 0), (fun _ => 0), (fun _ => 0), (fun _ => 0), (fun _ => 0), (fun _ => 0), (fun _ => 0), (fun _ => 0), (fun _ => 0), (fun _ => 0)) (nI c1, nI c2, 0, 0, 0, 0, 0, 0, (fun _ => 0), (fun _ => 0), (fun _ => 0), (fun _ => 0), (fun _ => 0), (fun _ => 0), (fun _ => 0), (fun _ => 0), (fun _ => 0), (fun _ => 0), (fun _ => 0), (fun _ => 0), (fun _ => 0), (fun _ => 0), (fun _ => 0), (fun _ => 0), (fun _ => 0), (fun _ => 0), (fun _ => 0), (fun _ => 0), (fun _ => 0)) := by
    refine fy_mk (fc := c1) (tc := c2) (F := 0) (T := 0) (RF := 0) (n := 0) (ev := 0) ⟨⟨b1, b2, by omega, by omega, by omega, by omega, by omega⟩, ⟨?_, ?_, ?_, ?_⟩, fun f g _ _ => ?_, fun f g _ h => ?_, fun f g _ _ => ?_, fun f g _ h => ?_, fun j hj => absurd hj (Nat.not_lt_zero j)⟩
    · exact fun f hf => absurd hf (Nat.not_lt_zero f)
    · exact fun f hf => absurd hf (Nat.not_lt_zero f)
    · exact fun f hf => absurd hf (Nat.not_lt_zero f)
    · exact fun f hf => absurd hf (Nat.not_lt_zero f)
    · show 0 = fy_bi (bt 0 g)
      rw [b_0]
      rfl
    · have h' : bt 0 g = true := h
      rw [b_0] at h'
      exact absurd h' (by decide)
    · show 0 = fy_bi (bt 0 g)
      rw [b_0]
      rfl
    · have h' : bt 0 g = true := h
      rw [b_0] at h'
      exact absurd h' (by decide)
  unfold wpX_init
  refine X1 _ (X2 _ ?_)
  have Y2 : wY_init_199 (fun v => i_Rel 2 (nI c1, nI c2, 0, 0, 0, 0, 0, (fun _ => 0), (fun _ => 0), (fun _ => 0), (fun _ => 0), (fun _ => 0), (fun _ => 0), (fun _ => 0), (fun _ => 0), (fun _ => 0), (fun _ => 0), (fun _ => 0), (fun _ => 0), (fun _ => 0), (fun _ => 0), (fun _ => 0)) v) k1 (nI c1) 0 0 0 0 0 0 0 0 (fun _ => 0) (fun _ => 0) (fun _ => 0) (fun _ => 0) (fun _ => 0) (fun _ => 0) (fun _ => 0) (fun _ => 0) (fun _ => 0) (fun _ => 0) (fun _ => 0) (fun _ => 0) (fun _ => 0) (fun _ => 0) (fun _ => 0) (fun _ => 0) (fun _ => 0) (fun _ => 0) (fun _ => 0) (fun _ => 0) (fun _ => 0) := by
    unfold wY_init_199
    rcases h2 with ⟨a1, a2, a3⟩ | ⟨a1, a2, a3⟩ | ⟨a1, a3⟩
    · exact br_t a1 (br_t a2 (by rw [a3]; exact Z))
    · subst a3
      exact br_t a1 (br_f a2 Z)
    · subst a3
      exact br_f a1 Z
  unfold wpY_init
  rcases h1 with ⟨a1, a2, a3⟩ | ⟨a1, a2, a3⟩ | ⟨a1, a3⟩
  · exact br_t a1 (br_t a2 (by rw [a3]; exact Y2))
  · subst a3
    exact br_t a1 (br_f a2 Y2)
  · subst a3
    exact br_f a1 Y2
