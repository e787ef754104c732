/-! closure, counts, assignments, slots, keys: pure pictures -/
/-- the downward pass over the fixtures below m -/
def fy_go (d : Nat → Int32) : Nat → Int32 → Int32
  | 0, c => c
  | m + 1, c => fy_go d m (if bt c m = true then c ||| d m else c)
theorem fy_go_p (d : Nat → Int32) : ∀ (m : Nat) (c : Int32), (∀ f, f < m → ∀ g, bt (d f) g = true → g < f) →
    (∀ g, m ≤ g + 1 → bt (fy_go d m c) g = bt c g) ∧
    (∀ g, bt (fy_go d m c) g = true ↔ bt c g = true ∨ ∃ f, f < m ∧ bt (fy_go d m c) f = true ∧ bt (d f) g = true) := by
  intro m
  induction m with
  | zero =>
    intro c _
    refine ⟨fun _ _ => rfl, fun g => ⟨Or.inl, fun h => ?_⟩⟩
    rcases h with h | ⟨f, hf, _⟩
    · exact h
    · exact absurd hf (Nat.not_lt_zero f)
  | succ m ih =>
    intro c hd
    have hm : ∀ g, bt (d m) g = true → g < m := hd m (by omega)
    obtain ⟨i1, i2⟩ := ih (if bt c m = true then c ||| d m else c) (fun f hf => hd f (by omega))
    have hc : ∀ g, bt (if bt c m = true then c ||| d m else c) g = true ↔ bt c g = true ∨ (bt c m = true ∧ bt (d m) g = true) := by
      intro g
      by_cases h : bt c m = true
      · rw [if_pos h, b_or, Bool.or_eq_true]
        exact ⟨fun x => x.elim Or.inl (fun y => Or.inr ⟨h, y⟩), fun x => x.elim Or.inl (fun y => Or.inr y.2)⟩
      · rw [if_neg h]
        exact ⟨Or.inl, fun x => x.elim id (fun y => absurd y.1 h)⟩
    have hc2 : ∀ g, m ≤ g → bt (if bt c m = true then c ||| d m else c) g = bt c g := by
      intro g hg
      have h1 := hc g
      have h2 : ¬ bt (d m) g = true := fun x => by have := hm g x; omega
      rw [Bool.eq_iff_iff, h1]
      exact ⟨fun x => x.elim id (fun y => absurd y.2 h2), Or.inl⟩
    have hmm : bt (fy_go d m (if bt c m = true then c ||| d m else c)) m = bt c m := by
      rw [i1 m (by omega), hc2 m (by omega)]
    refine ⟨fun g hg => ?_, fun g => ?_⟩
    · show bt (fy_go d m (if bt c m = true then c ||| d m else c)) g = bt c g
      rw [i1 g (by omega), hc2 g (by omega)]
    · show bt (fy_go d m (if bt c m = true then c ||| d m else c)) g = true ↔ bt c g = true ∨ ∃ f, f < m + 1 ∧ bt (fy_go d m (if bt c m = true then c ||| d m else c)) f = true ∧ bt (d f) g = true
      rw [i2 g, hc g]
      constructor
      · intro h
        rcases h with (h | h) | ⟨f, h1, h2⟩
        · exact Or.inl h
        · exact Or.inr ⟨m, by omega, by rw [hmm]; exact h.1, h.2⟩
        · exact Or.inr ⟨f, by omega, h2⟩
      · intro h
        rcases h with h | ⟨f, h1, h2, h3⟩
        · exact Or.inl (Or.inl h)
        · rcases Nat.lt_or_ge f m with z | z
          · exact Or.inr ⟨f, z, h2, h3⟩
          · have e : f = m := by omega
            subst e
            rw [hmm] at h2
            exact Or.inl (Or.inr ⟨h2, h3⟩)
/-- K is the closure of q under the dependencies d of the fixtures below F -/
def fy_K (d : Nat → Int32) (q : Int32) (F : Nat) (K : Nat → Prop) : Prop := ∀ g, K g ↔ bt q g = true ∨ ∃ f, f < F ∧ K f ∧ bt (d f) g = true
theorem fy_go_K {d : Nat → Int32} {q : Int32} {F : Nat} (hd : ∀ f, f < F → ∀ g, bt (d f) g = true → g < f) : fy_K d q F (fun g => bt (fy_go d F q) g = true) := (fy_go_p d F q hd).2
theorem fy_K_lt {d : Nat → Int32} {q : Int32} {F : Nat} {K : Nat → Prop} (hK : fy_K d q F K) (hd : ∀ f, f < F → ∀ g, bt (d f) g = true → g < f) (hq : ∀ g, bt q g = true → g < F) {g : Nat} (h : K g) : g < F := by
  rcases (hK g).mp h with h | ⟨f, h1, h2, h3⟩
  · exact hq g h
  · have := hd f h1 g h3
    omega
/-- what holds q and is closed under the dependencies holds the closure -/
theorem fy_K_min {d : Nat → Int32} {q : Int32} {F : Nat} {K S : Nat → Prop} (hK : fy_K d q F K) (hd : ∀ f, f < F → ∀ g, bt (d f) g = true → g < f) (hq : ∀ g, bt q g = true → g < F)
    (h1 : ∀ g, bt q g = true → S g) (h2 : ∀ f, f < F → S f → ∀ g, bt (d f) g = true → S g) : ∀ g, K g → S g := by
  have key : ∀ k g, F ≤ g + k → K g → S g := by
    intro k
    induction k with
    | zero =>
      intro g hg h
      have := fy_K_lt hK hd hq h
      omega
    | succ k ih =>
      intro g hg h
      rcases (hK g).mp h with h | ⟨f, e1, e2, e3⟩
      · exact h1 g h
      · have := hd f e1 g e3
        exact h2 f e1 (ih f (by omega) e2) g e3
  exact fun g h => key F g (by omega) h
/-! values -/
def fy_n (a : Nat → Int32) (f : Nat) : Nat := (a f).toNatClampNeg
def fy_vl (a : Nat → Int32) (f : Nat) : Nat := if fy_n a f = 0 then 1 else fy_n a f
/-- all below m are naturals of at most b -/
def fy_nb (a : Nat → Int32) (m b : Nat) : Prop := ∀ f, f < m → a f = nI (fy_n a f) ∧ fy_n a f ≤ b
theorem fy_nb_of {a : Nat → Int32} {m b : Nat} (hb : b < 2 ^ 31) (h : ∀ f, f < m → ∃ n, n ≤ b ∧ a f = nI n) : fy_nb a m b := by
  intro f hf
  obtain ⟨n, h1, h2⟩ := h f hf
  have e : fy_n a f = n := by unfold fy_n; rw [h2, nI_clamp (by omega)]
  rw [e]
  exact ⟨h2, h1⟩
theorem fy_nb_upd {a : Nat → Int32} {m b n : Nat} (h : fy_nb a m b) (hb : b < 2 ^ 31) (hn : n ≤ b) : fy_nb (upd a m (nI n)) (m + 1) b := by
  apply fy_nb_of hb
  intro f hf
  by_cases e : f = m
  · subst e
    exact ⟨n, hn, pk_us⟩
  · have := h f (by omega)
    exact ⟨fy_n a f, this.2, by rw [pk_un e]; exact this.1⟩
theorem fy_vl_b {a : Nat → Int32} {m f : Nat} (h : fy_nb a m 3) (hf : f < m) : 1 ≤ fy_vl a f ∧ fy_vl a f ≤ 3 := by
  have := (h f hf).2
  unfold fy_vl
  split <;> omega
/-! how many items a closure gives -/
def fy_ct (C : Int32) (a : Nat → Int32) : Nat → Nat
  | 0 => 1
  | f + 1 => if bt C f = true then fy_ct C a f * fy_vl a f else fy_ct C a f
theorem fy_ct_b {C : Int32} {a : Nat → Int32} {m : Nat} (h : fy_nb a m 3) : ∀ f, f ≤ m → 1 ≤ fy_ct C a f ∧ fy_ct C a f ≤ 3 ^ f := by
  intro f
  induction f with
  | zero => exact fun _ => ⟨Nat.le_refl 1, Nat.le_refl 1⟩
  | succ f ih =>
    intro hf
    obtain ⟨h1, h2⟩ := ih (by omega)
    obtain ⟨v1, v2⟩ := fy_vl_b h (show f < m by omega)
    rw [fy_ct, Nat.pow_succ]
    split
    · exact ⟨Nat.mul_pos h1 v1, Nat.mul_le_mul h2 v2⟩
    · omega
theorem fy_3p {f : Nat} (h : f ≤ 12) : 3 ^ f ≤ 531441 := Nat.pow_le_pow_right (n := 3) (by decide) h
def fy_tt (g : Nat → Nat) : Nat → Nat
  | 0 => 0
  | t + 1 => fy_tt g t + g t
theorem fy_tt_m {g : Nat → Nat} {a b : Nat} (h : a ≤ b) : fy_tt g a ≤ fy_tt g b := by
  induction b with
  | zero => rw [show a = 0 by omega]; exact Nat.le_refl _
  | succ b ih =>
    rcases Nat.lt_or_ge b a with z | z
    · rw [show a = b + 1 by omega]; exact Nat.le_refl _
    · have := ih z
      rw [fy_tt]
      omega
theorem fy_tt_b {g : Nat → Nat} {b : Nat} : ∀ t, (∀ s, s < t → g s ≤ b) → fy_tt g t ≤ t * b := by
  intro t
  induction t with
  | zero => intro _; rw [fy_tt]; omega
  | succ t ih =>
    intro h
    have h1 := ih (fun s hs => h s (by omega))
    have h2 := h t (by omega)
    rw [fy_tt, Nat.add_mul]
    omega
theorem fy_tt_cg {g g' : Nat → Nat} : ∀ t, (∀ s, s < t → g s = g' s) → fy_tt g t = fy_tt g' t := by
  intro t
  induction t with
  | zero => intro _; rfl
  | succ t ih => intro h; rw [fy_tt, fy_tt, ih (fun s hs => h s (by omega)), h t (by omega)]
/-- the test of slot j -/
def fy_tf (g : Nat → Nat) : Nat → Nat → Nat
  | 0, _ => 0
  | t + 1, j => if fy_tt g t ≤ j then t else fy_tf g t j
theorem fy_tf_e {g : Nat → Nat} : ∀ (N : Nat) {t k : Nat}, t < N → k < g t → fy_tf g N (fy_tt g t + k) = t := by
  intro N
  induction N with
  | zero => intro t k h; omega
  | succ N ih =>
    intro t k ht hk
    rw [fy_tf]
    have h1 : fy_tt g (t + 1) = fy_tt g t + g t := rfl
    rcases Nat.lt_or_ge t N with z | z
    · have h2 := fy_tt_m (g := g) (show t + 1 ≤ N by omega)
      rw [if_neg (by omega)]
      exact ih z hk
    · have e : t = N := by omega
      subst e
      rw [if_pos (by omega)]
theorem fy_tf_lt {g : Nat → Nat} : ∀ (N : Nat) (j : Nat), 0 < N → fy_tf g N j < N := by
  intro N
  induction N with
  | zero => intro j h; omega
  | succ N ih =>
    intro j _
    rw [fy_tf]
    split
    · omega
    · rcases Nat.eq_zero_or_pos N with z | z
      · subst z
        exact Nat.lt_succ_self 0
      · have := ih j z
        omega
/-! the n-th assignment -/
def fy_rs (C : Int32) (a : Nat → Int32) (n : Nat) : Nat → Nat
  | 0 => n
  | f + 1 => if bt C f = true then fy_rs C a n f / fy_vl a f else fy_rs C a n f
theorem fy_rs_le (C : Int32) (a : Nat → Int32) (n : Nat) : ∀ f, fy_rs C a n f ≤ n
  | 0 => Nat.le_refl _
  | f + 1 => by
    have := fy_rs_le C a n f
    have h2 := Nat.div_le_self (fy_rs C a n f) (fy_vl a f)
    rw [fy_rs]
    split <;> omega
def fy_dg (C : Int32) (a : Nat → Int32) (F n f : Nat) : Nat := if f < F ∧ bt C f = true then fy_rs C a n f % fy_vl a f + 1 else 0
theorem fy_dg_4 {C : Int32} {a : Nat → Int32} {F : Nat} (h : fy_nb a F 3) (n f : Nat) : fy_dg C a F n f < 4 := by
  unfold fy_dg
  split
  · rename_i z
    obtain ⟨v1, v2⟩ := fy_vl_b h z.1
    have := Nat.mod_lt (fy_rs C a n f) v1
    omega
  · omega
theorem fy_dg_0 {C : Int32} {a : Nat → Int32} {F n f : Nat} (h : F ≤ f) : fy_dg C a F n f = 0 := by
  unfold fy_dg
  rw [if_neg (by omega)]
/-! keys -/
def fy_sl (sc pc : Nat → Int32) (s : Int32) (f : Nat) : Bool := decide (sc f = s) && decide (1 ≤ pc f)
def fy_ap (sel : Nat → Bool) (P : Nat → Nat) (k : Nat) : Nat → Nat
  | 0 => k
  | f + 1 => if sel f = true then fy_ap sel P k f * 4 + P f else fy_ap sel P k f
def fy_cs (sel : Nat → Bool) : Nat → Nat
  | 0 => 0
  | f + 1 => if sel f = true then fy_cs sel f + 1 else fy_cs sel f
theorem fy_ap_b {sel : Nat → Bool} {P : Nat → Nat} {k e : Nat} (hP : ∀ f, P f < 4) (hk : k < 2 ^ e) : ∀ f, fy_ap sel P k f < 2 ^ (e + 2 * fy_cs sel f) := by
  intro f
  induction f with
  | zero => exact hk
  | succ f ih =>
    rw [fy_ap, fy_cs]
    have := hP f
    split
    · rw [show e + 2 * (fy_cs sel f + 1) = e + 2 * fy_cs sel f + 1 + 1 by omega, Nat.pow_succ, Nat.pow_succ]
      omega
    · exact ih
theorem fy_ap_lt {sel : Nat → Bool} {P Q : Nat → Nat} {k l : Nat} (hP : ∀ f, P f < 4) {f : Nat} (h : fy_ap sel P k f < fy_ap sel Q l f) : ∀ F, f ≤ F → fy_ap sel P k F < fy_ap sel Q l F := by
  intro F
  induction F with
  | zero => intro hF; rw [show f = 0 by omega] at h; exact h
  | succ F ih =>
    intro hF
    rcases Nat.lt_or_ge F f with z | z
    · rw [show f = F + 1 by omega] at h; exact h
    · have h1 := ih z
      have h2 := hP F
      rw [fy_ap, fy_ap]
      split <;> omega
theorem fy_cs4 (sc pc : Nat → Int32) : ∀ f, fy_cs (fy_sl sc pc 0) f + fy_cs (fy_sl sc pc 1) f + fy_cs (fy_sl sc pc 2) f + fy_cs (fy_sl sc pc 3) f ≤ f := by
  intro f
  induction f with
  | zero => exact Nat.le_refl 0
  | succ f ih =>
    have d01 : ∀ s t : Int32, s ≠ t → fy_sl sc pc s f = true → ¬ fy_sl sc pc t f = true := by
      intro s t hst h1 h2
      unfold fy_sl at h1 h2
      rw [Bool.and_eq_true, decide_eq_true_eq] at h1 h2
      exact hst (h1.1.symm.trans h2.1)
    have a1 := d01 0 1 (by decide)
    have a2 := d01 0 2 (by decide)
    have a3 := d01 0 3 (by decide)
    have a4 := d01 1 2 (by decide)
    have a5 := d01 1 3 (by decide)
    have a6 := d01 2 3 (by decide)
    simp only [fy_cs]
    by_cases h0 : fy_sl sc pc 0 f = true
    · rw [if_pos h0, if_neg (a1 h0), if_neg (a2 h0), if_neg (a3 h0)]; omega
    · rw [if_neg h0]
      by_cases h1 : fy_sl sc pc 1 f = true
      · rw [if_pos h1, if_neg (a4 h1), if_neg (a5 h1)]; omega
      · rw [if_neg h1]
        by_cases h2 : fy_sl sc pc 2 f = true
        · rw [if_pos h2, if_neg (a6 h2)]; omega
        · rw [if_neg h2]
          split <;> omega
def fy_ky (sc pc : Nat → Int32) (F m c t : Nat) (P : Nat → Nat) : Nat :=
  fy_ap (fy_sl sc pc 3) P (fy_ap (fy_sl sc pc 2) P (fy_ap (fy_sl sc pc 1) P (fy_ap (fy_sl sc pc 0) P 0 F * 4 + m) F * 4 + c) F * 16 + t) F
theorem fy_ky_b {sc pc : Nat → Int32} {F m c t : Nat} {P : Nat → Nat} (hP : ∀ f, P f < 4) (hF : F ≤ 12) (hm : m < 4) (hc : c < 4) (ht : t < 16) :
    fy_ap (fy_sl sc pc 0) P 0 F < 2 ^ (0 + 2 * fy_cs (fy_sl sc pc 0) F) ∧
    fy_ky sc pc F m c t P < 2 ^ 32 := by
  have h4 := fy_cs4 sc pc F
  have b0 := fy_ap_b (sel := fy_sl sc pc 0) (k := 0) (e := 0) hP (by decide) F
  have b1 : fy_ap (fy_sl sc pc 0) P 0 F * 4 + m < 2 ^ (0 + 2 * fy_cs (fy_sl sc pc 0) F + 2) := by rw [Nat.pow_succ, Nat.pow_succ]; omega
  have b2 := fy_ap_b (sel := fy_sl sc pc 1) hP b1 F
  have b3 : fy_ap (fy_sl sc pc 1) P (fy_ap (fy_sl sc pc 0) P 0 F * 4 + m) F * 4 + c < 2 ^ (0 + 2 * fy_cs (fy_sl sc pc 0) F + 2 + 2 * fy_cs (fy_sl sc pc 1) F + 2) := by rw [Nat.pow_succ, Nat.pow_succ]; omega
  have b4 := fy_ap_b (sel := fy_sl sc pc 2) hP b3 F
  have b5 : fy_ap (fy_sl sc pc 2) P (fy_ap (fy_sl sc pc 1) P (fy_ap (fy_sl sc pc 0) P 0 F * 4 + m) F * 4 + c) F * 16 + t < 2 ^ (0 + 2 * fy_cs (fy_sl sc pc 0) F + 2 + 2 * fy_cs (fy_sl sc pc 1) F + 2 + 2 * fy_cs (fy_sl sc pc 2) F + 4) := by rw [Nat.pow_succ, Nat.pow_succ, Nat.pow_succ, Nat.pow_succ]; omega
  have b6 := fy_ap_b (sel := fy_sl sc pc 3) hP b5 F
  refine ⟨b0, Nat.lt_of_lt_of_le b6 (Nat.pow_le_pow_right (by decide) (by omega))⟩
def fy_cp (a b : Nat) : Int32 := if a < b then -1 else if b < a then 1 else 0
theorem fy_cp_lt (a b : Nat) : fy_cp a b < 0 ↔ a < b := by
  unfold fy_cp
  split
  · exact ⟨fun _ => by assumption, fun _ => by decide⟩
  · split
    · exact ⟨fun h => absurd h (by decide), fun h => by omega⟩
    · exact ⟨fun h => absurd h (by decide), fun h => by omega⟩
/-! the closure by rounds -/
def fy_R (q : Int32) (F : Nat) (K : Nat → Prop) (r : Nat) (S : Nat → Bool) : Prop := (∀ g, bt q g = true → S g = true) ∧ (∀ g, S g = true → K g) ∧ (∀ f, f < F → F ≤ f + 1 + r → K f → S f = true)
theorem fy_R0 {d : Nat → Int32} {q : Int32} {F : Nat} {K : Nat → Prop} (hK : fy_K d q F K) (hd : ∀ f, f < F → ∀ g, bt (d f) g = true → g < f) : fy_R q F K 0 (fun g => bt q g) := by
  refine ⟨fun g h => h, fun g h => (hK g).mpr (Or.inl h), fun f h1 h2 h3 => ?_⟩
  rcases (hK f).mp h3 with h | ⟨f', e1, e2, e3⟩
  · exact h
  · have := hd f' e1 f e3
    omega
theorem fy_Rs {d : Nat → Int32} {q : Int32} {F r : Nat} {K : Nat → Prop} {S0 S : Nat → Bool} (hK : fy_K d q F K) (hd : ∀ f, f < F → ∀ g, bt (d f) g = true → g < f) (h : fy_R q F K r S0)
    (h1 : ∀ g, S0 g = true → S g = true) (h2 : ∀ g, S g = true → K g) (h3 : ∀ f, f < F → S0 f = true → ∀ g, bt (d f) g = true → S g = true) : fy_R q F K (r + 1) S := by
  obtain ⟨a1, a2, a3⟩ := h
  refine ⟨fun g hg => h1 g (a1 g hg), h2, fun f hf hr hk => ?_⟩
  rcases (hK f).mp hk with h | ⟨f', e1, e2, e3⟩
  · exact h1 f (a1 f h)
  · have := hd f' e1 f e3
    exact h3 f' e1 (a3 f' e1 (by omega) e2) f e3
theorem fy_Re {d : Nat → Int32} {q : Int32} {F r : Nat} {K : Nat → Prop} {S : Nat → Bool} (hK : fy_K d q F K) (hd : ∀ f, f < F → ∀ g, bt (d f) g = true → g < f) (hq : ∀ g, bt q g = true → g < F) (h : fy_R q F K r S)
    (hr : F ≤ r ∨ ∀ f, f < F → S f = true → ∀ g, bt (d f) g = true → S g = true) (g : Nat) : S g = true ↔ K g := by
  obtain ⟨a1, a2, a3⟩ := h
  refine ⟨a2 g, fun hk => ?_⟩
  rcases hr with hr | hr
  · exact a3 g (fy_K_lt hK hd hq hk) (by omega) hk
  · exact fy_K_min (S := fun g => S g = true) hK hd hq a1 hr g hk
def fy_bi (b : Bool) : Int32 := if b = true then 1 else 0
theorem fy_bi_t : fy_bi true = 1 := rfl
theorem fy_bi_f : fy_bi false = 0 := rfl
theorem fy_bi_n (b : Bool) : narrow .boolean (.int (fy_bi b)) = .int (fy_bi b) := by cases b <;> rfl
theorem fy_bi_0 {b : Bool} : fy_bi b = 0 ↔ b = false := by cases b <;> decide
theorem fy_bi_z {A B : Prop} {b : Bool} (f : b = false → A) (g : b = true → B) : (fy_bi b = 0 → A) ∧ (¬ fy_bi b = 0 → B) := by
  cases b
  · exact ⟨fun _ => f rfl, fun h => absurd rfl h⟩
  · exact ⟨fun h => absurd h (by decide), fun _ => g rfl⟩
