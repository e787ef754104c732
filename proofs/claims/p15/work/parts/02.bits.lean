/-! bits of an int as a set; two bits for each fixture as a row of digits -/
theorem fy_b1 : ∀ i, i < 32 → bt 1 i = decide (i = 0) := by decide +kernel
theorem fy_has (x : Int32) {f : Nat} (hf : f < 32) : ((x >>> (nI f &&& 31)) &&& 1) = 0 ↔ bt x f = false := by
  have e : ∀ i, i < 32 → bt ((x >>> (nI f &&& 31)) &&& 1) i = (decide (i = 0) && bt x f) := by
    intro i hi
    rw [b_and, fy_b1 i hi, b_sshr f hf x hi]
    cases i with
    | zero => simp [hf]
    | succ i => simp
  constructor
  · intro h
    have h0 := e 0 (by decide)
    rw [h, b_0] at h0
    simpa using h0.symm
  · intro h
    apply b_ext
    intro i hi
    rw [e i hi, h, b_0, Bool.and_false]
theorem fy_set (x : Int32) {d i : Nat} (hd : d < 32) (hi : i < 32) : bt (x ||| ((1 : Int32) <<< (nI d &&& 31))) i = (bt x i || decide (i = d)) := by
  rw [b_or, b_shl d hd 1 hi]
  congr 1
  by_cases h : d ≤ i
  · rw [fy_b1 _ (by omega), decide_eq_true h, Bool.true_and]
    exact decide_eq_decide.mpr ⟨fun h => by omega, fun h => by omega⟩
  · rw [decide_eq_false h, Bool.false_and]
    exact (decide_eq_false (by omega)).symm
theorem fy_clr (x : Int32) {g i : Nat} (hg : g < 32) (hi : i < 32) : bt (x &&& (((1 : Int32) <<< (nI g &&& 31)) ^^^ (-1))) i = (bt x i && !decide (i = g)) := by
  have h := fy_set 0 hg hi
  rw [b_or, b_0, Bool.false_or, Bool.false_or] at h
  rw [b_and, b_xor, b_m1 i hi, h, Bool.xor_true]
theorem fy_z {x : Int32} : x = 0 ↔ ∀ i, i < 32 → bt x i = false :=
  ⟨fun h i _ => by rw [h, b_0], fun h => b_ext (fun i hi => by rw [h i hi, b_0])⟩
theorem fy_nz {x : Int32} (h : ¬ x = 0) : ∃ i, i < 32 ∧ bt x i = true := by
  apply Classical.byContradiction
  intro hn
  apply h
  rw [fy_z]
  intro i hi
  cases hb : bt x i
  · rfl
  · exact absurd ⟨i, hi, hb⟩ hn
theorem fy_and0 {x y : Int32} : (x &&& y) = 0 ↔ ∀ i, i < 32 → ¬ (bt x i = true ∧ bt y i = true) := by
  rw [fy_z]
  constructor
  · intro h i hi hab
    have := h i hi
    rw [b_and, hab.1, hab.2] at this
    exact absurd this (by decide)
  · intro h i hi
    rw [b_and]
    cases ha : bt x i <;> cases hb : bt y i <;> first | rfl | exact absurd ⟨ha, hb⟩ (h i hi)
def fy_en (P : Nat → Nat) : Nat → Nat
  | 0 => 0
  | n + 1 => fy_en P n + P n * 4 ^ n
theorem fy_en_lt {P : Nat → Nat} {n : Nat} : (∀ f, f < n → P f < 4) → fy_en P n < 4 ^ n := by
  induction n with
  | zero => exact fun _ => Nat.zero_lt_one
  | succ n ih =>
    intro h
    have a := ih (fun f hf => h f (by omega))
    have b := h n (by omega)
    have c : P n * 4 ^ n ≤ 3 * 4 ^ n := Nat.mul_le_mul_right _ (by omega)
    rw [fy_en, Nat.pow_succ]
    omega
theorem fy_en_dg {P : Nat → Nat} {n f : Nat} : (∀ f, f < n → P f < 4) → f < n → fy_en P n / 4 ^ f % 4 = P f := by
  induction n with
  | zero => exact fun _ hf => absurd hf (Nat.not_lt_zero f)
  | succ n ih =>
    intro h hf
    have hb : ∀ g, g < n → P g < 4 := fun g hg => h g (by omega)
    have a := fy_en_lt hb
    rw [fy_en]
    rcases Nat.lt_or_ge f n with z | z
    · have ih2 := ih hb z
      have e : P n * 4 ^ n = 4 ^ f * (P n * 4 ^ (n - f - 1) * 4) := by
        have e1 : 4 ^ n = 4 ^ f * 4 * 4 ^ (n - f - 1) := by
          rw [← Nat.pow_succ, ← Nat.pow_add]
          exact congrArg (fun z => 4 ^ z) (by omega)
        rw [e1]
        ac_rfl
      rw [e, Nat.add_mul_div_left _ _ (Nat.pow_pos (by decide)), Nat.add_mul_mod_self_right]
      exact ih2
    · have e : f = n := by omega
      subst e
      rw [Nat.add_mul_div_right _ _ (Nat.pow_pos (by decide)), Nat.div_eq_of_lt a, Nat.zero_add, Nat.mod_eq_of_lt (h _ (by omega))]
theorem fy_en_ext {P : Nat → Nat} {m : Nat} (h : ∀ f, m ≤ f → P f = 0) : ∀ {n : Nat}, m ≤ n → fy_en P n = fy_en P m := by
  intro n
  induction n with
  | zero => intro hm; rw [show m = 0 by omega]
  | succ n ih =>
    intro hm
    rcases Nat.lt_or_ge n m with z | z
    · rw [show m = n + 1 by omega]
    · rw [fy_en, h n z, ih z, Nat.zero_mul, Nat.add_zero]
theorem fy_en_cg {P Q : Nat → Nat} : ∀ {n : Nat}, (∀ f, f < n → P f = Q f) → fy_en P n = fy_en Q n
  | 0, _ => rfl
  | n + 1, h => by rw [fy_en, fy_en, fy_en_cg (fun f hf => h f (by omega)), h n (by omega)]
theorem fy_p4 (f : Nat) : 2 ^ (f * 2) = 4 ^ f := by
  rw [Nat.mul_comm, Nat.pow_mul]
theorem fy_p12 {f : Nat} (h : f < 12) : 4 ^ f * 4 ≤ 16777216 := by
  have := Nat.pow_le_pow_right (n := 4) (by decide) (show f + 1 ≤ 12 by omega)
  rw [Nat.pow_succ] at this
  exact this
/-- what paramIn answers, of the digits e -/
theorem fy_pin {e f : Nat} (he : e < 2 ^ 31) (hf : f < 12) : ((nI e >>> ((nI f * 2) &&& 31)) &&& 3) - 1 = nI (e / 4 ^ f % 4) - 1 := by
  have h1 : nI f * 2 = nI (f * 2) := pk_mul f 2
  have h2 : e / 4 ^ f ≤ e := Nat.div_le_self _ _
  have h3 : nI (e / 4 ^ f) &&& 3 = nI (e / 4 ^ f % 4) := pk_andN (by omega) 2 (by decide)
  rw [h1, pk_shrN he _ (f * 2) (s_l _ (by omega)), fy_p4, h3]
theorem fy_or (a b : Nat) : nI a ||| nI b = nI (a ||| b) := by
  apply Int32.toBitVec_inj.1
  show BitVec.ofNat 32 a ||| BitVec.ofNat 32 b = BitVec.ofNat 32 (a ||| b)
  apply BitVec.eq_of_getLsbD_eq
  intro i hi
  simp [hi]
/-- one digit more -/
theorem fy_put {e d f : Nat} (he : e < 4 ^ f) (hd : d < 4) (hf : f < 12) : nI e ||| (nI d <<< ((nI f * 2) &&& 31)) = nI (e + d * 4 ^ f) := by
  have h1 : nI f * 2 = nI (f * 2) := pk_mul f 2
  have h3 := fy_p12 hf
  have h4 : d * 4 ^ f ≤ 3 * 4 ^ f := Nat.mul_le_mul_right _ (by omega)
  rw [h1, pk_shlN _ (f * 2) (s_l _ (by omega)) (by rw [fy_p4]; omega), fy_or, Nat.or_comm]
  have h5 := Nat.two_pow_add_eq_or_of_lt (i := f * 2) (b := e) (by rw [fy_p4]; exact he) d
  rw [Nat.mul_comm] at h5
  rw [← h5, fy_p4, Nat.add_comm]
theorem fy_m0 : nI 0 - 1 = -1 := by decide
theorem fy_ms (d : Nat) : nI (d + 1) - 1 = nI d := nI_pred d
/-- a parameter by its digit: -1 for 0 -/
theorem fy_ge {A B : Prop} (d : Nat) (hd : d < 4) (f : d = 0 → A) (g : ∀ p, d = p + 1 → p < 3 → B) : (nI d - 1 < 0 → A) ∧ (¬ nI d - 1 < 0 → B) := by
  cases d with
  | zero => exact ⟨fun _ => f rfl, fun h => absurd (show nI 0 - 1 < 0 by decide) h⟩
  | succ p => rw [fy_ms]; exact ⟨fun h => absurd h (nI_pos (by omega)), fun _ => g p rfl (by omega)⟩
theorem fy_neg1 {p : Nat} (h : p < 3) : ¬ nI p = -1 := by
  intro e
  have h2 := nI_pos (n := p) (by omega)
  rw [e] at h2
  exact h2 (by decide)
