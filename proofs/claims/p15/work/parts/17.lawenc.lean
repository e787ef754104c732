/-! the law's own sets: scopes, dependencies, tests -/
theorem pl_sc {e f : Nat} (he : e < 2 ^ 31) (hf : f < 12) : (nI e >>> ((2 * nI f) &&& 31)) &&& 3 = nI (e / 4 ^ f % 4) := by
  have h1 : 2 * nI f = nI (f * 2) := by rw [Nat.mul_comm]; exact pk_mul 2 f
  have h2 : e / 4 ^ f ≤ e := Nat.div_le_self _ _
  have h3 : nI (e / 4 ^ f) &&& 3 = nI (e / 4 ^ f % 4) := pk_andN (by omega) 2 (by decide)
  rw [h1, pk_shrN he _ (f * 2) (s_l _ (by omega)), fy_p4, h3]
theorem pl_scp {e d f : Nat} (he : e < 4 ^ f) (hd : d < 4) (hf : f < 12) : nI e ||| (nI d <<< ((2 * nI f) &&& 31)) = nI (e + d * 4 ^ f) := by
  have h1 : (2 : Int32) * nI f = nI f * 2 := Int32.mul_comm _ _
  rw [h1]
  exact fy_put he hd hf
def pl_eh (P : Nat → Nat) : Nat → Nat
  | 0 => 0
  | n + 1 => pl_eh P n + P n * 16 ^ n
theorem pl_eh_lt {P : Nat → Nat} {n : Nat} : (∀ f, f < n → P f < 16) → pl_eh P n < 16 ^ n := by
  induction n with
  | zero => exact fun _ => Nat.zero_lt_one
  | succ n ih =>
    intro h
    have a := ih (fun f hf => h f (by omega))
    have b := h n (by omega)
    have c : P n * 16 ^ n ≤ 15 * 16 ^ n := Nat.mul_le_mul_right _ (by omega)
    rw [pl_eh, Nat.pow_succ]
    omega
theorem pl_eh_dg {P : Nat → Nat} {n f : Nat} : (∀ f, f < n → P f < 16) → f < n → pl_eh P n / 16 ^ f % 16 = P f := by
  induction n with
  | zero => exact fun _ hf => absurd hf (Nat.not_lt_zero f)
  | succ n ih =>
    intro h hf
    have hb : ∀ g, g < n → P g < 16 := fun g hg => h g (by omega)
    have a := pl_eh_lt hb
    rw [pl_eh]
    rcases Nat.lt_or_ge f n with z | z
    · have ih2 := ih hb z
      have e : P n * 16 ^ n = 16 ^ f * (P n * 16 ^ (n - f - 1) * 16) := by
        have e1 : 16 ^ n = 16 ^ f * 16 * 16 ^ (n - f - 1) := by
          rw [← Nat.pow_succ, ← Nat.pow_add]
          exact congrArg (fun z => 16 ^ z) (by omega)
        rw [e1]
        ac_rfl
      rw [e, Nat.add_mul_div_left _ _ (Nat.pow_pos (by decide)), Nat.add_mul_mod_self_right]
      exact ih2
    · have e : f = n := by omega
      subst e
      rw [Nat.add_mul_div_right _ _ (Nat.pow_pos (by decide)), Nat.div_eq_of_lt a, Nat.zero_add, Nat.mod_eq_of_lt (h _ (by omega))]
theorem pl_eh_cg {P Q : Nat → Nat} : ∀ {n : Nat}, (∀ f, f < n → P f = Q f) → pl_eh P n = pl_eh Q n
  | 0, _ => rfl
  | n + 1, h => by rw [pl_eh, pl_eh, pl_eh_cg (fun f hf => h f (by omega)), h n (by omega)]
theorem pl_p16 (f : Nat) : 2 ^ (f * 4) = 16 ^ f := by
  rw [Nat.mul_comm, Nat.pow_mul]
theorem pl_p4 {f : Nat} (h : f < 4) : 16 ^ f * 16 ≤ 65536 := by
  have := Nat.pow_le_pow_right (n := 16) (by decide) (show f + 1 ≤ 4 by omega)
  rw [Nat.pow_succ] at this
  exact this
theorem pl_t {e t : Nat} (he : e < 2 ^ 31) (ht : t < 4) : (nI e >>> ((4 * nI t) &&& 31)) &&& 15 = nI (e / 16 ^ t % 16) := by
  have h1 : 4 * nI t = nI (t * 4) := by rw [Nat.mul_comm]; exact pk_mul 4 t
  have h2 : e / 16 ^ t ≤ e := Nat.div_le_self _ _
  have h3 : nI (e / 16 ^ t) &&& 15 = nI (e / 16 ^ t % 16) := pk_andN (by omega) 4 (by decide)
  rw [h1, pk_shrN he _ (t * 4) (s_l _ (by omega)), pl_p16, h3]
theorem pl_tp {e d t : Nat} (he : e < 16 ^ t) (hd : d < 16) (ht : t < 4) : nI e ||| (nI d <<< ((4 * nI t) &&& 31)) = nI (e + d * 16 ^ t) := by
  have h1 : 4 * nI t = nI (t * 4) := by rw [Nat.mul_comm]; exact pk_mul 4 t
  have h3 := pl_p4 ht
  have h4 : d * 16 ^ t ≤ 15 * 16 ^ t := Nat.mul_le_mul_right _ (by omega)
  rw [h1, pk_shlN _ (t * 4) (s_l _ (by omega)) (by rw [pl_p16]; omega), fy_or, Nat.or_comm]
  have h5 := Nat.two_pow_add_eq_or_of_lt (i := t * 4) (b := e) (by rw [pl_p16]; exact he) d
  rw [Nat.mul_comm] at h5
  rw [← h5, pl_p16, Nat.add_comm]
/-! a long as a set of bits -/
def pl_db (x : Int64) (k : Nat) : Bool := x.toBitVec.getLsbD k
theorem pl_s64 : ∀ n, n < 64 → (((nI n).toInt64 &&& 63).toBitVec.smod 64).toNat = n := by decide +kernel
theorem pl_one : ∀ k, k < 64 → (1 : Int64).toBitVec.getLsbD k = decide (k = 0) := by decide +kernel
theorem pl_dsr {x : Int64} {k i : Nat} (hk : k < 64) (hi : i < 64) : pl_db (x >>> ((nI k).toInt64 &&& 63)) i = if k + i < 64 then pl_db x (k + i) else pl_db x 63 := by
  unfold pl_db
  rw [Int64.toBitVec_shiftRight]
  show (x.toBitVec.sshiftRight (((nI k).toInt64 &&& 63).toBitVec.smod 64).toNat).getLsbD i = _
  rw [pl_s64 k hk, BitVec.getLsbD_sshiftRight, BitVec.msb_eq_getLsbD_last]
  simp [hi]
theorem pl_dt {x : Int64} {k : Nat} (hk : k < 64) : ((x >>> ((nI k).toInt64 &&& 63)) &&& 1) = 0 ↔ pl_db x k = false := by
  have e : ∀ i, i < 64 → ((x >>> ((nI k).toInt64 &&& 63)) &&& 1).toBitVec.getLsbD i = (decide (i = 0) && pl_db x k) := by
    intro i hi
    have h := pl_dsr (x := x) hk hi
    unfold pl_db at h
    rw [Int64.toBitVec_and, BitVec.getLsbD_and, pl_one i hi, h]
    unfold pl_db
    cases i with
    | zero => simp [hk]
    | succ i => simp
  constructor
  · intro h
    have h0 := e 0 (by decide)
    rw [h] at h0
    have z : (0 : Int64).toBitVec.getLsbD 0 = false := by decide
    rw [z] at h0
    simpa using h0.symm
  · intro h
    apply Int64.toBitVec_inj.mp
    apply BitVec.eq_of_getLsbD_eq
    intro i hi
    rw [e i hi, h, Bool.and_false]
    exact BitVec.getLsbD_zero.symm
theorem pl_ds {x : Int64} {k i : Nat} (hk : k < 64) (hi : i < 64) : pl_db (x ||| ((1 : Int64) <<< ((nI k).toInt64 &&& 63))) i = (pl_db x i || decide (i = k)) := by
  unfold pl_db
  rw [Int64.toBitVec_or, BitVec.getLsbD_or]
  congr 1
  rw [Int64.toBitVec_shiftLeft]
  show ((1 : Int64).toBitVec <<< (((nI k).toInt64 &&& 63).toBitVec.smod 64).toNat).getLsbD i = _
  rw [pl_s64 k hk, BitVec.getLsbD_shiftLeft]
  rcases Nat.lt_or_ge i k with z | z
  · rw [decide_eq_false (show ¬ i = k by omega)]
    simp [z]
  · rw [pl_one _ (by omega)]
    by_cases e : i = k
    · subst e
      simp [hi]
    · rw [decide_eq_false e, decide_eq_false (show ¬ i - k = 0 by omega), Bool.and_false]
theorem pl_d0 (k : Nat) : pl_db 0 k = false := BitVec.getLsbD_zero
theorem pl_dx (g h : Nat) : nI g * 8 + nI h = nI (g * 8 + h) := by rw [← nI_add, ← pk_mul]; rfl
